/-! ONE THING DONE TO BOTH: what makes things -/
theorem T5_ext {n : Nat} {f g : Nat → Nat → Int32} (h : ∀ i, i < n → ∀ k, k < 5 → f i k = g i k) : T5 n f = T5 n g := by
  funext i
  unfold T5
  by_cases hi : i < n
  · rw [if_pos hi, if_pos hi]
    unfold OX
    rw [h i hi 0 (by omega), h i hi 1 (by omega), h i hi 2 (by omega), h i hi 3 (by omega), h i hi 4 (by omega)]
  · rw [if_neg hi, if_neg hi]
def row5 (a b c d e : Int32) : Nat → Int32 := upd (upd (upd (upd (upd (fun _ => 0) 0 a) 1 b) 2 c) 3 d) 4 e
theorem row5_0 {a b c d e : Int32} : row5 a b c d e 0 = a := rfl
theorem row5_1 {a b c d e : Int32} : row5 a b c d e 1 = b := rfl
theorem row5_2 {a b c d e : Int32} : row5 a b c d e 2 = c := rfl
theorem row5_3 {a b c d e : Int32} : row5 a b c d e 3 = d := rfl
theorem row5_4 {a b c d e : Int32} : row5 a b c d e 4 = e := rfl
theorem row5_c {a b c : Int32} : (fun k => if k = 0 then a else if k = 1 then b else if k = 2 then c else 0 : Nat → Int32) = row5 a b c 0 0 := by
  funext k
  match k with
  | 0 => rfl
  | 1 => rfl
  | 2 => rfl
  | 3 => rfl
  | 4 => rfl
  | k + 5 =>
    unfold row5
    rw [upd_n _ _ (by omega), upd_n _ _ (by omega), upd_n _ _ (by omega), upd_n _ _ (by omega), upd_n _ _ (by omega), if_neg (by omega), if_neg (by omega), if_neg (by omega)]
section ACTS3
variable {st : DSt} {ad : Nat → Nat} {day : Int32} {nb ns nx : Nat} {gB wB : Nat → Int32} {cB sS bX : Nat → Nat → Int32} {f6 f7 g8 g9 : Nat → Int32} {a2 : Int32} {D : Int} {i j : Nat}
theorem a_cast (h : NH st ad (CT ad day nb ns nx gB wB cB sS bX f6 f7 g8 g9 (SQ ad day nb ns nx nb ns nx gB wB cB sS bX none none))) (hR : RV D day nb ns nx gB wB cB sS bX) (hi : i < nb) (h8 : ns < 8) {w g : Nat} (w1 : 1 ≤ w) (w6 : w ≤ 6) (g1 : 1 ≤ g) (g6 : g ≤ 6) {q r : Int32} (hq : 1 + q = nI w) (hr : 1 + r = nI g) (hg : (10 * nI w) * nI g ≤ gB i) : ACT (ad 0) (ad 10) D nb ns nx gB sS bX (fL_act_p596 st (some (ad 0)) (some (ad 10)) (nI ns) (nI i) (some (ad (100 + i))) q r) := by
  obtain ⟨hb, hs, hx, hd, rB, rS, rX⟩ := id hR
  obtain ⟨gi, wi, ki⟩ := rB i hi
  rw [m10] at hg
  have iw : (nI w).toInt = w := i_nI (by omega)
  have ig : (nI g).toInt = g := i_nI (by omega)
  obtain ⟨eab, eabt, ab0, ab6⟩ := sq_in (a := nI w) (b := nI g) (by omega) (by omega)
  obtain ⟨s1, e1, h1⟩ := zw_g h hi hb hs (gB i - nI w * nI g * 10)
  obtain ⟨ad1, hA1, a1, h2⟩ := z_newS h1 hb hs hx h8 hb hb (Nat.le_refl _) hx (fun _ => 0)
  have h2 := (show NH (nC s1 (.inl (0, nI0 5))) _ _ from h2)
  obtain ⟨s2, n2⟩ : ∃ s2, nC s1 (.inl (0, nI0 5)) = s2 := ⟨_, rfl⟩
  rw [n2] at h2
  obtain ⟨s3, e3, h3⟩ := zs_s h2 (i := ns) (by omega) (show ns + 1 ≤ 8 by omega) hs (p := 0) (k := 0) rfl (by omega) (nI w)
  obtain ⟨s4, e4, h4⟩ := zs_s h3 (i := ns) (by omega) (show ns + 1 ≤ 8 by omega) hs (p := 1) (k := 1) rfl (by omega) (nI g)
  have t4 := s5_temper h4 (z_b hi hb hs) (z_c hi hb hs)
  have o4 := z_bo h4 hi hb hs
  rw [hA1 (100 + i) (by omega)] at t4 o4
  obtain ⟨s5, e5, h5⟩ := zs_s h4 (i := ns) (by omega) (show ns + 1 ≤ 8 by omega) hs (p := 2) (k := 2) rfl (by omega) (temF (cB i))
  obtain ⟨s6, e6, h6⟩ := zs_s h5 (i := ns) (by omega) (show ns + 1 ≤ 8 by omega) hs (p := 3) (k := 3) rfl (by omega) 0
  obtain ⟨s7, e7, h7⟩ := zs_s h6 (i := ns) (by omega) (show ns + 1 ≤ 8 by omega) hs (p := 4) (k := 4) rfl (by omega) 0
  have er5 : va_up (va_up (va_up (va_up (va_up (va_up sS ns (fun _ => 0)) ns (upd (va_up sS ns (fun _ => 0) ns) 0 (nI w))) ns (upd (va_up (va_up sS ns (fun _ => 0)) ns (upd (va_up sS ns (fun _ => 0) ns) 0 (nI w)) ns) 1 (nI g))) ns (upd (va_up (va_up (va_up sS ns (fun _ => 0)) ns (upd (va_up sS ns (fun _ => 0) ns) 0 (nI w))) ns (upd (va_up (va_up sS ns (fun _ => 0)) ns (upd (va_up sS ns (fun _ => 0) ns) 0 (nI w)) ns) 1 (nI g)) ns) 2 (temF (cB i)))) ns (upd (va_up (va_up (va_up (va_up sS ns (fun _ => 0)) ns (upd (va_up sS ns (fun _ => 0) ns) 0 (nI w))) ns (upd (va_up (va_up sS ns (fun _ => 0)) ns (upd (va_up sS ns (fun _ => 0) ns) 0 (nI w)) ns) 1 (nI g))) ns (upd (va_up (va_up (va_up sS ns (fun _ => 0)) ns (upd (va_up sS ns (fun _ => 0) ns) 0 (nI w))) ns (upd (va_up (va_up sS ns (fun _ => 0)) ns (upd (va_up sS ns (fun _ => 0) ns) 0 (nI w)) ns) 1 (nI g)) ns) 2 (temF (cB i))) ns) 3 0)) ns (upd (va_up (va_up (va_up (va_up (va_up sS ns (fun _ => 0)) ns (upd (va_up sS ns (fun _ => 0) ns) 0 (nI w))) ns (upd (va_up (va_up sS ns (fun _ => 0)) ns (upd (va_up sS ns (fun _ => 0) ns) 0 (nI w)) ns) 1 (nI g))) ns (upd (va_up (va_up (va_up sS ns (fun _ => 0)) ns (upd (va_up sS ns (fun _ => 0) ns) 0 (nI w))) ns (upd (va_up (va_up sS ns (fun _ => 0)) ns (upd (va_up sS ns (fun _ => 0) ns) 0 (nI w)) ns) 1 (nI g)) ns) 2 (temF (cB i)))) ns (upd (va_up (va_up (va_up (va_up sS ns (fun _ => 0)) ns (upd (va_up sS ns (fun _ => 0) ns) 0 (nI w))) ns (upd (va_up (va_up sS ns (fun _ => 0)) ns (upd (va_up sS ns (fun _ => 0) ns) 0 (nI w)) ns) 1 (nI g))) ns (upd (va_up (va_up (va_up sS ns (fun _ => 0)) ns (upd (va_up sS ns (fun _ => 0) ns) 0 (nI w))) ns (upd (va_up (va_up sS ns (fun _ => 0)) ns (upd (va_up sS ns (fun _ => 0) ns) 0 (nI w)) ns) 1 (nI g)) ns) 2 (temF (cB i))) ns) 3 0) ns) 4 0) = va_up sS ns (row5 (nI w) (nI g) (temF (cB i)) 0 0) := by
    simp only [bx_uu, va_up_s]
    rfl
  rw [er5] at h7
  rw [a1] at e3 e4 e5 e6 e7
  obtain ⟨s8, ad8, e8, hA8, h8'⟩ := z_withS h7 hb hs hx (Nat.lt_succ_self ns) (show ns + 1 ≤ 8 by omega)
  rw [a1, hA1 12 (by omega)] at e8
  obtain ⟨s9, ad9, e9, hA9, h9⟩ := z_move2 (n := ns + 1) (e := fun t => t) h8' hb hs hx (show ns + 1 ≤ 8 by omega) (by omega) hb hb hx (fun t ht => ht) (fun t t' h1 h2 q => q)
  have k9 : ∀ c, c < 12 ∨ (14 < c ∧ c < 130) → ad9 c = ad c := fun c hc => (hA9 c (by omega) (by omega)).trans ((hA8 c (by omega)).trans (hA1 c (by omega)))
  rw [(hA8 10 (by omega)).trans (hA1 10 (by omega))] at e9
  obtain ⟨s10, ad10, e10, hA10, h10⟩ := t_cast h9 hb h8 hx (i := i) (p := nI i) (ixO_nI hi (by omega)) (a := nI w) (b := nI g) (by rw [i_lt, i1]; omega) (by rw [i_lt, i6]; omega) (by rw [i_lt, i1]; omega) (by rw [i_le, i6]; omega) hg
  rw [row5_c] at h10
  rw [← SQ_ad (ad := ad9) (ad' := ad10) (fun c hc => hA10 c (by omega))] at h10
  have o9 := q_oR h9
  rw [k9 0 (by omega)] at o9 e10
  have r2 := z_r2 h1
  have er : fL_act_p596 st (some (ad 0)) (some (ad 10)) (nI ns) (nI i) (some (ad (100 + i))) q r = some (1, s10) := by
    unfold fL_act_p596
    rw [ob_of _ (z_bg h hi hb hs), hq, hr, m10, ob_of _ e1, ob_of _ r2, ob_of _ (congrArg some n2), ob_of _ e3, ob_of _ e4, ob_of _ o4, ob_of _ t4, ob_of _ e5, ob_of _ e6, ob_of _ e7, ob_of _ e8, ob_of _ e9, ob_of _ o9, ob_of _ (nxo e10)]
    exact e_ok rfl
  rw [er]
  have esub : (gB i - nI w * nI g * 10).toInt = (gB i).toInt - w * g * 10 := by
    rw [i_le, eabt] at hg
    rw [i_sub] <;> rw [eabt, iw, ig] <;> (rw [iw, ig] at hg ab0 ab6) <;> omega
  rw [i_le, eabt, iw, ig] at hg
  rw [iw, ig] at ab0 ab6
  have ht := temF_in (cB i)
  have hR1 := ((hR.mono (D' := D + 5) (by omega)).bowl (i := i) (g := gB i - nI w * nI g * 10) (w := wB i) (c := cB i) ⟨⟨by omega, by omega⟩, wi, ki⟩).slabN h8 (f := row5 (nI w) (nI g) (temF (cB i)) 0 0) ⟨by rw [row5_0]; omega, by rw [row5_1]; omega, ht, by rw [row5_3]; decide, by rw [row5_4]; exact ⟨by decide, by rw [toInt_0]; omega⟩⟩
  rw [upd_id, up2_id] at hR1
  refine ⟨s10, _, _, _, _, _, _, _, _, _, rfl, ⟨ad10, _, _, _, _, (hA10 0 (by omega)).trans (k9 0 (by omega)), (hA10 10 (by omega)).trans (k9 10 (by omega)), h10⟩, hR1, ⟨Nat.le_refl _, Nat.le_succ _⟩, Int.le_refl _, ?_⟩
  rw [if_pos rfl, TT_sn, TT_g hi, row5_0, row5_1, esub, iw, ig]
  omega
theorem a_box (h : NH st ad (CT ad day nb ns nx gB wB cB sS bX f6 f7 g8 g9 (SQ ad day nb ns nx nb ns nx gB wB cB sS bX none none))) (hR : RV D day nb ns nx gB wB cB sS bX) (h6 : nx < 6) : ACT (ad 0) (ad 10) D nb ns nx gB sS bX (fL_act_p701 st (some (ad 0)) (some (ad 10)) a2) := by
  obtain ⟨hb, hs, hx, hd, rB, rS, rX⟩ := id hR
  obtain ⟨ad1, hA1, a1, h2⟩ := z_newX h hb hs hx h6 hb hb hs (Nat.le_refl _) (fun _ => 0)
  have h2 := (show NH (nC st (.inl (0, nI0 5))) _ _ from h2)
  obtain ⟨s2, n2⟩ : ∃ s2, nC st (.inl (0, nI0 5)) = s2 := ⟨_, rfl⟩
  rw [n2] at h2
  obtain ⟨r3, r31, r32⟩ := b_below (st := s2) a2 (n := 2) (m := 2) rfl (by omega) (by omega)
  have h40 : ∃ k, 1 ≤ k ∧ k ≤ 36 ∧ (if nI r3 = 0 then some (36 : Int32) else some (9 : Int32)) = some (nI k) := by
    by_cases c : nI r3 = 0
    · exact ⟨36, by omega, by omega, by rw [if_pos c]; rfl⟩
    · exact ⟨9, by omega, by omega, by rw [if_neg c]; rfl⟩
  obtain ⟨k, k1, k2, ek⟩ := h40
  obtain ⟨r5, r51, r52⟩ := b_below (st := s2) (a2 >>> (3 &&& 31)) (n := nI k) (m := k) rfl (by omega) (by omega)
  have e15 : 1 + nI r5 = nI (1 + r5) := nI_add 1 r5
  have iw : (nI (1 + r5)).toInt = 1 + r5 := by rw [i_nI (by omega)]; omega
  obtain ⟨s3, e3, h3⟩ := zs_x h2 (i := nx) (by omega) (show nx + 1 ≤ 6 by omega) hs (p := 0) (k := 0) rfl (by omega) (nI (1 + r5))
  obtain ⟨r7, r71, r72⟩ := b_below (st := s3) (a2 >>> (4 &&& 31)) (n := 101) (m := 101) rfl (by omega) (by omega)
  have i7 : (nI r7).toInt = r7 := i_nI (by omega)
  obtain ⟨s4, e4, h4⟩ := zs_x h3 (i := nx) (by omega) (show nx + 1 ≤ 6 by omega) hs (p := 1) (k := 1) rfl (by omega) (nI r7)
  obtain ⟨s5, e5, h5⟩ := zs_x h4 (i := nx) (by omega) (show nx + 1 ≤ 6 by omega) hs (p := 2) (k := 2) rfl (by omega) 0
  obtain ⟨s6, e6, h6'⟩ := zs_x h5 (i := nx) (by omega) (show nx + 1 ≤ 6 by omega) hs (p := 3) (k := 3) rfl (by omega) (-1)
  obtain ⟨s7, e7, h7⟩ := zs_x h6' (i := nx) (by omega) (show nx + 1 ≤ 6 by omega) hs (p := 4) (k := 4) rfl (by omega) (-1)
  simp only [bx_uu, va_up_s] at h7
  have h7 := (show NH s7 ad1 (CT ad1 day nb ns nx gB wB cB sS bX f6 f7 g8 g9 ((SQ ad1 day nb ns nx nb ns (nx + 1) gB wB cB sS (va_up bX nx (row5 (nI (1 + r5)) (nI r7) 0 (-1) (-1))) none none))) from h7)
  rw [a1] at e3 e4 e5 e6 e7
  obtain ⟨s8, ad8, e8, hA8, h8'⟩ := z_withX h7 hb hs hx (Nat.lt_succ_self nx) (show nx + 1 ≤ 6 by omega)
  have r3' := z_r3 h7
  rw [hA1 10 (by omega), hA1 13 (by omega)] at r3'
  rw [a1, hA1 13 (by omega)] at e8
  obtain ⟨s9, ad9, e9, hA9, h9⟩ := z_move3 (n := nx + 1) h8' hb hs hx
  have k9 : ∀ c, c < 13 ∨ (14 < c ∧ c ≠ 120 + nx) → ad9 c = ad c := fun c hc => (hA9 c (by omega)).trans ((hA8 c (by omega)).trans (hA1 c (by omega)))
  rw [(hA8 10 (by omega)).trans (hA1 10 (by omega))] at e9
  have x0 := z_xa h9 (i := nx) (by omega) (show nx + 1 ≤ 6 by omega) hs (p := 0) (k := 0) rfl (by omega)
  have x1 := z_xa h9 (i := nx) (by omega) (show nx + 1 ≤ 6 by omega) hs (p := 1) (k := 1) rfl (by omega)
  rw [va_up_s, (hA9 _ (by omega)).trans ((hA8 _ (by omega)).trans a1)] at x0 x1
  rw [row5_0] at x0
  rw [row5_1] at x1
  obtain ⟨s10, ad10, e10, hA10, h10⟩ := c_newBox h9 hb hs h6 (a := nI (1 + r5)) (b := nI r7) (by rw [i_lt, i1]; omega) (by rw [i_lt, i36]; omega) (by rw [i_lt, toInt_0]; omega) (by rw [i_le, toInt_100]; omega)
  rw [← SQ_ad (ad := ad9) (ad' := ad10) (fun c hc => hA10 c (by omega))] at h10
  unfold CT at h10
  rw [T5_ext (g := va_up bX nx (row5 (nI (1 + r5)) (nI r7) 0 (-1) (-1))) (fun m hm k hk => by
    by_cases e : m = nx
    · rw [e, va_up_s, va_up_s]
      rcases (show k = 0 ∨ k = 1 ∨ k = 2 ∨ k = 3 ∨ k = 4 by omega) with rfl | rfl | rfl | rfl | rfl <;> rfl
    · rw [va_up_n _ _ e, va_up_n _ _ e])] at h10
  have h10 := (show NH s10 ad10 (CT ad10 day nb ns (nx + 1) gB wB cB sS (va_up bX nx (row5 (nI (1 + r5)) (nI r7) 0 (-1) (-1))) f6 f7 g8 g9 (SQ ad10 day nb ns (nx + 1) nb ns (nx + 1) gB wB cB sS (va_up bX nx (row5 (nI (1 + r5)) (nI r7) 0 (-1) (-1))) none none)) from h10)
  have o9 := q_oR h9
  rw [k9 0 (by omega)] at o9 e10
  have r10 := z_r3 h10
  have n10' := z_n3 h10
  rw [(hA10 10 (by omega)).trans (k9 10 (by omega))] at r10
  have er : fL_act_p701 st (some (ad 0)) (some (ad 10)) a2 = some (1, s10) := by
    unfold fL_act_p701
    rw [ob_of _ (congrArg some n2), ob_of _ r32, ob_of _ ek, ob_of _ r52, e15, ob_of _ e3, ob_of _ r72, ob_of _ e4, ob_of _ e5, ob_of _ e6, ob_of _ e7, ob_of _ r3', ob_of _ e8, ob_of _ e9, ob_of _ x0, ob_of _ x1, ob_of _ o9, ob_of _ (nxo e10), ob_of _ r10, ob_of _ n10']
    exact e_ok (nI_pred nx).symm
  rw [er]
  obtain ⟨m1, m2, m3, m4, m5, m6, m7⟩ := hR.mono (D' := D + 5) (by omega)
  refine ⟨s10, _, _, _, _, _, _, _, _, _, rfl, ⟨ad10, _, _, _, _, (hA10 0 (by omega)).trans (k9 0 (by omega)), (hA10 10 (by omega)).trans (k9 10 (by omega)), h10⟩, ⟨m1, m2, by omega, m4, m5, m6, fun t ht => ?_⟩, ⟨Nat.le_refl _, Nat.le_succ _⟩, ?_, ?_⟩
  · by_cases e : t = nx
    · rw [e, va_up_s]
      exact ⟨by rw [row5_0]; omega, by rw [row5_1]; omega, Or.inl ⟨rfl, rfl, rfl⟩⟩
    · rw [va_up_n _ _ e]
      exact m7 t (by omega)
  · rw [FF_xn, row5_2, toInt_0]
    omega
  · rw [if_pos rfl, TT_xn, row5_2, toInt_0]
    omega
end ACTS3
