/-! THE TWO ARE THE SAME -/
def FV (day : Int32) (nb ns nx : Nat) (bl p q r : Int32) (k : Nat) : Int32 := if k = 0 then day else if k = 1 then nI nb else if k = 2 then nI ns else if k = 3 then nI nx else if k = 4 then p else if k = 5 then q else if k = 6 then r else bl
def AG (n : Nat) (f g : Nat → Int32) : Prop := ∀ k, k < n → f k = g k
theorem FV_4 {day : Int32} {nb ns nx : Nat} {bl p q r v : Int32} {f : Nat → Int32} (h : AG 8 f (FV day nb ns nx bl p q r)) : AG 8 (upd f 4 v) (FV day nb ns nx bl v q r) := fun k hk => by
  by_cases c : k = 4
  · rw [c, upd_s]; rfl
  · rw [upd_n _ _ c, h k hk]
    unfold FV
    rw [if_neg c, if_neg c]
theorem FV_5 {day : Int32} {nb ns nx : Nat} {bl p q r v : Int32} {f : Nat → Int32} (h : AG 8 f (FV day nb ns nx bl p q r)) : AG 8 (upd f 5 v) (FV day nb ns nx bl p v r) := fun k hk => by
  by_cases c : k = 5
  · rw [c, upd_s]; rfl
  · rw [upd_n _ _ c, h k hk]
    unfold FV
    rw [if_neg c, if_neg c]
theorem FV_6 {day : Int32} {nb ns nx : Nat} {bl p q r v : Int32} {f : Nat → Int32} (h : AG 8 f (FV day nb ns nx bl p q r)) : AG 8 (upd f 6 v) (FV day nb ns nx bl p q v) := fun k hk => by
  by_cases c : k = 6
  · rw [c, upd_s]; rfl
  · rw [upd_n _ _ c, h k hk]
    unfold FV
    rw [if_neg c, if_neg c]
theorem mean_eq : ∀ b, b < 9 → 0 < b → ∀ a, a < 801 → Op.cmpValue (FP.dcmp (FP.ddiv (FP.i2d (nI a)) (FP.i2d (nI b))) (FP.ddiv (FP.i2d (nI a)) (FP.i2d (nI b)))) .l = 0 := by decide +kernel
section SAME
variable {st : DSt} {ad : Nat → Nat} {day : Int32} {nb ns nx : Nat} {gB wB : Nat → Int32} {cB sS bX : Nat → Nat → Int32} {f6 f7 g8 g9 : Nat → Int32} {Q : Nat → Option DCel} {dy : Int32} {lb ls lx mb ms mx : Nat} {hB vB : Nat → Int32} {dB tS yX : Nat → Nat → Int32} {e4 e5 : Option DCel} {i k : Nat} {p : Int32}
theorem z_g14 {n : Nat} {f : Nat → Int32} (h : NH st ad (CT ad day nb ns nx gB wB cB sS bX f6 f7 g8 g9 ((SQ ad dy lb ls lx mb ms mx hB vB dB tS yX (some (ARR n f)) e5)))) (hp : p = nI k) (hk : k < n) (hn : n < 100) : aI st (some (ad 14)) 0 p = some (f k) := l_aI (c := 14) h z_14 k hp hk (by omega)
theorem z_g15 {n : Nat} {f : Nat → Int32} (h : NH st ad (CT ad day nb ns nx gB wB cB sS bX f6 f7 g8 g9 ((SQ ad dy lb ls lx mb ms mx hB vB dB tS yX e4 (some (ARR n f)))))) (hp : p = nI k) (hk : k < n) (hn : n < 100) : aI st (some (ad 15)) 0 p = some (f k) := l_aI (c := 15) h z_15 k hp hk (by omega)
theorem z_w14 {n : Nat} {f : Nat → Int32} (h : NH st ad (CT ad day nb ns nx gB wB cB sS bX f6 f7 g8 g9 ((SQ ad dy lb ls lx mb ms mx hB vB dB tS yX (some (ARR n f)) e5)))) (hp : p = nI k) (hk : k < n) (hn : n < 100) (v : Int32) : ∃ st', sI st (some (ad 14)) 0 p v = some st' ∧ NH st' ad (CT ad day nb ns nx gB wB cB sS bX f6 f7 g8 g9 ((SQ ad dy lb ls lx mb ms mx hB vB dB tS yX (some (ARR n (upd f k v))) e5))) := ⟨_, l_sI (c := 14) h z_14 k hp hk (by omega) v, by
  have q := h.set (c := 14) z_14 (ARR n (upd f k v))
  rw [z_up4] at q
  exact q⟩
theorem z_w15 {n : Nat} {f : Nat → Int32} (h : NH st ad (CT ad day nb ns nx gB wB cB sS bX f6 f7 g8 g9 ((SQ ad dy lb ls lx mb ms mx hB vB dB tS yX e4 (some (ARR n f)))))) (hp : p = nI k) (hk : k < n) (hn : n < 100) (v : Int32) : ∃ st', sI st (some (ad 15)) 0 p v = some st' ∧ NH st' ad (CT ad day nb ns nx gB wB cB sS bX f6 f7 g8 g9 ((SQ ad dy lb ls lx mb ms mx hB vB dB tS yX e4 (some (ARR n (upd f k v)))))) := ⟨_, l_sI (c := 15) h z_15 k hp hk (by omega) v, by
  have q := h.set (c := 15) z_15 (ARR n (upd f k v))
  rw [z_up5] at q
  exact q⟩
theorem z_back {ad' : Nat → Nat} (h : NH st ad' (CT (ad') day nb ns nx gB wB cB sS bX f6 f7 g8 g9 ((SQ (ad') dy lb ls lx mb ms mx hB vB dB tS yX e4 none)))) (hb : nb ≤ 5) (hs : ns ≤ 8) (hx : nx ≤ 6) (hA : ∀ c, c ≠ 15 → ad' c = ad c) : NH st ad (CT ad day nb ns nx gB wB cB sS bX f6 f7 g8 g9 ((SQ ad dy lb ls lx mb ms mx hB vB dB tS yX e4 none))) := by
  rw [CT_ad (ad := ad) (fun c hc => hA c (by omega)) hb hs hx, SQ_ad (ad := ad) (fun c hc => hA c (by omega))] at h
  exact h.adr fun d e hd => (hA d fun c => by rw [c] at hd; cases hd).symm
end SAME
section SAME2
variable {st : DSt} {ad : Nat → Nat} {day : Int32} {nb ns nx : Nat} {gB wB : Nat → Int32} {cB sS bX : Nat → Nat → Int32} {f6 f7 g8 g9 : Nat → Int32} {i k : Nat} {p q r bl : Int32} {st0 : DSt} {f : Nat → Int32}
theorem sm_62 (h : NH st ad (CT ad day nb ns nx gB wB cB sS bX f6 f7 g8 g9 ((SQ ad day nb ns nx nb ns nx gB wB cB sS bX (some (ARR 8 (f))) none)))) (ha : st0.1 = ad 14) (hb : nb ≤ 5) (hs : ns ≤ 8) (hx : nx ≤ 6) (hk : k < nb) (hf : AG 8 f (FV day nb ns nx bl p q r)) : ∃ st' f', fX6_isSame_L62 st0 (ad 10) (some (ad 0)) (st, nI k) = some (.inl (st', nI k + 1)) ∧ NH st' ad (CT ad day nb ns nx gB wB cB sS bX f6 f7 g8 g9 ((SQ ad day nb ns nx nb ns nx gB wB cB sS bX (some (ARR 8 (f'))) none))) ∧ AG 8 f' (FV day nb ns nx bl p (q + gB k) r) := by
  obtain ⟨a1, k1, a15, h0⟩ := z_new5 h hb hs hx (.inl (0, nI0 8))
  obtain ⟨s1, e1, h1⟩ := z_w15 h0 (p := 0) (k := 0) rfl (by omega) (by omega) (gB k)
  obtain ⟨s2, e2, h2⟩ := z_w15 h1 (p := 1) (k := 1) rfl (by omega) (by omega) (cB k 1)
  obtain ⟨s3, e3, h3⟩ := z_w15 h2 (p := 2) (k := 2) rfl (by omega) (by omega) (cB k 2)
  obtain ⟨s4, e4, h4⟩ := z_w15 h3 (p := 3) (k := 3) rfl (by omega) (by omega) (cB k 3)
  obtain ⟨s5, e5, h5⟩ := z_w15 h4 (p := 4) (k := 4) rfl (by omega) (by omega) (cB k 4)
  obtain ⟨s6, e6, h6⟩ := z_w15 h5 (p := 5) (k := 5) rfl (by omega) (by omega) (cB k 5)
  obtain ⟨s7, e7, h7⟩ := z_w15 h6 (p := 6) (k := 6) rfl (by omega) (by omega) (wB k)
  obtain ⟨s8, e8, h8⟩ := z_w15 h7 (p := 7) (k := 7) rfl (by omega) (by omega) (temF (cB k))
  obtain ⟨b, g1, g2⟩ := dlp_run (fX6_isSame_L166 (some (a1 0)) (st, nI k) s8) (fun t z => z = nI t) (fun b => ∃ y, b = .inl y) 8 (fun t z ht hz => by
    subst hz
    unfold fX6_isSame_L166
    dsimp only
    by_cases t8 : t = 8
    · subst t8
      exact Or.inr ⟨_, if_pos (Int32.le_refl _), _, rfl⟩
    · refine Or.inl ⟨nI t + 1, ?_, by omega, nI_1 t⟩
      have e9 := z_g15 h8 (p := nI t) (k := t) rfl (by omega) (by omega)
      rw [if_neg (show ¬ (8 : Int32) ≤ nI t from nI_ge (b := 8) (by omega) (by omega)), ob_of _ (q_oR h8), ob_of _ (nxo (c_told h8 (ixO_nI hk (by omega)) hb (k := t) (by omega))), ← a15, ob_of _ e9]
      refine if_pos ?_
      rcases (show t = 0 ∨ t = 1 ∨ t = 2 ∨ t = 3 ∨ t = 4 ∨ t = 5 ∨ t = 6 ∨ t = 7 by omega) with e | e | e | e | e | e | e | e <;> subst e <;> rfl) 0 rfl
  obtain ⟨y, rfl⟩ := g2
  obtain ⟨s9, e9, h9⟩ := z_w14 h8 (p := 5) (k := 5) rfl (by omega) (by omega) (f 5 + gB k)
  refine ⟨s9, _, ?_, z_back (z_drop5 h9) hb hs hx k1, ?_⟩
  · unfold fX6_isSame_L62
    dsimp only
    rw [ob_of _ (z_r1 h), ob_of _ (z_n1 h), if_neg (nI_ge hk (by omega)), ob_of _ (z_r1 h), ob_of _ (z_a1 h rfl hk hb)]
    rw [ob_of _ (rfl : some (nC st (.inl (0, nI0 8))) = some (nC st (.inl (0, nI0 8)))), ← a15, ha, ← k1 14 (by omega), ← k1 0 (by omega), ← k1 (100 + k) (by omega)]
    rw [ob_of _ (z_bg h0 hk hb hs), ob_of _ e1]
    rw [ob_of _ (z_bc h1 hk hb hs), ob_of _ (z_ca h1 hk hb hs (p := 1) (k := 1) rfl (by omega)), ob_of _ e2]
    rw [ob_of _ (z_bc h2 hk hb hs), ob_of _ (z_ca h2 hk hb hs (p := 2) (k := 2) rfl (by omega)), ob_of _ e3]
    rw [ob_of _ (z_bc h3 hk hb hs), ob_of _ (z_ca h3 hk hb hs (p := 3) (k := 3) rfl (by omega)), ob_of _ e4]
    rw [ob_of _ (z_bc h4 hk hb hs), ob_of _ (z_ca h4 hk hb hs (p := 4) (k := 4) rfl (by omega)), ob_of _ e5]
    rw [ob_of _ (z_bc h5 hk hb hs), ob_of _ (z_ca h5 hk hb hs (p := 5) (k := 5) rfl (by omega)), ob_of _ e6]
    rw [ob_of _ (z_bw h6 hk hb hs), ob_of _ e7, ob_of _ (z_bo h7 hk hb hs), ob_of _ (s5_temper h7 (z_b hk hb hs) (z_c hk hb hs)), ob_of _ e8, ob_of _ g1]
    dsimp only
    rw [ob_of _ (z_g14 h8 (p := 5) (k := 5) rfl (by omega) (by omega)), ob_of _ (z_bg h8 hk hb hs), ob_of _ e9]
  · have e : f 5 = q := hf 5 (by omega)
    rw [e]
    exact FV_5 hf
theorem sm_248 (h : NH st ad (CT ad day nb ns nx gB wB cB sS bX f6 f7 g8 g9 ((SQ ad day nb ns nx nb ns nx gB wB cB sS bX (some (ARR 8 (f))) none)))) (hs : ns ≤ 8) (hx : nx ≤ 6) (hk : k < ns) {u v : Int32} : ∃ b, dlp (fX6_isSame_L248 (ad 10) (st, u, v) (some (ad (130 + k)))) (-1, nI nx - 1) = some b ∧ b.1 = ansN (firstN (fun j => fitB (bX j) (sS k) (sS k 3)) nx) := by
  obtain ⟨b, g1, g2⟩ := dlp_run (fX6_isSame_L248 (ad 10) (st, u, v) (some (ad (130 + k)))) (fun t z => ∃ j, j + t = nx ∧ z.2 = nI j + (-1) ∧ ((z.1 = -1 ∧ ∀ i, j ≤ i → i < nx → fitB (bX i) (sS k) (sS k 3) = false) ∨ ∃ i, j ≤ i ∧ i < nx ∧ z.1 = nI i ∧ fitB (bX i) (sS k) (sS k 3) = true ∧ ∀ i', j ≤ i' → i' < i → fitB (bX i') (sS k) (sS k 3) = false)) (fun b => b.1 = ansN (firstN (fun j => fitB (bX j) (sS k) (sS k 3)) nx)) nx (fun t z ht hz => by
    obtain ⟨j, j1, j2, j3⟩ := hz
    obtain ⟨z1, z2⟩ := z
    dsimp only at j2 j3
    subst j2
    unfold fX6_isSame_L248
    dsimp only
    rcases j with _ | j
    · refine Or.inr ⟨_, if_pos (by decide), ?_⟩
      dsimp only
      rcases j3 with ⟨c1, c2⟩ | ⟨i, c1, c2, c3, c4, c5⟩
      · rw [firstN_none.mpr fun i hi => c2 i (by omega) hi, c1]
        rfl
      · rw [firstN_is (k := i) c2 c4 fun i' hi => c5 i' (by omega) hi, c3]
        rfl
    · refine Or.inl ?_
      have hj : j < nx := by omega
      rw [nI_m1, if_neg (by rw [i_lt, i_nI (by omega), toInt_0]; omega), ob_of _ (z_r3 h), ob_of _ (z_a3 h (p := nI j) rfl hj hx), ob_of _ (s6_fits h (z_s hk hs hs) (z_x hj hx hs))]
      cases hB2 : fitB (bX j) (sS k) (sS k 3)
      · refine ⟨(z1, nI j + (-1)), rfl, by omega, j, by omega, rfl, ?_⟩
        rcases j3 with ⟨c1, c2⟩ | ⟨i, c1, c2, c3, c4, c5⟩
        · refine Or.inl ⟨c1, fun i i1 i2 => ?_⟩
          rcases Nat.eq_or_lt_of_le i1 with e | e
          · rw [← e]; exact hB2
          · exact c2 i (by omega) i2
        · refine Or.inr ⟨i, by omega, c2, c3, c4, fun i' i1 i2 => ?_⟩
          rcases Nat.eq_or_lt_of_le i1 with e | e
          · rw [← e]; exact hB2
          · exact c5 i' (by omega) i2
      · exact ⟨(nI j, nI j + (-1)), rfl, by omega, j, by omega, rfl, Or.inr ⟨j, Nat.le_refl _, hj, rfl, hB2, fun i' i1 i2 => by omega⟩⟩) (-1, nI nx + (-1)) ⟨nx, rfl, rfl, Or.inl ⟨rfl, fun i i1 i2 => by omega⟩⟩
  rw [Int32.sub_eq_add_neg]
  exact ⟨b, g1, g2⟩
theorem sm_217 (h : NH st ad (CT ad day nb ns nx gB wB cB sS bX f6 f7 g8 g9 ((SQ ad day nb ns nx nb ns nx gB wB cB sS bX (some (ARR 8 (f))) none)))) (ha : st0.1 = ad 14) (hb : nb ≤ 5) (hs : ns ≤ 8) (hx : nx ≤ 6) (hk : k < ns) (hf : AG 8 f (FV day nb ns nx bl p q r)) (u : Int32) : ∃ st' f', fX6_isSame_L217 st0 (ad 10) (some (ad 0)) (st, u, nI k) = some (.inl (st', u + sS k 3, nI k + 1)) ∧ NH st' ad (CT ad day nb ns nx gB wB cB sS bX f6 f7 g8 g9 ((SQ ad day nb ns nx nb ns nx gB wB cB sS bX (some (ARR 8 (f'))) none))) ∧ AG 8 f' (FV day nb ns nx bl p q (r + sS k 0 * sS k 1)) := by
  obtain ⟨b6, g6, r6⟩ := sm_248 h hs hx hk (u := u) (v := nI k)
  obtain ⟨b, g1, g2⟩ := dlp_run (fX6_isSame_L281 (some (ad 0)) (st, u, nI k) (some (ad (130 + k)))) (fun t z => z = nI t) (fun b => ∃ y, b = .inl y) 5 (fun t z ht hz => by
    subst hz
    unfold fX6_isSame_L281
    dsimp only
    by_cases t8 : t = 5
    · subst t8
      exact Or.inr ⟨_, if_pos (Int32.le_refl _), _, rfl⟩
    · refine Or.inl ⟨nI t + 1, ?_, by omega, nI_1 t⟩
      rw [if_neg (show ¬ (5 : Int32) ≤ nI t from nI_ge (b := 5) (by omega) (by omega)), ob_of _ (q_oR h), ob_of _ (nxo (c_about h (ixO_nI hk (by omega)) hs hx (k := t) (by omega))), ob_of _ (z_sa h hk hs hs (p := nI t) (k := t) rfl (by omega))]
      refine if_pos ?_
      unfold aboutV
      rw [if_pos (by omega)]) 0 rfl
  obtain ⟨y, rfl⟩ := g2
  obtain ⟨s9, e9, h9⟩ := z_w14 h (p := 6) (k := 6) rfl (by omega) (by omega) (f 6 + sS k 0 * sS k 1)
  refine ⟨s9, _, ?_, h9, ?_⟩
  · unfold fX6_isSame_L217
    dsimp only
    rw [ob_of _ (z_r2 h), ob_of _ (z_n2 h), if_neg (nI_ge hk (by omega)), ob_of _ (z_r2 h), ob_of _ (z_a2 h rfl hk hs), ob_of _ (z_r3 h), ob_of _ (z_n3 h), ob_of _ g6, ob_of _ g1]
    dsimp only
    rw [ob_of _ (q_oR h), ob_of _ (nxo (show fX4_about st (ad 0) (nI k) 5 = some (.inr (aboutV (sS k) bX nx 5)) from c_about h (ixO_nI hk (by omega)) hs hx (k := 5) (by omega))), ob_of _ (z_sa h hk hs hs (p := 0) (k := 0) rfl (by omega)), ob_of _ (z_sa h hk hs hs (p := 1) (k := 1) rfl (by omega)), if_pos (show aboutV (sS k) bX nx 5 = sS k 0 * sS k 1 from rfl)]
    rw [ob_of _ (q_oR h), ob_of _ (nxo (show fX4_about st (ad 0) (nI k) 6 = some (.inr (aboutV (sS k) bX nx 6)) from c_about h (ixO_nI hk (by omega)) hs hx (k := 6) (by omega))), if_pos (show aboutV (sS k) bX nx 6 = b6.1 from r6.symm), ha]
    rw [ob_of _ (z_g14 h (p := 6) (k := 6) rfl (by omega) (by omega)), ob_of _ (z_sa h hk hs hs (p := 0) (k := 0) rfl (by omega)), ob_of _ (z_sa h hk hs hs (p := 1) (k := 1) rfl (by omega)), ob_of _ e9, ob_of _ (z_sa h9 hk hs hs (p := 3) (k := 3) rfl (by omega))]
  · have e : f 6 = r := hf 6 (by omega)
    rw [e]
    exact FV_6 hf
theorem sm_377 (h : NH st ad (CT ad day nb ns nx gB wB cB sS bX f6 f7 g8 g9 ((SQ ad day nb ns nx nb ns nx gB wB cB sS bX (some (ARR 8 (f))) none)))) (ha : st0.1 = ad 14) (hb : nb ≤ 5) (hs : ns ≤ 8) (hx : nx ≤ 6) (hk : k < nx) (h01 : bX k 2 = 0 ∨ bX k 2 = 1) (hf : AG 8 f (FV day nb ns nx bl p q r)) : ∃ st' f', fX6_isSame_L377 st0 (ad 10) (some (ad 0)) (st, nI k) = some (.inl (st', nI k + 1)) ∧ NH st' ad (CT ad day nb ns nx gB wB cB sS bX f6 f7 g8 g9 ((SQ ad day nb ns nx nb ns nx gB wB cB sS bX (some (ARR 8 (f'))) none))) ∧ AG 8 f' (FV day nb ns nx bl (p + bX k 2) q r) := by
  obtain ⟨b, g1, g2⟩ := dlp_run (fX6_isSame_L390 (ad 10) (some (ad 0)) (st, nI k)) (fun t z => z = nI t) (fun b => ∃ y, b = .inl y) 5 (fun t z ht hz => by
    subst hz
    unfold fX6_isSame_L390
    dsimp only
    by_cases t8 : t = 5
    · subst t8
      exact Or.inr ⟨_, if_pos (Int32.le_refl _), _, rfl⟩
    · refine Or.inl ⟨nI t + 1, ?_, by omega, nI_1 t⟩
      rw [if_neg (show ¬ (5 : Int32) ≤ nI t from nI_ge (b := 5) (by omega) (by omega)), ob_of _ (q_oR h), ob_of _ (nxo (c_order h (ixO_nI hk (by omega)) hx h01 (k := t) (by omega))), ob_of _ (z_r3 h), ob_of _ (z_a3 h (p := nI k) rfl hk hx), ob_of _ (z_xa h hk hx hs (p := nI t) (k := t) rfl (by omega))]
      exact if_pos rfl) 0 rfl
  obtain ⟨y, rfl⟩ := g2
  obtain ⟨s9, e9, h9⟩ := z_w14 h (p := 4) (k := 4) rfl (by omega) (by omega) (f 4 + bX k 2)
  refine ⟨s9, _, ?_, h9, ?_⟩
  · unfold fX6_isSame_L377
    dsimp only
    rw [ob_of _ (z_r3 h), ob_of _ (z_n3 h), if_neg (nI_ge hk (by omega)), ob_of _ g1]
    dsimp only
    rw [ha, ob_of _ (z_g14 h (p := 4) (k := 4) rfl (by omega) (by omega)), ob_of _ (z_r3 h), ob_of _ (z_a3 h (p := nI k) rfl hk hx), ob_of _ (z_xa h hk hx hs (p := 2) (k := 2) rfl (by omega)), ob_of _ e9]
  · have e : f 4 = p := hf 4 (by omega)
    rw [e]
    exact FV_4 hf
theorem cntX_add (h01 : bX k 2 = 0 ∨ bX k 2 = 1) (a : Int32) : cntX bX k a = a + bX k 2 := by
  unfold cntX
  rcases h01 with e | e
  · rw [if_pos e, e, Int32.add_zero]
  · rw [if_neg (by rw [e]; decide), e]
theorem same_0 {D : Int} (h : NH (nC st (.inl (0, nI0 8))) ad (CT ad day nb ns nx gB wB cB sS bX f6 f7 g8 g9 ((SQ ad day nb ns nx nb ns nx gB wB cB sS bX (some (ARR 8 (fun _ => 0))) none)))) (ha : st.1 = ad 14) (hR : RV D day nb ns nx gB wB cB sS bX) : ∃ st' f', fX6_isSame st (ad 10) (some (ad 0)) = some (1, st') ∧ NH st' ad (CT ad day nb ns nx gB wB cB sS bX f6 f7 g8 g9 ((SQ ad day nb ns nx nb ns nx gB wB cB sS bX (some (ARR 8 (f'))) none))) := by
  obtain ⟨hb, hs, hx, hd, rB, rS, rX⟩ := id hR
  have h01 : ∀ k, k < nx → bX k 2 = 0 ∨ bX k 2 = 1 := fun k hk => by
    rcases (rX k hk).2.2 with q | q
    · exact Or.inl q.1
    · exact Or.inr q.1
  obtain ⟨s1, e1, h1⟩ := z_w14 h (p := 0) (k := 0) rfl (by omega) (by omega) day
  obtain ⟨s2, e2, h2⟩ := z_w14 h1 (p := 1) (k := 1) rfl (by omega) (by omega) (nI nb)
  obtain ⟨s3, e3, h3⟩ := z_w14 h2 (p := 2) (k := 2) rfl (by omega) (by omega) (nI ns)
  obtain ⟨s4, e4, h4⟩ := z_w14 h3 (p := 3) (k := 3) rfl (by omega) (by omega) (nI nx)
  obtain ⟨s5, e5, h5⟩ := z_w14 h4 (p := 4) (k := 4) rfl (by omega) (by omega) 0
  obtain ⟨s6, e6, h6⟩ := z_w14 h5 (p := 5) (k := 5) rfl (by omega) (by omega) 0
  obtain ⟨s7, e7, h7⟩ := z_w14 h6 (p := 6) (k := 6) rfl (by omega) (by omega) 0
  obtain ⟨s8, e8, h8⟩ := z_w14 h7 (p := 7) (k := 7) rfl (by omega) (by omega) (foldN (cntB sS) ns 0)
  obtain ⟨b1, g1, y1, rfl, f1, i1, a1⟩ := dli_run (fX6_isSame_L62 st (ad 10) (some (ad 0))) (fun k z => z.2 = nI k ∧ ∃ f, NH z.1 ad (CT ad day nb ns nx gB wB cB sS bX f6 f7 g8 g9 ((SQ ad day nb ns nx nb ns nx gB wB cB sS bX (some (ARR 8 (f))) none))) ∧ AG 8 f (FV day nb ns nx (foldN (cntB sS) ns 0) 0 (foldN (cntG gB) k 0) 0)) (fun b => ∃ y, b = .inl y ∧ ∃ f, NH y.1 ad (CT ad day nb ns nx gB wB cB sS bX f6 f7 g8 g9 ((SQ ad day nb ns nx nb ns nx gB wB cB sS bX (some (ARR 8 (f))) none))) ∧ AG 8 f (FV day nb ns nx (foldN (cntB sS) ns 0) 0 (foldN (cntG gB) nb 0) 0)) nb 6 (by omega) (fun k z hk hz => by
    obtain ⟨z1, z2⟩ := z
    obtain ⟨hz2, f, hz, hf⟩ := hz
    dsimp only at hz2 hz
    subst hz2
    by_cases c : k = nb
    · subst c
      refine Or.inr ⟨.inl (z1, nI k), ?_, _, rfl, f, hz, hf⟩
      unfold fX6_isSame_L62
      dsimp only
      rw [ob_of _ (z_r1 hz), ob_of _ (z_n1 hz), if_pos (Int32.le_refl _)]
    · obtain ⟨s, f', e, hn, hf'⟩ := sm_62 hz ha hb hs hx (show k < nb by omega) hf
      exact Or.inl ⟨_, e, by omega, nI_1 k, f', hn, hf'⟩) (s8, 0) ⟨rfl, _, h8, fun k hk => by
    rcases (show k = 0 ∨ k = 1 ∨ k = 2 ∨ k = 3 ∨ k = 4 ∨ k = 5 ∨ k = 6 ∨ k = 7 by omega) with e | e | e | e | e | e | e | e <;> subst e <;> rfl⟩
  obtain ⟨b2, g2, y2, rfl, t2, f2, i2, a2⟩ := dlp_run (fX6_isSame_L217 st (ad 10) (some (ad 0))) (fun k z => z.2.2 = nI k ∧ z.2.1 = foldN (cntM sS) k 0 ∧ ∃ f, NH z.1 ad (CT ad day nb ns nx gB wB cB sS bX f6 f7 g8 g9 ((SQ ad day nb ns nx nb ns nx gB wB cB sS bX (some (ARR 8 (f))) none))) ∧ AG 8 f (FV day nb ns nx (foldN (cntB sS) ns 0) 0 (foldN (cntG gB) nb 0) (foldN (cntQ sS) k 0))) (fun b => ∃ y, b = .inl y ∧ y.2.1 = foldN (cntM sS) ns 0 ∧ ∃ f, NH y.1 ad (CT ad day nb ns nx gB wB cB sS bX f6 f7 g8 g9 ((SQ ad day nb ns nx nb ns nx gB wB cB sS bX (some (ARR 8 (f))) none))) ∧ AG 8 f (FV day nb ns nx (foldN (cntB sS) ns 0) 0 (foldN (cntG gB) nb 0) (foldN (cntQ sS) ns 0))) ns (fun k z hk hz => by
    obtain ⟨z1, z2, z3⟩ := z
    obtain ⟨hz2, hz3, f, hz, hf⟩ := hz
    dsimp only at hz2 hz3 hz
    subst hz2
    by_cases c : k = ns
    · subst c
      refine Or.inr ⟨.inl (z1, z2, nI k), ?_, _, rfl, hz3, f, hz, hf⟩
      unfold fX6_isSame_L217
      dsimp only
      rw [ob_of _ (z_r2 hz), ob_of _ (z_n2 hz), if_pos (Int32.le_refl _)]
    · obtain ⟨s, f', e, hn, hf'⟩ := sm_217 hz ha hb hs hx (show k < ns by omega) hf z2
      exact Or.inl ⟨_, e, by omega, nI_1 k, by rw [hz3]; rfl, f', hn, hf'⟩) (y1.1, 0, 0) ⟨rfl, rfl, f1, i1, a1⟩
  obtain ⟨b3, g3, y3, rfl, f3, i3, a3⟩ := dlp_run (fX6_isSame_L377 st (ad 10) (some (ad 0))) (fun k z => z.2 = nI k ∧ ∃ f, NH z.1 ad (CT ad day nb ns nx gB wB cB sS bX f6 f7 g8 g9 ((SQ ad day nb ns nx nb ns nx gB wB cB sS bX (some (ARR 8 (f))) none))) ∧ AG 8 f (FV day nb ns nx (foldN (cntB sS) ns 0) (foldN (cntX bX) k 0) (foldN (cntG gB) nb 0) (foldN (cntQ sS) ns 0))) (fun b => ∃ y, b = .inl y ∧ ∃ f, NH y.1 ad (CT ad day nb ns nx gB wB cB sS bX f6 f7 g8 g9 ((SQ ad day nb ns nx nb ns nx gB wB cB sS bX (some (ARR 8 (f))) none))) ∧ AG 8 f (FV day nb ns nx (foldN (cntB sS) ns 0) (foldN (cntX bX) nx 0) (foldN (cntG gB) nb 0) (foldN (cntQ sS) ns 0))) nx (fun k z hk hz => by
    obtain ⟨z1, z2⟩ := z
    obtain ⟨hz2, f, hz, hf⟩ := hz
    dsimp only at hz2 hz
    subst hz2
    by_cases c : k = nx
    · subst c
      refine Or.inr ⟨.inl (z1, nI k), ?_, _, rfl, f, hz, hf⟩
      unfold fX6_isSame_L377
      dsimp only
      rw [ob_of _ (z_r3 hz), ob_of _ (z_n3 hz), if_pos (Int32.le_refl _)]
    · obtain ⟨s, f', e, hn, hf'⟩ := sm_377 hz ha hb hs hx (show k < nx by omega) (h01 k (by omega)) hf
      refine Or.inl ⟨_, e, by omega, nI_1 k, f', hn, ?_⟩
      rw [foldN_s, cntX_add (h01 k (by omega))]
      exact hf') (y2.1, 0) ⟨rfl, f2, i2, a2⟩
  obtain ⟨b4, g4, y4, rfl⟩ := dlp_run (fX6_isSame_L449 st (some (ad 0)) y3) (fun t z => z = nI t) (fun b => ∃ y, b = .inl y) 8 (fun t z ht hz => by
    subst hz
    unfold fX6_isSame_L449
    by_cases t8 : t = 8
    · subst t8
      exact Or.inr ⟨_, if_pos (Int32.le_refl _), _, rfl⟩
    · refine Or.inl ⟨nI t + 1, ?_, by omega, nI_1 t⟩
      rw [if_neg (show ¬ (8 : Int32) ≤ nI t from nI_ge (b := 8) (by omega) (by omega)), ob_of _ (q_oR i3), ob_of _ (nxo (c_count i3 hb hs hx (k := t) (by omega))), ha, ob_of _ (z_g14 i3 (p := nI t) (k := t) rfl (by omega) (by omega))]
      refine if_pos ?_
      rw [a3 t (by omega)]
      rfl) 0 rfl
  have hM := cntM_in (sS := sS) (ns := ns) (n := ns) (Nat.le_refl _) hs (fun i hi => (rS i hi).2.2.2.1)
  refine ⟨y3.1, f3, ?_, i3⟩
  unfold fX6_isSame
  rw [ob_of _ (rfl : some (nC st (.inl (0, nI0 8))) = some (nC st (.inl (0, nI0 8)))), ha]
  rw [ob_of _ (z_day h), ob_of _ e1, ob_of _ (z_r1 h1), ob_of _ (z_n1 h1), ob_of _ e2, ob_of _ (z_r2 h2), ob_of _ (z_n2 h2), ob_of _ e3, ob_of _ (z_r3 h3), ob_of _ (z_n3 h3), ob_of _ e4, ob_of _ e5, ob_of _ e6, ob_of _ e7, ob_of _ (z_oR h7), ob_of _ (z_bloomed h7 hs rfl hs), ob_of _ e8, ob_of _ g1]
  dsimp only
  rw [ob_of _ g2]
  dsimp only
  rw [ob_of _ g3]
  dsimp only
  rw [ob_of _ g4]
  dsimp only
  rw [ob_of _ (q_oR i3), ob_of _ (c_mean i3 hs fun i hi => (rS i hi).2.2.2.1), ob_of _ (z_r2 i3), ob_of _ (z_n2 i3)]
  by_cases h0 : ns = 0
  · rw [if_pos (show nI ns = 0 by rw [h0]; rfl), ob_of _ rfl]
    unfold meanV
    rw [if_pos h0, if_pos (by decide +kernel)]
    rfl
  · obtain ⟨a, a1', e, -⟩ := toN (x := foldN (cntM sS) ns 0) 800 hM.1 (by omega) (by omega)
    have en : ¬ nI ns = 0 := by rw [i_eq, i_nI (by omega), toInt_0]; omega
    rw [if_neg en, ob_of _ (z_r2 i3), ob_of _ (z_n2 i3), t2, e, ob_of _ (oDD_ok (by omega) (by omega) (by omega)), ob_of _ rfl]
    unfold meanV
    rw [if_neg h0, if_pos (mean_eq ns (by omega) (by omega) a (by omega))]
    rfl
theorem same_ok {D : Int} {a0 a10 : Nat} (hI : IV a0 a10 day nb ns nx gB wB cB sS bX st) (hR : RV D day nb ns nx gB wB cB sS bX) : ∃ st', fX6_isSame st a10 (some a0) = some (1, st') ∧ IV a0 a10 day nb ns nx gB wB cB sS bX st' := by
  obtain ⟨ad, f6, f7, g8, g9, rfl, rfl, h⟩ := hI
  obtain ⟨ad1, k1, a14, h1⟩ := z_new4 h hR.1 hR.2.1 hR.2.2.1 (.inl (0, nI0 8))
  obtain ⟨st', f', e, h2⟩ := same_0 h1 a14.symm hR
  rw [k1 10 (by omega), k1 0 (by omega)] at e
  exact ⟨st', e, ad1, _, _, _, _, k1 0 (by omega), k1 10 (by omega), z_drop4 h2⟩
end SAME2
