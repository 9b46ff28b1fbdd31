/-! THE CALLS THAT TELL; pass, until, pour -/
theorem fitB_eq {b s b' s' : Nat → Int32} {bl bl' : Int32} (hb : ∀ k, k < 5 → b k = b' k) (hs : ∀ k, k < 5 → s k = s' k) (h : bl = bl') : fitB b s bl = fitB b' s' bl' := by
  unfold fitB suitB
  rw [hb 0 (by omega), hb 1 (by omega), hb 2 (by omega), hs 0 (by omega), hs 1 (by omega), hs 2 (by omega), h]
def moreV (t a : Int32) : Int32 := (100 - t) / 10 + (2 * (jmax 0 (a - 24)))
theorem moreV_in {t a : Int32} (h1 : 0 ≤ t.toInt) (h2 : t.toInt ≤ 100) (h3 : 10 ≤ a.toInt) (h4 : a.toInt ≤ 40) : 0 ≤ (moreV t a).toInt ∧ (moreV t a).toInt ≤ 42 := by
  have e1 : (100 - t).toInt = 100 - t.toInt := by rw [i_sub] <;> rw [toInt_100] <;> omega
  have e10 : (10 : Int32).toInt = 10 := by decide
  have e24 : (24 : Int32).toInt = 24 := by decide
  have e2 : ((100 - t) / 10).toInt = (100 - t.toInt) / 10 := by rw [i_div (by rw [e1]; omega) (by rw [e10]; omega), e1, e10]
  have e3 : (a - 24).toInt = a.toInt - 24 := by rw [i_sub] <;> rw [e24] <;> omega
  have e4 : (jmax 0 (a - 24)).toInt = max 0 (a.toInt - 24) := by rw [i_max, e3, toInt_0]
  have e5 : (2 * (jmax 0 (a - 24))).toInt = 2 * max 0 (a.toInt - 24) := by rw [i_mul] <;> rw [e4, toInt_2] <;> omega
  unfold moreV
  rw [i_add] <;> rw [e2, e5] <;> omega
def ageF (a n : Int32) (x : Nat → Int32) : Nat → Int32 := upd (upd x 3 (jmin 100 (x 3 + (n * moreV (x 2) a)))) 4 (x 4 + n)
def agC (a n : Int32) (sS : Nat → Nat → Int32) (ns k : Nat) : Nat → Nat → Int32 := fun j => if j < k ∧ j < ns then ageF a n (sS j) else sS j
section CPASS
variable {st : DSt} {ad : Nat → Nat} {day : Int32} {nb ns nx : Nat} {gB wB : Nat → Int32} {cB sS bX : Nat → Nat → Int32} {f6 f7 g8 g9 : Nat → Int32} {Q : Nat → Option DCel} {i j : Nat} {p : Int32}
theorem c_dayBloom (h : NH st ad (CT ad day nb ns nx gB wB cB sS bX f6 f7 g8 g9 Q)) (hi : i < ns) (a : Int32) : fX3_bloomOfADay st (ad (60 + i)) a = some (moreV (sS i 2) a) := by
  unfold fX3_bloomOfADay
  rw [ob_of _ (q_s0 h hi), ob_of _ (oD_of (by decide))]
  rfl
theorem c_stand (a n : Int32) (h : NH st ad (CT ad day nb ns nx gB wB cB sS bX f6 f7 g8 g9 Q)) (hi : i < ns) : ∃ st', fX3_standFor st (ad (60 + i)) n a = some st' ∧ NH st' ad (CT ad day nb ns nx gB wB cB (va_up sS i (ageF a n (sS i))) bX f6 f7 g8 g9 Q) := by
  obtain ⟨s1, e1, h1⟩ := w_s3 h hi (jmin 100 (sS i 3 + (n * moreV (sS i 2) a)))
  obtain ⟨s2, e2, h2⟩ := w_s4 h1 hi (sS i 4 + n)
  rw [bx_uu, va_up_s] at h2
  unfold fX3_standFor
  rw [ob_of _ (q_s3 h hi), ob_of _ (q_so h hi), ob_of _ (c_dayBloom h hi a), ob_of _ e1, ob_of _ (q_s4 h1 hi), va_up_s, upd_n _ _ (by decide), ob_of _ e2]
  exact ⟨_, rfl, h2⟩
theorem c_passL (a n : Int32) (h : NH st ad (CT ad day nb ns nx gB wB cB sS bX f6 f7 g8 g9 Q)) (hs : ns ≤ 8) : ∃ b, dlp (fX4_pass_L37 a n (some (ad 2)) 8) (st, 0) = some b ∧ NH b.1 ad (CT ad day nb ns nx gB wB cB (agC a n sS ns 8) bX f6 f7 g8 g9 Q) := by
  obtain ⟨b, g1, g2⟩ := dlp_run (fX4_pass_L37 a n (some (ad 2)) 8) (fun k z => z.2 = nI k ∧ NH z.1 ad (CT ad day nb ns nx gB wB cB (agC a n sS ns k) bX f6 f7 g8 g9 Q)) (fun b => NH b.1 ad (CT ad day nb ns nx gB wB cB (agC a n sS ns 8) bX f6 f7 g8 g9 Q)) 8 (fun k z hk hz => by
    obtain ⟨z1, z2⟩ := z
    obtain ⟨rfl, hz⟩ := hz
    dsimp only at hz
    unfold fX4_pass_L37
    dsimp only
    by_cases h5 : k = 8
    · subst h5
      exact Or.inr ⟨_, if_pos (show (8 : Int32) ≤ nI 8 by decide), hz⟩
    · refine Or.inl ?_
      rw [if_neg (show ¬ (8 : Int32) ≤ nI k from nI_ge (b := 8) (by omega) (by omega)), ob_of _ (q_aRs hz rfl (by omega))]
      by_cases hi : k < ns
      · obtain ⟨s1, e1, h1⟩ := c_stand a n hz hi
        rw [if_pos hi]
        show ∃ s', (oB (oR z1 (some (ad (60 + k))) 3) _) = _ ∧ _
        rw [ob_of _ (q_so hz hi), ob_of _ e1]
        refine ⟨_, rfl, by omega, nI_1 _, ?_⟩
        have e : va_up (agC a n sS ns k) k (ageF a n (agC a n sS ns k k)) = agC a n sS ns (k + 1) := by
          funext j
          have ek : agC a n sS ns k k = sS k := if_neg (by omega)
          by_cases hj : j = k
          · rw [hj, va_up_s, ek]
            exact (if_pos ⟨by omega, hi⟩).symm
          · rw [va_up_n _ _ hj]
            by_cases h3 : j < k ∧ j < ns
            · exact (if_pos h3).trans (if_pos ⟨by omega, h3.2⟩).symm
            · exact (if_neg h3).trans (if_neg (by omega)).symm
        rw [e] at h1
        exact h1
      · rw [if_neg hi]
        refine ⟨_, rfl, by omega, nI_1 _, ?_⟩
        have e : agC a n sS ns k = agC a n sS ns (k + 1) := by
          funext j
          by_cases h3 : j < k ∧ j < ns
          · exact (if_pos h3).trans (if_pos ⟨by omega, h3.2⟩).symm
          · exact (if_neg h3).trans (if_neg (by omega)).symm
        rw [← e]
        exact hz) (st, 0) ⟨rfl, by
          have e : agC a n sS ns 0 = sS := by funext j; exact if_neg (by omega)
          dsimp only
          rw [e]; exact h⟩
  exact ⟨b, g1, g2⟩
end CPASS

/-! POUR -/
def mixV (x y a b : Int32) : Int32 := ((x * a) + (y * b)) / (a + b)
theorem mixV_in {x y a b : Int32} (x1 : 0 ≤ x.toInt) (x2 : x.toInt ≤ 100) (y1 : 0 ≤ y.toInt) (y2 : y.toInt ≤ 100) (a1 : 0 ≤ a.toInt) (a2 : a.toInt ≤ 2000) (b1 : 0 ≤ b.toInt) (b2 : b.toInt ≤ 2000) (hs : 0 < a.toInt + b.toInt) : 0 ≤ (mixV x y a b).toInt ∧ (mixV x y a b).toInt * (a.toInt + b.toInt) ≤ x.toInt * a.toInt + y.toInt * b.toInt := by
  have m1 := Int.mul_nonneg x1 a1
  have m2 := Int.mul_nonneg y1 b1
  have m3 := Int.mul_le_mul x2 a2 a1 (by omega)
  have m4 := Int.mul_le_mul y2 b2 b1 (by omega)
  have e1 : (x * a).toInt = x.toInt * a.toInt := i_mul (by omega) (by omega)
  have e2 : (y * b).toInt = y.toInt * b.toInt := i_mul (by omega) (by omega)
  have e3 : ((x * a) + (y * b)).toInt = x.toInt * a.toInt + y.toInt * b.toInt := by rw [i_add] <;> rw [e1, e2] <;> omega
  have e4 : (a + b).toInt = a.toInt + b.toInt := i_add (by omega) (by omega)
  unfold mixV
  rw [i_div (by rw [e3]; omega) (by rw [e4]; omega), e3, e4]
  exact ⟨Int.ediv_nonneg (by omega) (by omega), Int.ediv_mul_le _ (by omega)⟩
theorem BC.mix {f g : Nat → Int32} (hf : BC f) (hg : BC g) {a b : Int32} (a1 : 0 ≤ a.toInt) (a2 : a.toInt ≤ 2000) (b1 : 0 ≤ b.toInt) (b2 : b.toInt ≤ 2000) (hs : 0 < a.toInt + b.toInt) : BC (fun k => mixV (f k) (g k) a b) := by
  have M := fun k (k1 : 1 ≤ k) (k2 : k ≤ 5) => mixV_in (hf.one k1 k2).1 (hf.one k1 k2).2 (hg.one k1 k2).1 (hg.one k1 k2).2 a1 a2 b1 b2 hs
  obtain ⟨p1, q1⟩ := M 1 (by omega) (by omega)
  obtain ⟨p2, q2⟩ := M 2 (by omega) (by omega)
  obtain ⟨p3, q3⟩ := M 3 (by omega) (by omega)
  obtain ⟨p4, q4⟩ := M 4 (by omega) (by omega)
  obtain ⟨p5, q5⟩ := M 5 (by omega) (by omega)
  have f1 := Int.mul_le_mul_of_nonneg_right hf.2 a1
  have g1 := Int.mul_le_mul_of_nonneg_right hg.2 b1
  rw [Int.add_mul, Int.add_mul, Int.add_mul, Int.add_mul] at f1 g1
  refine BC.of p1 p2 p3 p4 p5 ?_
  refine Int.le_of_mul_le_mul_right ?_ hs
  rw [Int.add_mul, Int.add_mul, Int.add_mul, Int.add_mul]
  have e : (100 : Int) * (a.toInt + b.toInt) = 100 * a.toInt + 100 * b.toInt := Int.mul_add _ _ _
  rw [e]
  omega
theorem up2_id {α : Type} (f : Nat → α) (i : Nat) : va_up f i (f i) = f := by
  funext j
  by_cases h : j = i
  · rw [h, va_up_s]
  · rw [va_up_n _ _ h]
section CPOUR
variable {st : DSt} {ad : Nat → Nat} {day : Int32} {nb ns nx : Nat} {gB wB : Nat → Int32} {cB sS bX : Nat → Nat → Int32} {f6 f7 g8 g9 : Nat → Int32} {Q : Nat → Option DCel} {i j : Nat} {p : Int32}
theorem c_mixed (h : NH st ad (CT ad day nb ns nx gB wB cB sS bX f6 f7 g8 g9 Q)) (hj : j < nb) (hb : nb ≤ 5) (x y g : Int32) (h0 : 0 < gB j + g) : fX0_mixed st (ad (20 + j)) x y g = some (mixV x y (gB j) g) := by
  unfold fX0_mixed
  rw [ob_of _ (q_bg h hj hb), if_pos h0, ob_of _ (q_bg h hj hb), ob_of _ (oD_of (fun q => by rw [q] at h0; exact absurd h0 (by decide)))]
  rfl
theorem c_takeL (h : NH st ad (CT ad day nb ns nx gB wB cB sS bX f6 f7 g8 g9 Q)) (hi : i < nb) (hj : j < nb) (hij : i ≠ j) (hb : nb ≤ 5) (h0 : 0 < gB j + gB i) : ∃ b, dlp (fX0_takeIn_L2 (ad (20 + j)) (some (ad (20 + i)))) (st, 1) = some b ∧ NH b.1 ad (CT ad day nb ns nx gB wB (va_up cB j (likN (cB j) (fun m => mixV (cB j m) (cB i m) (gB j) (gB i)) 5)) sS bX f6 f7 g8 g9 Q) := by
  obtain ⟨b, g1, g2⟩ := dlp_run (fX0_takeIn_L2 (ad (20 + j)) (some (ad (20 + i)))) (fun k z => z.2 = nI (k + 1) ∧ NH z.1 ad (CT ad day nb ns nx gB wB (va_up cB j (likN (cB j) (fun m => mixV (cB j m) (cB i m) (gB j) (gB i)) k)) sS bX f6 f7 g8 g9 Q)) (fun b => NH b.1 ad (CT ad day nb ns nx gB wB (va_up cB j (likN (cB j) (fun m => mixV (cB j m) (cB i m) (gB j) (gB i)) 5)) sS bX f6 f7 g8 g9 Q)) 5 (fun k z hk hz => by
    obtain ⟨z1, z2⟩ := z
    obtain ⟨rfl, hz⟩ := hz
    dsimp only at hz
    by_cases h5 : k = 5
    · subst h5
      exact Or.inr ⟨_, if_pos (show (5 : Int32) < nI 6 by decide), hz⟩
    · refine Or.inl ?_
      unfold fX0_takeIn_L2
      dsimp only
      rw [if_neg (show ¬ (5 : Int32) < nI (k + 1) from nI_nlt (a := 5) (by omega) (by omega)), ob_of _ (q_bc hz hj hb), ob_of _ (q_cr hz hj hb), ob_of _ (q_bc hz hj hb), ob_of _ (q_cr hz hj hb), ob_of _ (q_ca hz hj hb rfl (by omega)), ob_of _ (q_bc hz hi hb), ob_of _ (q_cr hz hi hb), ob_of _ (q_ca hz hi hb rfl (by omega)), ob_of _ (q_bg hz hi hb), ob_of _ (q_bo hz hj hb), va_up_s, va_up_n _ _ hij, show likN (cB j) (fun m => mixV (cB j m) (cB i m) (gB j) (gB i)) k (k + 1) = cB j (k + 1) from if_neg (by omega), ob_of _ (c_mixed hz hj hb _ _ _ h0), ob_of _ (l_sI hz (c_a hj hb) (k + 1) rfl (by omega) (by omega) _)]
      refine ⟨_, rfl, by omega, nI_1 _, ?_⟩
      have q := w_c _ (hz.set (c_a hj hb) (ARR 6 (upd (va_up cB j (likN (cB j) (fun m => mixV (cB j m) (cB i m) (gB j) (gB i)) k) j) (k + 1) (mixV (cB j (k + 1)) (cB i (k + 1)) (gB j) (gB i))))) hj hb
      rw [bx_uu, va_up_s, likN_s (cB j) (fun m => mixV (cB j m) (cB i m) (gB j) (gB i)) k] at q
      dsimp only
      rw [va_up_s, likN_s (cB j) (fun m => mixV (cB j m) (cB i m) (gB j) (gB i)) k]
      exact q) (st, 1) ⟨rfl, by
        dsimp only
        rw [likN_0, up2_id cB j]
        exact h⟩
  exact ⟨b, g1, g2⟩
theorem c_takeIn (h : NH st ad (CT ad day nb ns nx gB wB cB sS bX f6 f7 g8 g9 Q)) (hi : i < nb) (hj : j < nb) (hij : i ≠ j) (hb : nb ≤ 5) (h0 : 0 < gB j + gB i) : ∃ st', fX0_takeIn st (ad (20 + j)) (some (ad (20 + i))) = some st' ∧ NH st' ad (CT ad day nb ns nx (upd (upd gB j (gB j + gB i)) i 0) (upd wB j (mixV (wB j) (wB i) (gB j) (gB i))) (va_up (va_up cB j (likN (cB j) (fun m => mixV (cB j m) (cB i m) (gB j) (gB i)) 5)) i (likN (cB i) (fun _ => 0) 5)) sS bX f6 f7 g8 g9 Q) := by
  obtain ⟨b1, e1, h1⟩ := c_takeL h hi hj hij hb h0
  obtain ⟨s2, e2, h2⟩ := w_w h1 hj hb (mixV (wB j) (wB i) (gB j) (gB i))
  obtain ⟨s3, e3, h3⟩ := w_g h2 hj hb (gB j + gB i)
  obtain ⟨s4, e4, h4⟩ := w_g h3 hi hb 0
  obtain ⟨s5, e5, h5⟩ := s_vanish h4 (c_c hi hb) (c_a hi hb)
  have h5 := w_c _ h5 hi hb
  rw [va_up_n _ _ hij] at h5
  unfold fX0_takeIn
  rw [ob_of _ e1, ob_of _ (q_bw h1 hj hb), ob_of _ (q_bw h1 hi hb), ob_of _ (q_bg h1 hi hb), ob_of _ (q_bo h1 hj hb), ob_of _ (c_mixed h1 hj hb _ _ _ h0), ob_of _ e2, ob_of _ (q_bg h2 hj hb), ob_of _ (q_bg h2 hi hb), ob_of _ e3, ob_of _ e4, ob_of _ (q_bc h4 hi hb), ob_of _ (q_co h4 hi hb), ob_of _ e5]
  exact ⟨_, rfl, h5⟩
end CPOUR

/-! THE CALLS THAT ALLOCATE -/
theorem NH.mk {st : DSt} {ad : Nat → Nat} {ct : Nat → Option DCel} {c : Nat} (h : NH st ad ct) (hc : ct c = none) (e : DCel) : ∃ s1, nC st e = s1 ∧ NH s1 (va_up ad c st.1) (va_up ct c (some e)) := ⟨_, rfl, h.new hc e⟩
theorem pV_ex {st : DSt} {ad : Nat → Nat} {ct : Nat → Option DCel} {c a ci : Nat} {fs : List DV} (h : NH st ad ct) (hc : ct c = some (.inr (ci, fs))) (ha : ad c = a) (k : Nat) (v : DV) (hk : k < fs.length) : ∃ s', pV st (some a) ci k v = some s' ∧ NH s' ad (va_up ct c (some (.inr (ci, fs.set k v)))) := by
  subst ha
  exact ⟨_, l_pV h hc k v hk, h.set hc _⟩
theorem nR_same {ad ad' : Nat → Nat} {b n : Nat} (h : ∀ i, i < n → ad' (b + i) = ad (b + i)) : nR ad' b n = nR ad b n := by
  funext i
  unfold nR
  by_cases hi : i < n
  · rw [if_pos hi, if_pos hi, h i hi]
  · rw [if_neg hi, if_neg hi]
theorem nR_new {ad ad' : Nat → Nat} {b n x : Nat} (h : ∀ i, i < n → ad' (b + i) = ad (b + i)) (hx : ad' (b + n) = x) : nR ad' b (n + 1) = va_up (nR ad b n) n (some x) := by
  funext i
  by_cases e : i = n
  · rw [e, va_up_s]
    unfold nR
    rw [if_pos (by omega), hx]
  · rw [va_up_n _ _ e]
    unfold nR
    by_cases hi : i < n
    · rw [if_pos hi, if_pos (by omega), h i hi]
    · rw [if_neg hi, if_neg (by omega)]
theorem T0_new {ad ad' : Nat → Nat} {day : Int32} {nb ns nx : Nat} {f6 f7 g8 g9 : Nat → Int32} {gb gs gx : Nat → Option Nat} (a : ∀ c, c < 20 → ad' c = ad c) (hB : nR ad' 20 nb = gb) (hS : nR ad' 60 ns = gs) (hX : nR ad' 50 nx = gx) : T0 ad' day nb ns nx f6 f7 g8 g9 = R10 (some (O4 ad day nb ns nx)) (some (ARO 2 5 gb)) (some (ARO 3 8 gs)) (some (ARO 4 6 gx)) (some (OC (ad 6))) (some (OC (ad 7))) (some (ARR 6 f6)) (some (ARR 6 f7)) (some (ARR 6 g8)) (some (.inl (1, (8, .inl g9)))) := by
  unfold T0
  rw [hB, hS, hX]
  unfold O4 OC
  rw [a 1 (by decide), a 2 (by decide), a 3 (by decide), a 4 (by decide), a 5 (by decide), a 6 (by decide), a 7 (by decide), a 8 (by decide), a 9 (by decide)]
theorem T2_same {ad ad' : Nat → Nat} {nb : Nat} {gB wB : Nat → Int32} (h : ∀ i, i < nb → ad' (30 + i) = ad (30 + i)) : T2 ad' nb gB wB = T2 ad nb gB wB := by
  funext i
  unfold T2
  by_cases hi : i < nb
  · rw [if_pos hi, if_pos hi]
    unfold OB
    rw [h i hi]
  · rw [if_neg hi, if_neg hi]
theorem T3_same {ad ad' : Nat → Nat} {nb : Nat} (h : ∀ i, i < nb → ad' (40 + i) = ad (40 + i)) : T3 ad' nb = T3 ad nb := by
  funext i
  unfold T3
  by_cases hi : i < nb
  · rw [if_pos hi, if_pos hi, h i hi]
  · rw [if_neg hi, if_neg hi]
theorem T2_new {ad ad' : Nat → Nat} {nb x : Nat} {gB wB : Nat → Int32} {g w : Int32} (h : ∀ i, i < nb → ad' (30 + i) = ad (30 + i)) (hx : ad' (30 + nb) = x) : va_up (T2 ad nb gB wB) nb (some (.inr (0, [DR (some x), DI g, DI w]))) = T2 ad' (nb + 1) (upd gB nb g) (upd wB nb w) := by
  refine up2_eq _ _ _ _ ?_ fun j hj => ?_
  · unfold T2
    rw [if_pos (by omega), upd_s, upd_s]
    unfold OB
    rw [hx]
  · unfold T2
    by_cases hi : j < nb
    · rw [if_pos hi, if_pos (by omega), upd_n _ _ hj, upd_n _ _ hj]
      unfold OB
      rw [h j hi]
    · rw [if_neg hi, if_neg (by omega)]
theorem T3_new {ad ad' : Nat → Nat} {nb x : Nat} (h : ∀ i, i < nb → ad' (40 + i) = ad (40 + i)) (hx : ad' (40 + nb) = x) : va_up (T3 ad nb) nb (some (.inr (2, [DR (some x)]))) = T3 ad' (nb + 1) := by
  refine up2_eq _ _ _ _ ?_ fun j hj => ?_
  · unfold T3
    rw [if_pos (by omega), hx]
  · unfold T3
    by_cases hi : j < nb
    · rw [if_pos hi, if_pos (by omega), h j hi]
    · rw [if_neg hi, if_neg (by omega)]
theorem T4_new {nb : Nat} {cB : Nat → Nat → Int32} {f : Nat → Int32} : va_up (T4 nb cB) nb (some (ARR 6 f)) = T4 (nb + 1) (va_up cB nb f) := by
  refine up2_eq _ _ _ _ ?_ fun j hj => ?_
  · unfold T4
    rw [if_pos (by omega), va_up_s]
  · unfold T4
    by_cases hi : j < nb
    · rw [if_pos hi, if_pos (by omega), va_up_n _ _ hj]
    · rw [if_neg hi, if_neg (by omega)]
theorem T5_new {nx : Nat} {bX : Nat → Nat → Int32} {x : Nat → Int32} : va_up (T5 nx bX) nx (some (OX x)) = T5 (nx + 1) (va_up bX nx x) := by
  refine up2_eq _ _ _ _ ?_ fun j hj => ?_
  · unfold T5
    rw [if_pos (by omega), va_up_s]
  · unfold T5
    by_cases hi : j < nx
    · rw [if_pos hi, if_pos (by omega), va_up_n _ _ hj]
    · rw [if_neg hi, if_neg (by omega)]
theorem T6_new {ns : Nat} {sS : Nat → Nat → Int32} {Q : Nat → Option DCel} {x : Nat → Int32} : va_up (T6 ns sS Q) ns (some (OS x)) = T6 (ns + 1) (va_up sS ns x) Q := by
  refine up2_eq _ _ _ _ ?_ fun j hj => ?_
  · unfold T6
    rw [if_pos (by omega), va_up_s]
  · unfold T6
    by_cases hi : j < ns
    · rw [if_pos hi, if_pos (by omega), va_up_n _ _ hj]
    · rw [if_neg hi, if_neg (by omega)]
section NEWBOWL
variable {st : DSt} {ad : Nat → Nat} {day : Int32} {nb ns nx : Nat} {gB wB : Nat → Int32} {cB sS bX : Nat → Nat → Int32} {f6 f7 g8 g9 : Nat → Int32} {Q : Nat → Option DCel} {i : Nat} {p : Int32}
theorem c_newBowl (h : NH st ad (CT ad day nb ns nx gB wB cB sS bX f6 f7 g8 g9 Q)) (hb : nb < 5) (hs : ns ≤ 8) (hx : nx ≤ 6) {g : Int32} (g1 : ¬ g < 0) (g2 : g ≤ 2000) : ∃ st' ad', fX4_bowl st (ad 0) g = some (.inr (nI nb, st')) ∧ (∀ c, c < 20 ∨ 100 ≤ c → ad' c = ad c) ∧ NH st' ad' (CT (ad') day (nb + 1) ns nx (upd gB nb g) (upd wB nb 20) (va_up cB nb (fun _ => 0)) sS bX f6 f7 g8 g9 Q) := by
  obtain ⟨s1, n1, h1⟩ := h.mk (c := 20 + nb) ((reg_2 (by omega)).trans (if_neg (by omega))) (.inr (0, [DR none, DI 0, DI 0]))
  unfold CT at h1
  rw [reg_u2 (by omega)] at h1
  obtain ⟨s2, n2, h2⟩ := h1.mk (c := 30 + nb) ((reg_3 (by omega)).trans (if_neg (by omega))) (.inr (2, [DR none]))
  rw [reg_u3 (by omega)] at h2
  obtain ⟨s3, n3, h3⟩ := h2.mk (c := 40 + nb) ((reg_4 (by omega)).trans (if_neg (by omega))) (.inl (0, nI0 6))
  rw [reg_u4 (by omega)] at h3
  have hA : ∀ c, c < 20 ∨ (50 ≤ c) → va_up (va_up (va_up ad (20 + nb) st.1) (30 + nb) s1.1) (40 + nb) s2.1 c = ad c := fun c hc => by
    rw [va_up_n _ _ (by omega), va_up_n _ _ (by omega), va_up_n _ _ (by omega)]
  have a20 : va_up (va_up (va_up ad (20 + nb) st.1) (30 + nb) s1.1) (40 + nb) s2.1 (20 + nb) = st.1 := by
    rw [va_up_n _ _ (by omega), va_up_n _ _ (by omega), va_up_s]
  have a30 : va_up (va_up (va_up ad (20 + nb) st.1) (30 + nb) s1.1) (40 + nb) s2.1 (30 + nb) = s1.1 := by
    rw [va_up_n _ _ (by omega), va_up_s]
  have a40 : va_up (va_up (va_up ad (20 + nb) st.1) (30 + nb) s1.1) (40 + nb) s2.1 (40 + nb) = s2.1 := va_up_s _ _ _
  have hL : ∀ b i, (b = 20 ∨ b = 30 ∨ b = 40) → i < nb → va_up (va_up (va_up ad (20 + nb) st.1) (30 + nb) s1.1) (40 + nb) s2.1 (b + i) = ad (b + i) := fun b i hb' hi => by
    rw [va_up_n _ _ (by omega), va_up_n _ _ (by omega), va_up_n _ _ (by omega)]
  generalize va_up (va_up (va_up ad (20 + nb) st.1) (30 + nb) s1.1) (40 + nb) s2.1 = ad' at h3 hA a20 a30 a40 hL
  obtain ⟨s4, e4, h4⟩ := pV_ex h3 (c := 30 + nb) ((reg_3 (by omega)).trans (va_up_s _ _ _)) a30 0 (DR (some s2.1)) (by show 0 < 1; decide)
  rw [reg_u3 (by omega), bx_uu] at h4
  obtain ⟨s5, e5, h5⟩ := pV_ex h4 (c := 20 + nb) ((reg_2 (by omega)).trans (va_up_s _ _ _)) a20 0 (DR (some s1.1)) (by show 0 < 3; decide)
  rw [reg_u2 (by omega), bx_uu] at h5
  obtain ⟨s6, e6, h6⟩ := pV_ex h5 (c := 20 + nb) ((reg_2 (by omega)).trans (va_up_s _ _ _)) a20 1 (DI g) (by show 1 < 3; decide)
  rw [reg_u2 (by omega), bx_uu] at h6
  obtain ⟨s7, e7, h7⟩ := pV_ex h6 (c := 20 + nb) ((reg_2 (by omega)).trans (va_up_s _ _ _)) a20 2 (DI 20) (by show 2 < 3; decide)
  rw [reg_u2 (by omega), bx_uu] at h7
  have e8 := l_sR (c := 1) (n := 5) (g := nR ad 20 nb) (kd := 2) (i := nI nb) (v := some st.1) (ci := 0) h7 rfl nb rfl (by omega) (by omega) (by
    rw [← a20]
    exact okR_of h7 ((reg_2 (by omega)).trans (va_up_s _ _ _)))
  have h8 := h7.set (c := 1) rfl (ARO 2 5 (va_up (nR ad 20 nb) nb (some st.1)))
  rw [reg_u0 (by omega)] at h8
  unfold T0 at h8
  rw [R10_u1] at h8
  obtain ⟨s9, e9, h9⟩ := pV_ex h8 (c := 0) rfl (hA 0 (by omega)) 3 (DI (nI nb + 1)) (by show 3 < 11; decide)
  rw [reg_u0 (by omega), R10_u0] at h9
  rw [hA 1 (by omega)] at e8 e9
  have h9 : NH s9 ad' (CT (ad') day (nb + 1) ns nx (upd gB nb g) (upd wB nb 20) (va_up cB nb (fun _ => 0)) sS bX f6 f7 g8 g9 Q) := by
    unfold CT
    rw [T0_new (fun c hc => hA c (by omega)) (nR_new (fun i hi => hL 20 i (by omega) hi) a20) (nR_same fun i hi => hA _ (by omega)) (nR_same fun i hi => hA _ (by omega)), ← T2_new (fun i hi => hL 30 i (by omega) hi) a30, ← T3_new (fun i hi => hL 40 i (by omega) hi) a40, ← T4_new]
    rw [nI_1] at h9
    exact h9
  refine ⟨s9, ad', ?_, fun c hc => hA c (by omega), h9⟩
  unfold fX4_bowl
  rw [if_neg g1, if_pos g2, ob_of _ (q_nb h), if_pos (show nI nb < 5 from nI_lt (b := 5) hb (by omega)), ob_of _ (q_rb h), ob_of _ (congrArg some n1)]
  have ei : fX0_init s1 st.1 g = some s7 := by
    unfold fX0_init
    rw [ob_of _ (congrArg some n2)]
    have ec : fX2_init s2 s1.1 = some s4 := by
      unfold fX2_init
      rw [ob_of _ (congrArg some n3), ob_of _ e4]
    rw [ob_of _ ec, ob_of _ e5, ob_of _ e6, ob_of _ e7]
  rw [ob_of _ ei, ob_of _ e8, ob_of _ e9]
theorem c_newBox (h : NH st ad (CT ad day nb ns nx gB wB cB sS bX f6 f7 g8 g9 Q)) (hb : nb ≤ 5) (hs : ns ≤ 8) (hx : nx < 6) {a b : Int32} (a1 : ¬ a < 1) (a2 : ¬ 36 < a) (b1 : ¬ b < 0) (b2 : b ≤ 100) : ∃ st' ad', fX4_box st (ad 0) a b = some (.inr (nI nx, st')) ∧ (∀ c, c < 20 ∨ 100 ≤ c → ad' c = ad c) ∧ NH st' ad' (CT (ad') day nb ns (nx + 1) gB wB cB sS (va_up bX nx (fun k => if k = 0 then a else if k = 1 then b else if k = 2 then 0 else -1)) f6 f7 g8 g9 Q) := by
  obtain ⟨s1, n1, h1⟩ := h.mk (c := 50 + nx) ((reg_5 (by omega)).trans (if_neg (by omega))) (.inr (1, [DI 0, DI 0, DI 0, DI 0, DI 0]))
  unfold CT at h1
  rw [reg_u5 (by omega)] at h1
  have hA : ∀ c, c ≠ 50 + nx → va_up ad (50 + nx) st.1 c = ad c := fun c hc => va_up_n _ _ hc
  have a50 : va_up ad (50 + nx) st.1 (50 + nx) = st.1 := va_up_s _ _ _
  generalize va_up ad (50 + nx) st.1 = ad' at h1 hA a50
  obtain ⟨s2, e2, h2⟩ := pV_ex h1 (c := 50 + nx) ((reg_5 (by omega)).trans (va_up_s _ _ _)) a50 0 (DI a) (by show 0 < 5; decide)
  rw [reg_u5 (by omega), bx_uu] at h2
  obtain ⟨s3, e3, h3⟩ := pV_ex h2 (c := 50 + nx) ((reg_5 (by omega)).trans (va_up_s _ _ _)) a50 1 (DI b) (by show 1 < 5; decide)
  rw [reg_u5 (by omega), bx_uu] at h3
  obtain ⟨s4, e4, h4⟩ := pV_ex h3 (c := 50 + nx) ((reg_5 (by omega)).trans (va_up_s _ _ _)) a50 3 (DI (-1)) (by show 3 < 5; decide)
  rw [reg_u5 (by omega), bx_uu] at h4
  obtain ⟨s5, e5, h5⟩ := pV_ex h4 (c := 50 + nx) ((reg_5 (by omega)).trans (va_up_s _ _ _)) a50 4 (DI (-1)) (by show 4 < 5; decide)
  rw [reg_u5 (by omega), bx_uu] at h5
  have e8 := l_sR (c := 3) (n := 6) (g := nR ad 50 nx) (kd := 4) (i := nI nx) (v := some st.1) (ci := 1) h5 rfl nx rfl (by omega) (by omega) (by
    rw [← a50]
    exact okR_of h5 ((reg_5 (by omega)).trans (va_up_s _ _ _)))
  have h8 := h5.set (c := 3) rfl (ARO 4 6 (va_up (nR ad 50 nx) nx (some st.1)))
  rw [reg_u0 (by omega)] at h8
  unfold T0 at h8
  rw [R10_u3] at h8
  obtain ⟨s9, e9, h9⟩ := pV_ex h8 (c := 0) rfl (hA 0 (by omega)) 5 (DI (nI nx + 1)) (by show 5 < 11; decide)
  rw [reg_u0 (by omega), R10_u0] at h9
  rw [hA 3 (by omega)] at e8 e9
  have h9 : NH s9 ad' (CT (ad') day nb ns (nx + 1) gB wB cB sS (va_up bX nx (fun k => if k = 0 then a else if k = 1 then b else if k = 2 then 0 else -1)) f6 f7 g8 g9 Q) := by
    unfold CT
    rw [T0_new (fun c hc => hA c (by omega)) (nR_same fun i hi => hA _ (by omega)) (nR_same fun i hi => hA _ (by omega)) (nR_new (fun i hi => hA _ (by omega)) a50), T2_same (fun i hi => hA _ (by omega)), T3_same (fun i hi => hA _ (by omega)), ← T5_new]
    rw [nI_1] at h9
    exact h9
  refine ⟨s9, ad', ?_, fun c hc => hA c (by omega), h9⟩
  unfold fX4_box
  rw [if_neg a1, if_neg a2, if_neg b1, if_pos b2, ob_of _ (q_nx h), if_pos (show nI nx < 6 from nI_lt (b := 6) hx (by omega)), ob_of _ (q_rx h), ob_of _ (congrArg some n1)]
  have ei : fX1_init s1 st.1 a b = some s5 := by
    unfold fX1_init
    rw [ob_of _ e2, ob_of _ e3, ob_of _ e4, ob_of _ e5]
  rw [ob_of _ ei, ob_of _ e8, ob_of _ e9]
/-- a slab that lies in the heap and in no row yet -/
theorem c_addSlab {a : Nat} {x : Nat → Int32} (h : NH st (va_up ad (60 + ns) a) (reg (T0 ad day nb ns nx f6 f7 g8 g9) Q (T2 ad nb gB wB) (T3 ad nb) (T4 nb cB) (T5 nx bX) (va_up (T6 ns sS Q) ns (some (OS x))))) (hb : nb ≤ 5) (hs : ns < 8) (hx : nx ≤ 6) : ∃ st', fX4_addSlab st (ad 0) (some a) = some (.inr (nI ns, st')) ∧ (∀ c, c < 20 ∨ 100 ≤ c → va_up ad (60 + ns) a c = ad c) ∧ va_up ad (60 + ns) a (60 + ns) = a ∧ (∀ i, i < nb → va_up ad (60 + ns) a (20 + i) = ad (20 + i)) ∧ (∀ i, i < ns → va_up ad (60 + ns) a (60 + i) = ad (60 + i)) ∧ NH st' (va_up ad (60 + ns) a) (CT (va_up ad (60 + ns) a) day nb (ns + 1) nx gB wB cB (va_up sS ns x) bX f6 f7 g8 g9 Q) := by
  have hA : ∀ c, c ≠ 60 + ns → va_up ad (60 + ns) a c = ad c := fun c hc => va_up_n _ _ hc
  have a60 : va_up ad (60 + ns) a (60 + ns) = a := va_up_s _ _ _
  generalize va_up ad (60 + ns) a = ad' at h hA a60
  have e1 : gI st (some (ad 0)) 4 4 = some (nI ns) := by rw [← hA 0 (by omega)]; exact l_gI (c := 0) h rfl 4 rfl
  have e2 : gR st (some (ad 0)) 4 1 = some (some (ad 2)) := by rw [← hA 0 (by omega)]; exact l_gR (c := 0) h rfl 1 rfl
  have e8 := l_sR (c := 2) (n := 8) (g := nR ad 60 ns) (kd := 3) (i := nI ns) (v := some a) (ci := 3) h rfl ns rfl (by omega) (by omega) (by
    rw [← a60]
    exact okR_of h (reg_6.trans (va_up_s _ _ _)))
  have h8 := h.set (c := 2) rfl (ARO 3 8 (va_up (nR ad 60 ns) ns (some a)))
  rw [reg_u0 (by omega)] at h8
  unfold T0 at h8
  rw [R10_u2] at h8
  obtain ⟨s9, e9, h9⟩ := pV_ex h8 (c := 0) rfl (hA 0 (by omega)) 4 (DI (nI ns + 1)) (by show 4 < 11; decide)
  rw [reg_u0 (by omega), R10_u0] at h9
  rw [hA 2 (by omega)] at e8 e9
  have h9 : NH s9 ad' (CT (ad') day nb (ns + 1) nx gB wB cB (va_up sS ns x) bX f6 f7 g8 g9 Q) := by
    unfold CT
    rw [T0_new (fun c hc => hA c (by omega)) (nR_same fun i hi => hA _ (by omega)) (nR_new (fun i hi => hA _ (by omega)) a60) (nR_same fun i hi => hA _ (by omega)), T2_same (fun i hi => hA _ (by omega)), T3_same (fun i hi => hA _ (by omega)), ← T6_new]
    rw [nI_1] at h9
    exact h9
  refine ⟨s9, ?_, fun c hc => hA c (by omega), a60, fun i hi => hA _ (by omega), fun i hi => hA _ (by omega), h9⟩
  unfold fX4_addSlab
  rw [ob_of _ e1, if_pos (show nI ns < 8 from nI_lt (b := 8) hs (by omega)), ob_of _ e2, ob_of _ e8, ob_of _ e9]
theorem c_noSlab {a : Nat} {x : DCel} (h : NH st (va_up ad (60 + ns) a) (reg (T0 ad day nb ns nx f6 f7 g8 g9) Q (T2 ad nb gB wB) (T3 ad nb) (T4 nb cB) (T5 nx bX) (va_up (T6 ns sS Q) ns (some x)))) (hs40 : ns < 40) : NH st ad (CT ad day nb ns nx gB wB cB sS bX f6 f7 g8 g9 Q) := by
  rw [← reg_u6] at h
  have h1 : NH st (va_up ad (60 + ns) a) (CT ad day nb ns nx gB wB cB sS bX f6 f7 g8 g9 Q) := h.drop fun d e hd => by
    rw [va_up_n _ _ (fun q => by rw [q] at hd; rw [show (CT ad day nb ns nx gB wB cB sS bX f6 f7 g8 g9 Q) (60 + ns) = none from c_s0 (Nat.le_refl _) hs40] at hd; cases hd)]
    exact hd
  exact h1.adr fun d e hd => (va_up_n _ _ (fun q => by rw [q] at hd; rw [show (CT ad day nb ns nx gB wB cB sS bX f6 f7 g8 g9 Q) (60 + ns) = none from c_s0 (Nat.le_refl _) hs40] at hd; cases hd)).symm
theorem c_addFull (h : NH st ad (CT ad day nb ns nx gB wB cB sS bX f6 f7 g8 g9 Q)) (hs : ns = 8) (o : Option Nat) : fX4_addSlab st (ad 0) o = some (.inl ("java/lang/IllegalStateException", st.2)) := by
  unfold fX4_addSlab
  rw [ob_of _ (q_ns h), if_neg (show ¬ nI ns < 8 by rw [hs]; decide)]
end NEWBOWL

/-! BOWL, BOX, CAST, SPLIT ON BOTH SIDES -/
theorem nI_mul (a b : Nat) : nI a * nI b = nI (a * b) := (Int32.ofNat_mul a b).symm
theorem sI_ex {st : DSt} {ad : Nat → Nat} {ct : Nat → Option DCel} {c a kd n : Nat} {f : Nat → Int32} (h : NH st ad ct) (hc : ct c = some (.inl (kd, (n, .inl f)))) (ha : ad c = a) {i : Int32} (k : Nat) (hi : i = nI k) (hk : k < n) (hn : n < 2 ^ 31) (x : Int32) : ∃ s', sI st (some a) kd i x = some s' ∧ NH s' ad (va_up ct c (some (.inl (kd, (n, .inl (upd f k x)))))) := by
  subst ha
  exact ⟨_, l_sI h hc k hi hk hn x, h.set hc _⟩

/-! CAST AND SPLIT -/
section OPCAST
variable {st : DSt} {ad : Nat → Nat} {day : Int32} {nb ns nx : Nat} {gB wB : Nat → Int32} {cB sS bX : Nat → Nat → Int32} {f6 f7 g8 g9 : Nat → Int32} {Q : Nat → Option DCel}
/-- the part behind, and the slab cut down -/
theorem c_split0 {i : Nat} {m : Int32} (h : NH st ad (CT ad day nb ns nx gB wB cB sS bX f6 f7 g8 g9 Q)) (hb : nb ≤ 5) (hs : ns < 8) (hx : nx ≤ 6) (hi : i < ns) : ∃ s5, fX3_partBehind st (ad (60 + i)) m 0 = some (some st.1, s5) ∧ NH s5 ad (CT ad day nb ns nx gB wB cB sS bX f6 f7 g8 g9 Q) ∧ ∃ s9, fX4_addSlab s5 (ad 0) (some st.1) = some (.inr (nI ns, s9)) ∧ ∃ ad' s10, (∀ c, c < 20 ∨ 100 ≤ c → ad' c = ad c) ∧ oR s9 (some (ad (60 + i))) 3 = some (ad (60 + i)) ∧ fX3_cutDownTo s9 (ad (60 + i)) m 0 = some s10 ∧ NH s10 ad' (CT (ad') day nb (ns + 1) nx gB wB cB (va_up (va_up sS ns (upd (sS i) 0 (sS i 0 - m))) i (upd (sS i) 0 m)) bX f6 f7 g8 g9 Q) := by
  obtain ⟨s1, n1, h1⟩ := h.mk (c := 60 + ns) (c_s0 (Nat.le_refl _) (by omega)) (.inr (3, [DI 0, DI 0, DI 0, DI 0, DI 0]))
  unfold CT at h1
  rw [reg_u6] at h1
  have hA : ∀ c, c ≠ 60 + ns → va_up ad (60 + ns) st.1 c = ad c := fun c hc => va_up_n _ _ hc
  have a60 : va_up ad (60 + ns) st.1 (60 + ns) = st.1 := va_up_s _ _ _
  have look : ∀ {s : DSt} {e : DCel} (k : Nat) {v : Int32}, NH s (va_up ad (60 + ns) st.1) (reg (T0 ad day nb ns nx f6 f7 g8 g9) Q (T2 ad nb gB wB) (T3 ad nb) (T4 nb cB) (T5 nx bX) (va_up (T6 ns sS Q) ns (some e))) → ([DI (sS i 2), DI (sS i 0), DI (sS i 1), DI (sS i 3), DI (sS i 4)] : List DV)[k]? = some (DI v) → gI s (some (ad (60 + i))) 3 k = some v := fun k v hh hv => by
    rw [← hA (60 + i) (by omega)]
    exact l_gI hh (reg_6.trans ((va_up_n _ _ (by omega)).trans (if_pos hi))) k hv
  obtain ⟨s2, e2, h2⟩ := pV_ex h1 (c := 60 + ns) (reg_6.trans (va_up_s _ _ _)) a60 1 (DI (sS i 0 - m)) (by show 1 < 5; decide)
  rw [reg_u6, bx_uu] at h2
  obtain ⟨s3, e3, h3⟩ := pV_ex h2 (c := 60 + ns) (reg_6.trans (va_up_s _ _ _)) a60 2 (DI (sS i 1)) (by show 2 < 5; decide)
  rw [reg_u6, bx_uu] at h3
  obtain ⟨s4, e4, h4⟩ := pV_ex h3 (c := 60 + ns) (reg_6.trans (va_up_s _ _ _)) a60 0 (DI (sS i 2)) (by show 0 < 5; decide)
  rw [reg_u6, bx_uu] at h4
  obtain ⟨s6, e6, h6⟩ := pV_ex h4 (c := 60 + ns) (reg_6.trans (va_up_s _ _ _)) a60 3 (DI (sS i 3)) (by show 3 < 5; decide)
  rw [reg_u6, bx_uu] at h6
  obtain ⟨s7, e7, h7⟩ := pV_ex h6 (c := 60 + ns) (reg_6.trans (va_up_s _ _ _)) a60 4 (DI (sS i 4)) (by show 4 < 5; decide)
  rw [reg_u6, bx_uu] at h7
  have ei : fX3_init s1 st.1 (sS i 0 - m) (sS i 1) (sS i 2) = some s4 := by
    unfold fX3_init
    rw [ob_of _ e2, ob_of _ e3, ob_of _ e4]
  have ep : fX3_partBehind st (ad (60 + i)) m 0 = some (some st.1, s7) := by
    unfold fX3_partBehind
    rw [if_pos rfl, ob_of _ (congrArg some n1), ob_of _ (look 1 h1 rfl), ob_of _ (look 2 h1 rfl), ob_of _ (look 0 h1 rfl), ob_of _ ei, ob_of _ (look 3 h4 rfl), ob_of _ e6, ob_of _ (look 4 h6 rfl), ob_of _ e7]
  have h7 : NH s7 (va_up ad (60 + ns) st.1) (reg (T0 ad day nb ns nx f6 f7 g8 g9) Q (T2 ad nb gB wB) (T3 ad nb) (T4 nb cB) (T5 nx bX) (va_up (T6 ns sS Q) ns (some (OS (upd (sS i) 0 (sS i 0 - m)))))) := h7
  obtain ⟨s9, e9, hA20, -, -, -, h9⟩ := c_addSlab h7 hb hs hx
  have e10 := w_s1 h9 (i := i) (by omega) m
  obtain ⟨s10, e10, h10⟩ := e10
  rw [va_up_n _ _ (show i ≠ ns by omega)] at h10
  rw [hA (60 + i) (by omega)] at e10
  refine ⟨s7, ep, c_noSlab h7 (by omega), s9, e9, _, s10, hA20, ?_, ?_, h10⟩
  · rw [← hA (60 + i) (by omega)]
    exact q_so h9 (by omega)
  · unfold fX3_cutDownTo
    rw [if_pos rfl, ob_of _ e10]
/-- the part behind, and the slab cut down -/
theorem c_split1 {i : Nat} {m : Int32} (h : NH st ad (CT ad day nb ns nx gB wB cB sS bX f6 f7 g8 g9 Q)) (hb : nb ≤ 5) (hs : ns < 8) (hx : nx ≤ 6) (hi : i < ns) : ∃ s5, fX3_partBehind st (ad (60 + i)) m 1 = some (some st.1, s5) ∧ NH s5 ad (CT ad day nb ns nx gB wB cB sS bX f6 f7 g8 g9 Q) ∧ ∃ s9, fX4_addSlab s5 (ad 0) (some st.1) = some (.inr (nI ns, s9)) ∧ ∃ ad' s10, (∀ c, c < 20 ∨ 100 ≤ c → ad' c = ad c) ∧ oR s9 (some (ad (60 + i))) 3 = some (ad (60 + i)) ∧ fX3_cutDownTo s9 (ad (60 + i)) m 1 = some s10 ∧ NH s10 ad' (CT (ad') day nb (ns + 1) nx gB wB cB (va_up (va_up sS ns (upd (sS i) 1 (sS i 1 - m))) i (upd (sS i) 1 m)) bX f6 f7 g8 g9 Q) := by
  obtain ⟨s1, n1, h1⟩ := h.mk (c := 60 + ns) (c_s0 (Nat.le_refl _) (by omega)) (.inr (3, [DI 0, DI 0, DI 0, DI 0, DI 0]))
  unfold CT at h1
  rw [reg_u6] at h1
  have hA : ∀ c, c ≠ 60 + ns → va_up ad (60 + ns) st.1 c = ad c := fun c hc => va_up_n _ _ hc
  have a60 : va_up ad (60 + ns) st.1 (60 + ns) = st.1 := va_up_s _ _ _
  have look : ∀ {s : DSt} {e : DCel} (k : Nat) {v : Int32}, NH s (va_up ad (60 + ns) st.1) (reg (T0 ad day nb ns nx f6 f7 g8 g9) Q (T2 ad nb gB wB) (T3 ad nb) (T4 nb cB) (T5 nx bX) (va_up (T6 ns sS Q) ns (some e))) → ([DI (sS i 2), DI (sS i 0), DI (sS i 1), DI (sS i 3), DI (sS i 4)] : List DV)[k]? = some (DI v) → gI s (some (ad (60 + i))) 3 k = some v := fun k v hh hv => by
    rw [← hA (60 + i) (by omega)]
    exact l_gI hh (reg_6.trans ((va_up_n _ _ (by omega)).trans (if_pos hi))) k hv
  obtain ⟨s2, e2, h2⟩ := pV_ex h1 (c := 60 + ns) (reg_6.trans (va_up_s _ _ _)) a60 1 (DI (sS i 0)) (by show 1 < 5; decide)
  rw [reg_u6, bx_uu] at h2
  obtain ⟨s3, e3, h3⟩ := pV_ex h2 (c := 60 + ns) (reg_6.trans (va_up_s _ _ _)) a60 2 (DI (sS i 1 - m)) (by show 2 < 5; decide)
  rw [reg_u6, bx_uu] at h3
  obtain ⟨s4, e4, h4⟩ := pV_ex h3 (c := 60 + ns) (reg_6.trans (va_up_s _ _ _)) a60 0 (DI (sS i 2)) (by show 0 < 5; decide)
  rw [reg_u6, bx_uu] at h4
  obtain ⟨s6, e6, h6⟩ := pV_ex h4 (c := 60 + ns) (reg_6.trans (va_up_s _ _ _)) a60 3 (DI (sS i 3)) (by show 3 < 5; decide)
  rw [reg_u6, bx_uu] at h6
  obtain ⟨s7, e7, h7⟩ := pV_ex h6 (c := 60 + ns) (reg_6.trans (va_up_s _ _ _)) a60 4 (DI (sS i 4)) (by show 4 < 5; decide)
  rw [reg_u6, bx_uu] at h7
  have ei : fX3_init s1 st.1 (sS i 0) (sS i 1 - m) (sS i 2) = some s4 := by
    unfold fX3_init
    rw [ob_of _ e2, ob_of _ e3, ob_of _ e4]
  have ep : fX3_partBehind st (ad (60 + i)) m 1 = some (some st.1, s7) := by
    unfold fX3_partBehind
    rw [if_neg n10, ob_of _ (congrArg some n1), ob_of _ (look 1 h1 rfl), ob_of _ (look 2 h1 rfl), ob_of _ (look 0 h1 rfl), ob_of _ ei, ob_of _ (look 3 h4 rfl), ob_of _ e6, ob_of _ (look 4 h6 rfl), ob_of _ e7]
  have h7 : NH s7 (va_up ad (60 + ns) st.1) (reg (T0 ad day nb ns nx f6 f7 g8 g9) Q (T2 ad nb gB wB) (T3 ad nb) (T4 nb cB) (T5 nx bX) (va_up (T6 ns sS Q) ns (some (OS (upd (sS i) 1 (sS i 1 - m)))))) := h7
  obtain ⟨s9, e9, hA20, -, -, -, h9⟩ := c_addSlab h7 hb hs hx
  have e10 := w_s2 h9 (i := i) (by omega) m
  obtain ⟨s10, e10, h10⟩ := e10
  rw [va_up_n _ _ (show i ≠ ns by omega)] at h10
  rw [hA (60 + i) (by omega)] at e10
  refine ⟨s7, ep, c_noSlab h7 (by omega), s9, e9, _, s10, hA20, ?_, ?_, h10⟩
  · rw [← hA (60 + i) (by omega)]
    exact q_so h9 (by omega)
  · unfold fX3_cutDownTo
    rw [if_neg n10, ob_of _ e10]
end OPCAST
