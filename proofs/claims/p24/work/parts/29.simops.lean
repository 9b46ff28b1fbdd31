/-! THE LAW'S SMALL METHODS -/
theorem and_nn (v : Int32) : 0 ≤ (v &&& 2147483647).toInt := by
  show 0 ≤ (v &&& 2147483647).toBitVec.toInt
  rw [Int32.toBitVec_and]
  apply BitVec.toInt_nonneg_of_msb_false
  rw [BitVec.msb_and, show (2147483647 : Int32).toBitVec.msb = false by decide, Bool.and_false]
theorem b_below {st : DSt} (v : Int32) {n : Int32} {m : Nat} (hn : n = nI m) (h0 : 0 < m) (hm : m < 3000) : ∃ r, r < m ∧ fL_below st v n = some (nI r) := by
  subst hn
  have h1 := and_nn v
  have h2 := i_rng (v &&& 2147483647)
  unfold fL_below oM
  generalize v &&& 2147483647 = x at h1 h2
  have n0 : ¬ nI m = 0 := fun e => by
    rw [i_eq, i_nI (by omega), toInt_0] at e
    omega
  have e1 : (x / nI m).toInt = x.toInt / (m : Int) := by rw [i_div h1 (by rw [i_nI (by omega)]; omega), i_nI (by omega)]
  have e3 := Int.ediv_nonneg h1 (show (0 : Int) ≤ m by omega)
  have e4 := Int.emod_nonneg x.toInt (show (m : Int) ≠ 0 by omega)
  have e5 := Int.emod_lt_of_pos x.toInt (show (0 : Int) < m by omega)
  have e6 := Int.mul_ediv_add_emod x.toInt m
  rw [Int.mul_comm] at e6
  have e2 : (x / nI m * nI m).toInt = x.toInt / m * m := by rw [i_mul] <;> rw [e1, i_nI (by omega)] <;> omega
  have e7 : (x - x / nI m * nI m).toInt = x.toInt % m := by rw [i_sub] <;> rw [e2] <;> omega
  obtain ⟨r, hr, e8, e9⟩ := toN (x := x - x / nI m * nI m) (m - 1) (by rw [e7]; exact e4) (by rw [e7]; omega) (by omega)
  refine ⟨r, by omega, ?_⟩
  rw [if_neg n0, e8]
  rfl
theorem b_cell (xs : Nat → Int32) {L : Nat} (hL : L ≤ 260) {st : DSt} {p : Int32} {k : Nat} (hp : p = nI k) (hk : k < 1000) : ∃ v, fL_cell xs L st p = some v := by
  subst hp
  unfold fL_cell
  by_cases h : (Int32.ofNat L) ≤ nI k
  · rw [if_pos h]
    exact ⟨_, rfl⟩
  · rw [if_neg h]
    have hk2 : k < L := by
      rw [i_le, i_nI (by omega), show (Int32.ofNat L).toInt = (L : Int) from i_nI (n := L) (by omega)] at h
      omega
    have e : sldO xs L (nI k) = some (xs k) := by
      unfold sldO
      rw [if_pos (inA_nI hk2 (by omega)), nI_clamp (by omega)]
    rw [ob_of _ e]
    exact ⟨_, rfl⟩
theorem tem_if (S : Int32) : (oB (if 0 ≤ S then oB (if S ≤ 100 then some S else some (100 : Int32)) fun j => some j else some (0 : Int32)) fun j => some j) = some (jmax 0 (jmin S 100)) := by
  by_cases h0 : 0 ≤ S
  · rw [if_pos h0]
    by_cases h1 : S ≤ 100
    · rw [if_pos h1]
      show some S = _
      congr 1
      rw [i_eq, i_max, i_min, toInt_0, toInt_100]
      rw [i_le, toInt_0] at h0
      rw [i_le, toInt_100] at h1
      omega
    · rw [if_neg h1]
      show some (100 : Int32) = _
      congr 1
      rw [i_eq, i_max, i_min, toInt_0, toInt_100]
      rw [i_le, toInt_0] at h0
      rw [i_le, toInt_100] at h1
      omega
  · rw [if_neg h0]
    show some (0 : Int32) = _
    congr 1
    rw [i_eq, i_max, i_min, toInt_0, toInt_100]
    rw [i_le, toInt_0] at h0
    omega
section SSM
variable {st : DSt} {ad : Nat → Nat} {ct : Nat → Option DCel} {c a : Nat} {f : Nat → Int32} {g w : Int32}
theorem s5_all (h : NH st ad ct) (h1 : ct c = some (.inr (5, [DI g, DI w, DR (some (ad a))]))) (h2 : ct a = some (ARR 6 f)) : fX5_all st (ad c) = some (sumN f 5) := by
  unfold fX5_all
  rw [ob_of _ (l_gR h h1 2 rfl), ob_of _ (l_aI (i := 1) h h2 1 rfl (by omega) (by omega)), ob_of _ (l_gR h h1 2 rfl), ob_of _ (l_aI (i := 2) h h2 2 rfl (by omega) (by omega)), ob_of _ (l_gR h h1 2 rfl), ob_of _ (l_aI (i := 3) h h2 3 rfl (by omega) (by omega)), ob_of _ (l_gR h h1 2 rfl), ob_of _ (l_aI (i := 4) h h2 4 rfl (by omega) (by omega)), ob_of _ (l_gR h h1 2 rfl), ob_of _ (l_aI (i := 5) h h2 5 rfl (by omega) (by omega))]
  show some ((((f 1 + f 2) + f 3) + f 4) + f 5) = some (((((0 + f 1) + f 2) + f 3) + f 4) + f 5)
  rw [Int32.zero_add]
theorem s5_temper (h : NH st ad ct) (h1 : ct c = some (.inr (5, [DI g, DI w, DR (some (ad a))]))) (h2 : ct a = some (ARR 6 f)) : fX5_temper st (ad c) = some (temF f) := by
  unfold fX5_temper
  rw [ob_of _ (l_gR h h1 2 rfl), ob_of _ (l_aI (i := 4) h h2 4 rfl (by omega) (by omega)), ob_of _ (l_gR h h1 2 rfl), ob_of _ (l_aI (i := 5) h h2 5 rfl (by omega) (by omega)), ob_of _ (l_gR h h1 2 rfl), ob_of _ (l_aI (i := 1) h h2 1 rfl (by omega) (by omega)), ob_of _ (l_gR h h1 2 rfl), ob_of _ (l_aI (i := 2) h h2 2 rfl (by omega) (by omega)), ob_of _ (l_gR h h1 2 rfl), ob_of _ (l_aI (i := 3) h h2 3 rfl (by omega) (by omega)), tem_if, Int32.add_comm]
  rfl
theorem s6_fits {s b : Nat} {x y : Nat → Int32} (h : NH st ad ct) (h1 : ct s = some (ARR 5 x)) (h2 : ct b = some (ARR 5 y)) : fX6_fits st (some (ad s)) (some (ad b)) = some (bI (fitB y x (x 3))) := by
  unfold fX6_fits fitB suitB
  rw [ob_of _ (l_aI (i := 2) h h2 2 rfl (by omega) (by omega))]
  by_cases c1 : y 2 = 0
  · rw [if_pos c1, ob_of _ (l_aI (i := 0) h h1 0 rfl (by omega) (by omega)), ob_of _ (l_aI (i := 1) h h1 1 rfl (by omega) (by omega)), ob_of _ (l_aI (i := 0) h h2 0 rfl (by omega) (by omega)), decide_eq_true c1, Bool.true_and]
    by_cases c2 : x 0 * x 1 = y 0
    · rw [if_pos c2, ob_of _ (l_aI (i := 2) h h1 2 rfl (by omega) (by omega)), ob_of _ (l_aI (i := 1) h h2 1 rfl (by omega) (by omega))]
      by_cases c3 : x 2 < y 1
      · rw [if_pos c3, decide_eq_false (fun q => q.2.1 c3)]
        rfl
      · rw [if_neg c3, ob_of _ (l_aI (i := 3) h h1 3 rfl (by omega) (by omega))]
        have e21 : (21 : Int32).toInt = 21 := by decide
        have e20 : (20 : Int32).toInt = 20 := by decide
        by_cases c4 : 21 ≤ x 3
        · rw [if_pos c4, decide_eq_false (fun q => q.2.2 (by rw [i_lt, e20]; rw [i_le, e21] at c4; omega))]
          rfl
        · rw [if_neg c4, decide_eq_true ⟨c2, c3, fun q => c4 (by rw [i_le, e21]; rw [i_lt, e20] at q; omega)⟩]
          rfl
    · rw [if_neg c2, decide_eq_false (fun q => c2 q.1)]
      rfl
  · rw [if_neg c1, decide_eq_false c1, Bool.false_and]
    rfl
end SSM
/-! keeping warm -/
def halD (w : Int32) (f : Nat → Int32) (k : Nat) : Nat → Int32 := fun j => if k < j ∧ j ≤ 5 ∧ ¬ w < (4 * nI j) + 15 then f j - (f j + 1) / 2 else f j
def GD (w : Int32) (k : Nat) : Nat → Int32
  | 0 => 0
  | m + 1 => if (4 * nI (k + 1)) + 15 ≤ w + 3 then GD w (k + 1) m else nI (k + 1)
theorem halN_at (w : Int32) (f : Nat → Int32) : ∀ k j, halN w f k j = if 1 ≤ j ∧ j ≤ k ∧ ¬ w < 15 + (4 * nI j) then f j / 2 else f j
  | 0, j => (if_neg (by omega)).symm
  | k + 1, j => by
    unfold halN
    have ih := halN_at w f k
    by_cases h : w < 15 + (4 * nI (k + 1))
    · rw [if_pos h, ih j]
      by_cases hj : j = k + 1
      · rw [if_neg (by omega), if_neg (fun q => q.2.2 (by rw [hj]; exact h))]
      · by_cases h2 : 1 ≤ j ∧ j ≤ k ∧ ¬ w < 15 + (4 * nI j)
        · rw [if_pos h2, if_pos ⟨h2.1, by omega, h2.2.2⟩]
        · rw [if_neg h2, if_neg (fun q => h2 ⟨q.1, by omega, q.2.2⟩)]
    · rw [if_neg h]
      by_cases hj : j = k + 1
      · rw [hj, upd_s, ih (k + 1), if_neg (by omega), if_pos ⟨by omega, by omega, h⟩]
      · rw [upd_n _ _ hj, ih j]
        by_cases h2 : 1 ≤ j ∧ j ≤ k ∧ ¬ w < 15 + (4 * nI j)
        · rw [if_pos h2, if_pos ⟨h2.1, by omega, h2.2.2⟩]
        · rw [if_neg h2, if_neg (fun q => h2 ⟨q.1, by omega, q.2.2⟩)]
theorem half_eq {x : Int32} (h0 : 0 ≤ x.toInt) (h1 : x.toInt ≤ 1000) : x - (x + 1) / 2 = x / 2 := by
  have e1 : (x + 1).toInt = x.toInt + 1 := by rw [i_add] <;> rw [show (1 : Int32).toInt = 1 by decide] <;> omega
  have e2 : ((x + 1) / 2).toInt = (x.toInt + 1) / 2 := by rw [i_div (by rw [e1]; omega) (by rw [toInt_2]; omega), e1, toInt_2]
  have e3 : (x / 2).toInt = x.toInt / 2 := by rw [i_div h0 (by rw [toInt_2]; omega), toInt_2]
  rw [i_eq, e3, i_sub] <;> rw [e2] <;> omega
theorem halD_0 {w : Int32} {f : Nat → Int32} (hB : BC f) : halD w f 0 = halN w f 5 := by
  funext j
  rw [halN_at]
  unfold halD
  rw [Int32.add_comm (4 * nI j) 15]
  by_cases h : 0 < j ∧ j ≤ 5 ∧ ¬ w < 15 + (4 * nI j)
  · rw [if_pos h, if_pos ⟨by omega, h.2.1, h.2.2⟩]
    have := hB.one (k := j) (by omega) h.2.1
    exact half_eq this.1 (by omega)
  · rw [if_neg h, if_neg (fun q => h ⟨by omega, q.2.1, q.2.2⟩)]
theorem halD_5 {w : Int32} {f : Nat → Int32} : halD w f 5 = f := by
  funext j
  exact if_neg (by omega)
theorem halD_s {w : Int32} {f : Nat → Int32} {k : Nat} (hk : k < 5) : halD w f k = if w < (4 * nI (k + 1)) + 15 then halD w f (k + 1) else upd (halD w f (k + 1)) (k + 1) (halD w f (k + 1) (k + 1) - (halD w f (k + 1) (k + 1) + 1) / 2) := by
  have e : halD w f (k + 1) (k + 1) = f (k + 1) := if_neg (by omega)
  rw [e]
  by_cases h : w < (4 * nI (k + 1)) + 15
  · rw [if_pos h]
    funext j
    unfold halD
    by_cases hj : j = k + 1
    · rw [hj, if_neg (fun q => q.2.2 h), if_neg (by omega)]
    · by_cases h2 : k < j ∧ j ≤ 5 ∧ ¬ w < (4 * nI j) + 15
      · rw [if_pos h2, if_pos ⟨by omega, h2.2⟩]
      · rw [if_neg h2, if_neg (fun q => h2 ⟨by omega, q.2⟩)]
  · rw [if_neg h]
    funext j
    by_cases hj : j = k + 1
    · rw [hj, upd_s]
      exact if_pos ⟨by omega, by omega, h⟩
    · rw [upd_n _ _ hj]
      unfold halD
      by_cases h2 : k < j ∧ j ≤ 5 ∧ ¬ w < (4 * nI j) + 15
      · rw [if_pos h2, if_pos ⟨by omega, h2.2⟩]
      · rw [if_neg h2, if_neg (fun q => h2 ⟨by omega, q.2⟩)]
theorem GD_sort (w : Int32) : (if GD w 0 5 = 0 then (some (5 : Int32)) else some (GD w 0 5)) = some (nI (sortF w)) := by
  have n0 : ∀ k, 0 < k → k < 6 → ¬ nI k = 0 := fun k h1 h2 e => by
    rw [i_eq, i_nI (by omega), toInt_0] at e
    omega
  unfold GD GD GD GD GD GD sortF
  by_cases c1 : (4 * nI (0 + 1)) + 15 ≤ w + 3
  · have d1 : ¬ w + 3 < 15 + (4 * nI 1) := Int32.not_lt.mpr (by rw [Int32.add_comm]; exact c1)
    rw [if_pos c1, if_neg d1]
    by_cases c2 : (4 * nI (0 + 1 + 1)) + 15 ≤ w + 3
    · have d2 : ¬ w + 3 < 15 + (4 * nI 2) := Int32.not_lt.mpr (by rw [Int32.add_comm]; exact c2)
      rw [if_pos c2, if_neg d2]
      by_cases c3 : (4 * nI (0 + 1 + 1 + 1)) + 15 ≤ w + 3
      · have d3 : ¬ w + 3 < 15 + (4 * nI 3) := Int32.not_lt.mpr (by rw [Int32.add_comm]; exact c3)
        rw [if_pos c3, if_neg d3]
        by_cases c4 : (4 * nI (0 + 1 + 1 + 1 + 1)) + 15 ≤ w + 3
        · have d4 : ¬ w + 3 < 15 + (4 * nI 4) := Int32.not_lt.mpr (by rw [Int32.add_comm]; exact c4)
          rw [if_pos c4, if_neg d4]
          by_cases c5 : (4 * nI (0 + 1 + 1 + 1 + 1 + 1)) + 15 ≤ w + 3
          · rw [if_pos c5, if_pos rfl]
            rfl
          · rw [if_neg c5, if_neg (n0 5 (by omega) (by omega))]
        · have d4 : w + 3 < 15 + (4 * nI 4) := by rw [Int32.add_comm 15]; exact Int32.not_le.mp c4
          rw [if_neg c4, if_pos d4, if_neg (n0 4 (by omega) (by omega))]
      · have d3 : w + 3 < 15 + (4 * nI 3) := by rw [Int32.add_comm 15]; exact Int32.not_le.mp c3
        rw [if_neg c3, if_pos d3, if_neg (n0 3 (by omega) (by omega))]
    · have d2 : w + 3 < 15 + (4 * nI 2) := by rw [Int32.add_comm 15]; exact Int32.not_le.mp c2
      rw [if_neg c2, if_pos d2, if_neg (n0 2 (by omega) (by omega))]
  · have d1 : w + 3 < 15 + (4 * nI 1) := by rw [Int32.add_comm 15]; exact Int32.not_le.mp c1
    rw [if_neg c1, if_pos d1, if_neg (n0 1 (by omega) (by omega))]
theorem nI_m1 (k : Nat) : nI (k + 1) + (-1) = nI k := by
  rw [← nI_1, Int32.add_assoc, show (1 : Int32) + (-1) = 0 by decide, Int32.add_zero]
section KEPT
variable {st : DSt} {ad : Nat → Nat} {day : Int32} {nb ns nx : Nat} {gB wB : Nat → Int32} {cB sS bX : Nat → Nat → Int32} {f6 f7 g8 g9 : Nat → Int32} {Q : Nat → Option DCel} {dy : Int32} {lb ls lx mb ms mx : Nat} {hB vB : Nat → Int32} {dB tS yX : Nat → Nat → Int32} {e4 e5 : Option DCel} {i k : Nat} {p : Int32}
theorem k_inner (w : Int32) (f : Nat → Int32) (h : NH st ad (CT ad day nb ns nx gB wB cB sS bX f6 f7 g8 g9 ((SQ ad dy lb ls lx mb ms mx hB vB (va_up dB i f) tS yX e4 e5)))) (hi : i < mb) (hm : mb ≤ 5) (hs : ns ≤ 8) : ∃ b, dlp (fX5_kept_L18 (ad (100 + i)) w) (st, 0, 5) = some b ∧ b.2.1 = GD w 0 5 ∧ NH b.1 ad (CT ad day nb ns nx gB wB cB sS bX f6 f7 g8 g9 ((SQ ad dy lb ls lx mb ms mx hB vB (va_up dB i (halD w f 0)) tS yX e4 e5))) := by
  obtain ⟨b, g1, g2, g3⟩ := dlp_run (fX5_kept_L18 (ad (100 + i)) w) (fun n z => z.2.2 = nI (5 - n) ∧ z.2.1 = GD w (5 - n) n ∧ NH z.1 ad (CT ad day nb ns nx gB wB cB sS bX f6 f7 g8 g9 ((SQ ad dy lb ls lx mb ms mx hB vB (va_up dB i (halD w f (5 - n))) tS yX e4 e5)))) (fun b => b.2.1 = GD w 0 5 ∧ NH b.1 ad (CT ad day nb ns nx gB wB cB sS bX f6 f7 g8 g9 ((SQ ad dy lb ls lx mb ms mx hB vB (va_up dB i (halD w f 0)) tS yX e4 e5)))) 5 (fun n z hn hz => by
    obtain ⟨z1, z2, z3⟩ := z
    obtain ⟨h1, h2, h3⟩ := hz
    dsimp only at h1 h2 h3
    subst h1
    subst h2
    unfold fX5_kept_L18
    dsimp only
    by_cases h5 : n = 5
    · subst h5
      exact Or.inr ⟨_, if_pos (show nI 0 ≤ 0 by decide), rfl, h3⟩
    · refine Or.inl ?_
      obtain ⟨k, hk1, hk2, hk3⟩ : ∃ k, 5 - n = k + 1 ∧ 5 - (n + 1) = k ∧ k < 5 := ⟨4 - n, by omega, by omega, by omega⟩
      rw [hk1] at h3 ⊢
      have hH : ∃ s', (if w < ((4 * nI (k + 1)) + 15) then some z1 else oB (gR z1 (some (ad (100 + i))) 5 2) fun v8 => oB (aI z1 v8 0 (nI (k + 1))) fun v9 => oB (gR z1 (some (ad (100 + i))) 5 2) fun v10 => oB (aI z1 v10 0 (nI (k + 1))) fun v11 => oB (oD (v11 + 1) 2) fun v12 => oB (sI z1 v8 0 (nI (k + 1)) (v9 - v12)) fun s13 => some s13) = some s' ∧ NH s' ad (CT ad day nb ns nx gB wB cB sS bX f6 f7 g8 g9 ((SQ ad dy lb ls lx mb ms mx hB vB (va_up dB i (halD w f k)) tS yX e4 e5))) := by
        rw [halD_s hk3]
        by_cases c : w < (4 * nI (k + 1)) + 15
        · rw [if_pos c, if_pos c]
          exact ⟨_, rfl, h3⟩
        · rw [if_neg c, if_neg c]
          obtain ⟨s9, e9, h9⟩ := zs_c h3 hi hm hs (p := nI (k + 1)) (k := k + 1) rfl (by omega) (halD w f (k + 1) (k + 1) - (halD w f (k + 1) (k + 1) + 1) / 2)
          rw [bx_uu, va_up_s] at h9
          rw [ob_of _ (z_bc h3 hi hm hs), ob_of _ (z_ca h3 hi hm hs (k := k + 1) rfl (by omega)), ob_of _ (z_bc h3 hi hm hs), ob_of _ (z_ca h3 hi hm hs (k := k + 1) rfl (by omega)), va_up_s, ob_of _ (oD_of (by decide)), ob_of _ e9]
          exact ⟨_, rfl, h9⟩
      obtain ⟨s', e1, h4⟩ := hH
      have hG : (if ((4 * nI (k + 1)) + 15) ≤ (w + 3) then some (GD w (k + 1) n) else some (nI (k + 1))) = some (GD w k (n + 1)) := by
        show _ = some (if (4 * nI (k + 1)) + 15 ≤ w + 3 then GD w (k + 1) n else nI (k + 1))
        by_cases c : (4 * nI (k + 1)) + 15 ≤ w + 3
        · rw [if_pos c, if_pos c]
        · rw [if_neg c, if_neg c]
      rw [if_neg (show ¬ nI (k + 1) ≤ 0 from nI_ge (a := 0) (by omega) (by omega)), ob_of _ e1, ob_of _ hG]
      refine ⟨_, rfl, by omega, ?_, ?_, ?_⟩
      · show _ = nI (5 - (n + 1))
        rw [hk2]
        exact nI_m1 k
      · show _ = GD w (5 - (n + 1)) (n + 1)
        rw [hk2]
      · show NH s' ad (CT ad day nb ns nx gB wB cB sS bX f6 f7 g8 g9 ((SQ ad dy lb ls lx mb ms mx hB vB (va_up dB i (halD w f (5 - (n + 1)))) tS yX e4 e5)))
        rw [hk2]
        exact h4) (st, 0, 5) ⟨rfl, rfl, by rw [show 5 - 0 = 5 from rfl, halD_5]; exact h⟩
  exact ⟨b, g1, g2, g3⟩
theorem z_kept (w : Int32) {n : Nat} (hn : n < 1000) (h : NH st ad (CT ad day nb ns nx gB wB cB sS bX f6 f7 g8 g9 ((SQ ad dy lb ls lx mb ms mx hB vB dB tS yX e4 e5)))) (hi : i < mb) (hm : mb ≤ 5) (hs : ns ≤ 8) (hBC : BC (dB i)) : ∃ st', fX5_kept st (ad (100 + i)) w (nI n) = some (some (ad (100 + i)), st') ∧ NH st' ad (CT ad day nb ns nx gB wB cB sS bX f6 f7 g8 g9 ((SQ ad dy lb ls lx mb ms mx hB (upd vB i w) (va_up dB i (turN w (dB i) n)) tS yX e4 e5))) := by
  obtain ⟨s1, e1, h1⟩ := zw_w h hi hm hs w
  obtain ⟨b, g1, g2⟩ := dlp_run (fX5_kept_L7 (ad (100 + i)) w (nI n)) (fun k z => z.2 = nI k ∧ NH z.1 ad (CT ad day nb ns nx gB wB cB sS bX f6 f7 g8 g9 ((SQ ad dy lb ls lx mb ms mx hB (upd vB i w) (va_up dB i (turN w (dB i) k)) tS yX e4 e5)))) (fun b => NH b.1 ad (CT ad day nb ns nx gB wB cB sS bX f6 f7 g8 g9 ((SQ ad dy lb ls lx mb ms mx hB (upd vB i w) (va_up dB i (turN w (dB i) n)) tS yX e4 e5)))) n (fun k z hk hz => by
    obtain ⟨z1, z2⟩ := z
    obtain ⟨rfl, hz⟩ := hz
    dsimp only at hz
    unfold fX5_kept_L7
    dsimp only
    by_cases h5 : k = n
    · subst h5
      rw [if_pos (Int32.le_refl _)]
      exact Or.inr ⟨_, rfl, hz⟩
    · refine Or.inl ?_
      have hT := hBC.turs (w := w) k
      obtain ⟨b4, q1, q2, q3⟩ := k_inner w (turN w (dB i) k) hz hi hm hs
      rw [halD_0 hT] at q3
      have hH := hT.hal (w := w) 5
      rw [if_neg (nI_ge (by omega) (by omega)), ob_of _ q1, q2]
      have e34 : (34 : Int32).toInt = 34 := by decide
      have e33 : (33 : Int32).toInt = 33 := by decide
      have eT : turN w (dB i) (k + 1) = growN w (halN w (turN w (dB i) k) 5) := rfl
      generalize halN w (turN w (dB i) k) 5 = F at q3 hH eT
      by_cases c : w ≤ 33
      · have c' : w < 34 := by rw [i_lt, e34]; rw [i_le, e33] at c; omega
        obtain ⟨s1, s2⟩ := sortF_in w
        have q := hH.one s1 s2
        have e := q4 q.1 q.2
        obtain ⟨s9, e9, h9⟩ := zs_c q3 hi hm hs (p := nI (sortF w)) (k := sortF w) rfl (by omega) (F (sortF w) + jmax 0 (jmin (F (sortF w) / 4 + 8) (100 - sumN F 5)))
        have a1 := z_ca q3 hi hm hs (p := nI (sortF w)) (k := sortF w) rfl (by omega)
        have a2 := s5_all q3 (z_b hi hm hs) (z_c hi hm hs)
        rw [bx_uu, va_up_s] at h9
        rw [va_up_s] at a1 a2
        rw [if_pos c, ob_of _ (GD_sort w), ob_of _ (z_bc q3 hi hm hs), ob_of _ a1, ob_of _ (z_bc q3 hi hm hs), ob_of _ a1, ob_of _ (oD_of (by decide)), ob_of _ (z_bo q3 hi hm hs), ob_of _ a2, ob_of _ e9]
        refine ⟨_, rfl, by omega, nI_1 _, ?_⟩
        show NH s9 ad (CT ad day nb ns nx gB wB cB sS bX f6 f7 g8 g9 ((SQ ad dy lb ls lx mb ms mx hB (upd vB i w) (va_up dB i (turN w (dB i) (k + 1))) tS yX e4 e5)))
        rw [eT]
        unfold growN
        rw [if_pos c', ← (hH.inc s1 s2 (m := 8 + F (sortF w) / 4) (by omega) (by omega)).1, Int32.add_comm 8]
        exact h9
      · have c' : ¬ w < 34 := by rw [i_lt, e34]; rw [i_le, e33] at c; omega
        rw [if_neg c]
        refine ⟨_, rfl, by omega, nI_1 _, ?_⟩
        show NH b4.1 ad (CT ad day nb ns nx gB wB cB sS bX f6 f7 g8 g9 ((SQ ad dy lb ls lx mb ms mx hB (upd vB i w) (va_up dB i (turN w (dB i) (k + 1))) tS yX e4 e5)))
        rw [eT]
        unfold growN
        rw [if_neg c']
        exact q3) (s1, 0) ⟨rfl, by
          show NH s1 ad (CT ad day nb ns nx gB wB cB sS bX f6 f7 g8 g9 ((SQ ad dy lb ls lx mb ms mx hB (upd vB i w) (va_up dB i (dB i)) tS yX e4 e5)))
          rw [up2_id]
          exact h1⟩
  unfold fX5_kept
  rw [ob_of _ e1, ob_of _ g1]
  exact ⟨_, rfl, g2⟩
theorem z_bloomed (h : NH st ad (CT ad day nb ns nx gB wB cB sS bX f6 f7 g8 g9 ((SQ ad dy lb ls lx mb ms mx hB vB dB tS yX e4 e5)))) (hs : ns ≤ 8) (hl : ls = ms) (hm : ms ≤ 8) : fX6_bloomed st (ad 10) = some (foldN (cntB tS) ms 0) := by
  subst hl
  unfold fX6_bloomed
  rw [ob_of _ (z_r2 h), ob_of _ (z_n2 h), ob_of _ (dlp_fold (fX6_bloomed_L13 st (some (ad 12)) (nI ls)) (cntB tS) ls 0 (fun k a hk => by
    unfold fX6_bloomed_L13
    dsimp only
    rw [if_neg (nI_ge hk (by omega)), ob_of _ (z_a2 h rfl hk hm), ob_of _ (z_sa h hk hm hs (p := 3) (k := 3) rfl (by omega))]
    unfold cntB
    by_cases c : tS k 3 ≤ 20
    · rw [if_pos c, if_pos c]
      show some (Sum.inl (a + 0, nI k + 1)) = _
      rw [Int32.add_zero]
    · rw [if_neg c, if_neg c]
      rfl) (fun a => if_pos (Int32.le_refl _)))]
def agS (a n : Int32) (tS : Nat → Nat → Int32) (k : Nat) : Nat → Nat → Int32 := fun j => if j < k then ageF a n (tS j) else tS j
theorem more_eq {t a : Int32} (a1 : 10 ≤ a.toInt) (a2 : a.toInt ≤ 40) : ∃ j8, (if a ≤ 24 then some (0 : Int32) else some (a - 24)) = some j8 ∧ (100 - t) / 10 + (j8 * 2) = moreV t a := by
  have e24 : (24 : Int32).toInt = 24 := by decide
  have e3 : (a - 24).toInt = a.toInt - 24 := by rw [i_sub] <;> rw [e24] <;> omega
  unfold moreV
  by_cases c : a ≤ 24
  · refine ⟨_, if_pos c, ?_⟩
    rw [show jmax 0 (a - 24) = 0 from by rw [i_eq, i_max, e3, toInt_0]; rw [i_le, e24] at c; omega]
    rfl
  · refine ⟨_, if_neg c, ?_⟩
    rw [show jmax 0 (a - 24) = a - 24 from by rw [i_eq, i_max, e3, toInt_0]; rw [i_le, e24] at c; omega, Int32.mul_comm]
theorem cap_eq (v m : Int32) : (if (v + m) ≤ 100 then some (v + m) else some (100 : Int32)) = some (jmin 100 (v + (1 * m))) := by
  rw [Int32.one_mul]
  by_cases c : v + m ≤ 100
  · rw [if_pos c]
    congr 1
    rw [i_eq, i_min, toInt_100]
    rw [i_le, toInt_100] at c
    omega
  · rw [if_neg c]
    congr 1
    rw [i_eq, i_min, toInt_100]
    rw [i_le, toInt_100] at c
    omega
theorem z_pass1 (h : NH st ad (CT ad day nb ns nx gB wB cB sS bX f6 f7 g8 g9 ((SQ ad dy lb ls lx mb ms mx hB vB dB tS yX e4 e5)))) (hs : ns ≤ 8) (hl : ls = ms) (hm : ms ≤ 8) {a : Int32} (a1 : 10 ≤ a.toInt) (a2 : a.toInt ≤ 40) : ∃ st', fX6_pass st (ad 10) a = some st' ∧ NH st' ad (CT ad day nb ns nx gB wB cB sS bX f6 f7 g8 g9 ((SQ ad (dy + 1) lb ls lx mb ms mx hB vB dB (agS a 1 tS ms) yX e4 e5))) := by
  subst hl
  obtain ⟨b, g1, g2⟩ := dlp_run (fX6_pass_L11 a (some (ad 12)) (nI ls)) (fun k z => z.2 = nI k ∧ NH z.1 ad (CT ad day nb ns nx gB wB cB sS bX f6 f7 g8 g9 ((SQ ad dy lb ls lx mb ls mx hB vB dB (agS a 1 tS k) yX e4 e5)))) (fun b => NH b.1 ad (CT ad day nb ns nx gB wB cB sS bX f6 f7 g8 g9 ((SQ ad dy lb ls lx mb ls mx hB vB dB (agS a 1 tS ls) yX e4 e5)))) ls (fun k z hk hz => by
    obtain ⟨z1, z2⟩ := z
    obtain ⟨rfl, hz⟩ := hz
    dsimp only at hz
    unfold fX6_pass_L11
    dsimp only
    by_cases h5 : k = ls
    · subst h5
      rw [if_pos (Int32.le_refl _)]
      exact Or.inr ⟨_, rfl, hz⟩
    · refine Or.inl ?_
      have hk' : k < ls := by omega
      have ek : agS a 1 tS k k = tS k := if_neg (by omega)
      obtain ⟨j8, e8, em⟩ := more_eq (t := tS k 2) a1 a2
      have r2 := z_sa hz hk' hm hs (p := 2) (k := 2) rfl (by omega)
      have r3 := z_sa hz hk' hm hs (p := 3) (k := 3) rfl (by omega)
      rw [ek] at r2 r3
      obtain ⟨s1, q1, h1⟩ := zs_s hz hk' hm hs (p := 3) (k := 3) rfl (by omega) (jmin 100 (tS k 3 + (1 * moreV (tS k 2) a)))
      have r4 := z_sa h1 hk' hm hs (p := 4) (k := 4) rfl (by omega)
      rw [va_up_s, upd_n _ _ (by omega), ek] at r4
      obtain ⟨s2, q2, h2⟩ := zs_s h1 hk' hm hs (p := 4) (k := 4) rfl (by omega) (tS k 4 + 1)
      rw [bx_uu, va_up_s, ek] at h2
      have ec : (if (tS k 3 + ((100 - tS k 2) / 10 + (j8 * 2))) ≤ 100 then oB (aI z1 (some (ad (130 + k))) 0 3) fun v13 => some (v13 + ((100 - tS k 2) / 10 + (j8 * 2))) else some (100 : Int32)) = some (jmin 100 (tS k 3 + (1 * moreV (tS k 2) a))) := by
        rw [ob_of _ r3, em]
        exact cap_eq _ _
      rw [if_neg (nI_ge (by omega) (by omega)), ob_of _ (z_a2 hz rfl hk' hm), ob_of _ r2, ob_of _ (oD_of (by decide)), ob_of _ e8, ob_of _ r3, ob_of _ ec, ob_of _ q1, ob_of _ r4, ob_of _ q2]
      refine ⟨_, rfl, by omega, nI_1 _, ?_⟩
      have eg : va_up (agS a 1 tS k) k (upd (upd (tS k) 3 (jmin 100 (tS k 3 + (1 * moreV (tS k 2) a)))) 4 (tS k 4 + 1)) = agS a 1 tS (k + 1) := by
        funext j
        by_cases j1 : j = k
        · rw [j1, va_up_s]
          exact (if_pos (show k < k + 1 by omega)).symm
        · rw [va_up_n _ _ j1]
          by_cases j2 : j < k
          · exact (if_pos j2).trans (if_pos (show j < k + 1 by omega)).symm
          · exact (if_neg j2).trans (if_neg (show ¬ j < k + 1 by omega)).symm
      rw [eg] at h2
      exact h2) (st, 0) ⟨rfl, by
        have eg : agS a 1 tS 0 = tS := by
          funext j
          exact if_neg (by omega)
        dsimp only
        rw [eg]
        exact h⟩
  obtain ⟨s3, e3, h3⟩ := zw_day g2 (dy + 1)
  unfold fX6_pass
  rw [ob_of _ (z_r2 h), ob_of _ (z_n2 h), ob_of _ g1, ob_of _ (z_day g2), ob_of _ e3]
  exact ⟨_, rfl, h3⟩
end KEPT
