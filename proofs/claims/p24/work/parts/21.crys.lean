/-! CRYSTALS: what both sides do to a row of six numbers -/
abbrev ARR (n : Nat) (f : Nat → Int32) : DCel := .inl (0, (n, .inl f))
def sumN (f : Nat → Int32) : Nat → Int32
  | 0 => 0
  | k + 1 => sumN f k + f (k + 1)
def temF (f : Nat → Int32) : Int32 := jmax 0 (jmin (((((2 * f 5) + f 4) - f 1) - f 2) - f 3) 100)
def halN (w : Int32) (f : Nat → Int32) : Nat → (Nat → Int32)
  | 0 => f
  | k + 1 => if w < 15 + (4 * nI (k + 1)) then halN w f k else upd (halN w f k) (k + 1) (halN w f k (k + 1) / 2)
def sortF (w : Int32) : Nat := if (w + 3) < 15 + (4 * nI 1) then 1 else if (w + 3) < 15 + (4 * nI 2) then 2 else if (w + 3) < 15 + (4 * nI 3) then 3 else if (w + 3) < 15 + (4 * nI 4) then 4 else 5
def growN (w : Int32) (f : Nat → Int32) : Nat → Int32 := if w < 34 then upd f (sortF w) (f (sortF w) + (jmin (100 - sumN f 5) (8 + f (sortF w) / 4))) else f
def turF (w : Int32) (f : Nat → Int32) : Nat → Int32 := growN w (halN w f 5)
def turN (w : Int32) (f : Nat → Int32) : Nat → (Nat → Int32)
  | 0 => f
  | k + 1 => turF w (turN w f k)
def BC (f : Nat → Int32) : Prop := (∀ k, 1 ≤ k → k ≤ 5 → 0 ≤ (f k).toInt) ∧ (f 1).toInt + (f 2).toInt + (f 3).toInt + (f 4).toInt + (f 5).toInt ≤ 100
theorem sortF_in (w : Int32) : 1 ≤ sortF w ∧ sortF w ≤ 5 := by
  unfold sortF
  repeat' split
  all_goals omega
theorem oD_of {x y : Int32} (h : ¬ y = 0) : oD x y = some (x / y) := by unfold oD; rw [if_neg h]
theorem jmin_comm (x y : Int32) : jmin x y = jmin y x := by rw [i_eq, i_min, i_min]; omega
theorem toInt_0 : (0 : Int32).toInt = 0 := by decide
theorem toInt_100 : (100 : Int32).toInt = 100 := by decide
theorem toInt_8 : (8 : Int32).toInt = 8 := by decide
theorem toInt_4 : (4 : Int32).toInt = 4 := by decide
theorem toInt_2 : (2 : Int32).toInt = 2 := by decide
theorem BC.parts {f : Nat → Int32} (h : BC f) : 0 ≤ (f 1).toInt ∧ 0 ≤ (f 2).toInt ∧ 0 ≤ (f 3).toInt ∧ 0 ≤ (f 4).toInt ∧ 0 ≤ (f 5).toInt := ⟨h.1 1 (by omega) (by omega), h.1 2 (by omega) (by omega), h.1 3 (by omega) (by omega), h.1 4 (by omega) (by omega), h.1 5 (by omega) (by omega)⟩
theorem BC.sum {f : Nat → Int32} (h : BC f) : (sumN f 5).toInt = (f 1).toInt + (f 2).toInt + (f 3).toInt + (f 4).toInt + (f 5).toInt := by
  obtain ⟨h1, h2, h3, h4, h5⟩ := h.parts
  have hs := h.2
  show (((((0 + f 1) + f 2) + f 3) + f 4) + f 5).toInt = _
  have e1 : (0 + f 1).toInt = (f 1).toInt := by rw [i_add] <;> rw [toInt_0] <;> omega
  have e2 : ((0 + f 1) + f 2).toInt = (f 1).toInt + (f 2).toInt := by rw [i_add, e1] <;> rw [e1] <;> omega
  have e3 : (((0 + f 1) + f 2) + f 3).toInt = (f 1).toInt + (f 2).toInt + (f 3).toInt := by rw [i_add, e2] <;> rw [e2] <;> omega
  have e4 : ((((0 + f 1) + f 2) + f 3) + f 4).toInt = (f 1).toInt + (f 2).toInt + (f 3).toInt + (f 4).toInt := by rw [i_add, e3] <;> rw [e3] <;> omega
  rw [i_add, e4] <;> rw [e4] <;> omega
theorem BC.of {f : Nat → Int32} (h1 : 0 ≤ (f 1).toInt) (h2 : 0 ≤ (f 2).toInt) (h3 : 0 ≤ (f 3).toInt) (h4 : 0 ≤ (f 4).toInt) (h5 : 0 ≤ (f 5).toInt) (hs : (f 1).toInt + (f 2).toInt + (f 3).toInt + (f 4).toInt + (f 5).toInt ≤ 100) : BC f := by
  refine ⟨fun k ha hb => ?_, hs⟩
  rcases (show k = 1 ∨ k = 2 ∨ k = 3 ∨ k = 4 ∨ k = 5 by omega) with rfl | rfl | rfl | rfl | rfl <;> assumption
theorem BC.congr {f g : Nat → Int32} (h : BC f) (e : ∀ k, 1 ≤ k → k ≤ 5 → g k = f k) : BC g := by
  obtain ⟨h1, h2, h3, h4, h5⟩ := h.parts
  have hs := h.2
  have e1 := e 1 (by omega) (by omega)
  have e2 := e 2 (by omega) (by omega)
  have e3 := e 3 (by omega) (by omega)
  have e4 := e 4 (by omega) (by omega)
  have e5 := e 5 (by omega) (by omega)
  apply BC.of <;> simp only [e1, e2, e3, e4, e5] <;> assumption
theorem halN_le {w : Int32} {f : Nat → Int32} (h : ∀ j, 1 ≤ j → j ≤ 5 → 0 ≤ (f j).toInt) : ∀ k j, 1 ≤ j → j ≤ 5 → 0 ≤ (halN w f k j).toInt ∧ (halN w f k j).toInt ≤ (f j).toInt := by
  intro k
  induction k with
  | zero => intro j h1 h2; exact ⟨h j h1 h2, Int.le_refl _⟩
  | succ k ih =>
    intro j h1 h2
    unfold halN
    split
    · exact ih j h1 h2
    · by_cases hj : j = k + 1
      · subst hj
        rw [upd_s]
        obtain ⟨g1, g2⟩ := ih (k + 1) h1 h2
        rw [i_div g1 (by rw [toInt_2]; omega), toInt_2]
        omega
      · rw [upd_n _ _ hj]
        exact ih j h1 h2
theorem BC.hal {w : Int32} {f : Nat → Int32} (h : BC f) (k : Nat) : BC (halN w f k) := by
  have g := fun j h1 h2 => halN_le (w := w) h.1 k j h1 h2
  have hs := h.2
  have g1 := g 1 (by omega) (by omega)
  have g2 := g 2 (by omega) (by omega)
  have g3 := g 3 (by omega) (by omega)
  have g4 := g 4 (by omega) (by omega)
  have g5 := g 5 (by omega) (by omega)
  exact BC.of g1.1 g2.1 g3.1 g4.1 g5.1 (by omega)
/-- some more of one sort, as many as find room -/
theorem BC.inc {f : Nat → Int32} (h : BC f) {s : Nat} (h1 : 1 ≤ s) (h2 : s ≤ 5) {m : Int32} (hm : 0 ≤ m.toInt) (hm2 : m.toInt ≤ 1000) : jmax 0 (jmin m (100 - sumN f 5)) = jmin (100 - sumN f 5) m ∧ 0 ≤ (jmin (100 - sumN f 5) m).toInt ∧ BC (upd f s (f s + jmin (100 - sumN f 5) m)) := by
  obtain ⟨p1, p2, p3, p4, p5⟩ := h.parts
  have hs := h.2
  have es := h.sum
  have e0 : (100 - sumN f 5).toInt = 100 - (sumN f 5).toInt := by rw [i_sub] <;> rw [toInt_100] <;> omega
  have e1 : (jmin (100 - sumN f 5) m).toInt = min (100 - (sumN f 5).toInt) m.toInt := by rw [i_min, e0]
  have hv : ∀ k, 1 ≤ k → k ≤ 5 → (f k + jmin (100 - sumN f 5) m).toInt = (f k).toInt + min (100 - (sumN f 5).toInt) m.toInt := by
    intro k k1 k2
    have q0 : 0 ≤ (f k).toInt ∧ (f k).toInt ≤ 100 := by
      rcases (show k = 1 ∨ k = 2 ∨ k = 3 ∨ k = 4 ∨ k = 5 by omega) with rfl | rfl | rfl | rfl | rfl <;> omega
    rw [i_add, e1] <;> rw [e1] <;> omega
  refine ⟨?_, by rw [e1]; omega, ?_⟩
  · rw [i_eq, i_max, i_min, e1, e0, toInt_0]
    omega
  · have v := hv s h1 h2
    rcases (show s = 1 ∨ s = 2 ∨ s = 3 ∨ s = 4 ∨ s = 5 by omega) with rfl | rfl | rfl | rfl | rfl <;> (apply BC.of <;> simp only [upd, if_true, if_neg, reduceIte, Nat.reduceEqDiff] <;> omega)
theorem q4 {x : Int32} (h : 0 ≤ x.toInt) (h2 : x.toInt ≤ 100) : (8 + x / 4).toInt = 8 + x.toInt / 4 := by
  have e : (x / 4).toInt = x.toInt / 4 := by rw [i_div h (by rw [toInt_4]; omega), toInt_4]
  rw [i_add, e, toInt_8] <;> rw [e, toInt_8] <;> omega
theorem BC.one {f : Nat → Int32} (h : BC f) {k : Nat} (h1 : 1 ≤ k) (h2 : k ≤ 5) : 0 ≤ (f k).toInt ∧ (f k).toInt ≤ 100 := by
  obtain ⟨p1, p2, p3, p4, p5⟩ := h.parts
  have hs := h.2
  rcases (show k = 1 ∨ k = 2 ∨ k = 3 ∨ k = 4 ∨ k = 5 by omega) with rfl | rfl | rfl | rfl | rfl <;> omega
theorem BC.grow {w : Int32} {f : Nat → Int32} (h : BC f) : BC (growN w f) := by
  unfold growN
  split
  · obtain ⟨s1, s2⟩ := sortF_in w
    have q := h.one s1 s2
    have e := q4 q.1 q.2
    exact (h.inc s1 s2 (by omega) (by omega)).2.2
  · exact h
theorem BC.tur {w : Int32} {f : Nat → Int32} (h : BC f) : BC (turF w f) := (h.hal 5).grow
theorem BC.turs {w : Int32} {f : Nat → Int32} (h : BC f) : ∀ n, BC (turN w f n)
  | 0 => h
  | n + 1 => (h.turs n).tur
theorem temF_in (f : Nat → Int32) : 0 ≤ (temF f).toInt ∧ (temF f).toInt ≤ 100 := by
  unfold temF
  rw [i_max, i_min, toInt_0, toInt_100]
  omega
/-! the six numbers beyond 1 to 5 don't matter -/
def EQ5 (f g : Nat → Int32) : Prop := ∀ k, 1 ≤ k → k ≤ 5 → f k = g k
theorem EQ5.sum {f g : Nat → Int32} (h : EQ5 f g) : sumN f 5 = sumN g 5 := by
  show (((((0 + f 1) + f 2) + f 3) + f 4) + f 5) = (((((0 + g 1) + g 2) + g 3) + g 4) + g 5)
  rw [h 1 (by omega) (by omega), h 2 (by omega) (by omega), h 3 (by omega) (by omega), h 4 (by omega) (by omega), h 5 (by omega) (by omega)]
theorem EQ5.tem {f g : Nat → Int32} (h : EQ5 f g) : temF f = temF g := by
  unfold temF
  rw [h 1 (by omega) (by omega), h 2 (by omega) (by omega), h 3 (by omega) (by omega), h 4 (by omega) (by omega), h 5 (by omega) (by omega)]
theorem EQ5.upd {f g : Nat → Int32} (h : EQ5 f g) (s : Nat) {x y : Int32} (hx : x = y) : EQ5 (upd f s x) (upd g s y) := fun k h1 h2 => by
  by_cases hk : k = s
  · rw [hk, upd_s, upd_s, hx]
  · rw [upd_n _ _ hk, upd_n _ _ hk, h k h1 h2]
theorem EQ5.hal {w : Int32} {f g : Nat → Int32} (h : EQ5 f g) : ∀ k, k ≤ 5 → EQ5 (halN w f k) (halN w g k)
  | 0, _ => h
  | k + 1, hk => by
    have ih := h.hal (w := w) k (by omega)
    unfold halN
    split
    · exact ih
    · exact ih.upd _ (by rw [ih (k + 1) (by omega) hk])
theorem EQ5.grow {w : Int32} {f g : Nat → Int32} (h : EQ5 f g) : EQ5 (growN w f) (growN w g) := by
  unfold growN
  split
  · obtain ⟨s1, s2⟩ := sortF_in w
    exact h.upd _ (by rw [h.sum, h _ s1 s2])
  · exact h
theorem EQ5.turs {w : Int32} {f g : Nat → Int32} (h : EQ5 f g) : ∀ n, EQ5 (turN w f n) (turN w g n)
  | 0 => h
  | n + 1 => ((h.turs n).hal 5 (by omega)).grow
section CRYS
variable {st : DSt} {ad : Nat → Nat} {ct : Nat → Option DCel} {c a : Nat} {f : Nat → Int32}
theorem s_total (h : NH st ad ct) (h1 : ct c = some (.inr (2, [DR (some (ad a))]))) (h2 : ct a = some (ARR 6 f)) : fX2_total st (ad c) = some (sumN f 5) := by
  obtain ⟨b, g1, g2⟩ := dlp_run (fX2_total_L4 st (ad c)) (fun k z => z = (sumN f k, nI (k + 1))) (fun b => b.1 = sumN f 5) 5 (fun k z hk hz => by
    subst hz
    by_cases h5 : k = 5
    · subst h5
      exact Or.inr ⟨_, if_pos (show (5 : Int32) < nI 6 by decide), rfl⟩
    · refine Or.inl ⟨_, ((if_neg (show ¬ (5 : Int32) < nI (k + 1) from nI_nlt (a := 5) (by omega) (by omega))).trans ((ob_of _ (l_gR h h1 0 rfl)).trans (ob_of _ (l_aI h h2 (k + 1) rfl (by omega) (by omega))))), by omega, ?_⟩
      show (sumN f k + f (k + 1), nI (k + 1) + 1) = _
      rw [nI_1]
      rfl) (0, 1) rfl
  unfold fX2_total
  rw [ob_of _ g1, g2]
theorem s_temper (h : NH st ad ct) (h1 : ct c = some (.inr (2, [DR (some (ad a))]))) (h2 : ct a = some (ARR 6 f)) : fX2_temper st (ad c) = some (temF f) := by
  unfold fX2_temper
  rw [ob_of _ (l_gR h h1 0 rfl), ob_of _ (l_aI (i := 5) h h2 5 rfl (by omega) (by omega)), ob_of _ (l_gR h h1 0 rfl), ob_of _ (l_aI (i := 4) h h2 4 rfl (by omega) (by omega)), ob_of _ (l_gR h h1 0 rfl), ob_of _ (l_aI (i := 1) h h2 1 rfl (by omega) (by omega)), ob_of _ (l_gR h h1 0 rfl), ob_of _ (l_aI (i := 2) h h2 2 rfl (by omega) (by omega)), ob_of _ (l_gR h h1 0 rfl), ob_of _ (l_aI (i := 3) h h2 3 rfl (by omega) (by omega))]
  rfl
theorem ne_oa (h1 : ct c = some (.inr (2, [DR (some (ad a))]))) (h2 : ct a = some (ARR 6 f)) : c ≠ a := fun q => by rw [q, h2] at h1; cases h1
theorem NH.put (h : NH st ad (va_up ct a (some (ARR 6 f)))) (g : Nat → Int32) : NH (setN st (ad a) (ARR 6 g)) ad (va_up ct a (some (ARR 6 g))) := by
  have := h.set (va_up_s _ _ _) (ARR 6 g)
  rw [bx_uu] at this
  exact this
theorem NH.start (h : NH st ad ct) {e : DCel} (h2 : ct a = some e) : NH st ad (va_up ct a (some e)) := h.cong fun d => by
  by_cases hd : d = a
  · rw [hd, va_up_s, h2]
  · rw [va_up_n _ _ hd]
theorem s_halve (w : Int32) (h : NH st ad ct) (h1 : ct c = some (.inr (2, [DR (some (ad a))]))) (h2 : ct a = some (ARR 6 f)) : ∃ st', fX2_halveWhatMelts st (ad c) w = some st' ∧ NH st' ad (va_up ct a (some (ARR 6 (halN w f 5)))) := by
  have hne := ne_oa h1 h2
  obtain ⟨b, g1, g2⟩ := dlp_run (fX2_halveWhatMelts_L2 (ad c) w) (fun k z => z.2 = nI (k + 1) ∧ NH z.1 ad (va_up ct a (some (ARR 6 (halN w f k))))) (fun b => NH b.1 ad (va_up ct a (some (ARR 6 (halN w f 5))))) 5 (fun k z hk hz => by
    obtain ⟨z1, z2⟩ := z
    obtain ⟨rfl, hz⟩ := hz
    by_cases h5 : k = 5
    · subst h5
      exact Or.inr ⟨_, if_pos (show (5 : Int32) < nI 6 by decide), hz⟩
    · refine Or.inl ?_
      unfold fX2_halveWhatMelts_L2
      dsimp only
      rw [if_neg (show ¬ (5 : Int32) < nI (k + 1) from nI_nlt (a := 5) (by omega) (by omega))]
      rw [show fX2_meltingPoint z1 (nI (k + 1)) = some (15 + (4 * nI (k + 1))) from rfl, ob_of _ rfl]
      by_cases hw : w < 15 + (4 * nI (k + 1))
      · rw [if_pos hw]
        refine ⟨_, rfl, by omega, (nI_1 _), ?_⟩
        have e : halN w f (k + 1) = halN w f k := if_pos hw
        rw [e]
        exact hz
      · rw [if_neg hw, ob_of _ (l_gR hz (by rw [va_up_n _ _ hne]; exact h1) 0 rfl), ob_of _ (l_aI hz (va_up_s _ _ _) (k + 1) rfl (by omega) (by omega)), ob_of _ (oD_of (by decide)), ob_of _ (l_sI hz (va_up_s _ _ _) (k + 1) rfl (by omega) (by omega) _)]
        refine ⟨_, rfl, by omega, (nI_1 _), ?_⟩
        have e : halN w f (k + 1) = upd (halN w f k) (k + 1) (halN w f k (k + 1) / 2) := if_neg hw
        rw [e]
        exact hz.put _) (st, 1) ⟨rfl, h.start h2⟩
  unfold fX2_halveWhatMelts
  rw [ob_of _ g1]
  exact ⟨_, rfl, g2⟩
theorem s_sort (w : Int32) : fX2_growingSort st w = some (nI (sortF w)) := by
  obtain ⟨b, g1, g2⟩ := dlp_run (fX2_growingSort_L2 st w) (fun k z => z = nI (k + 1) ∧ ∀ j, 1 ≤ j → j ≤ k → ¬ (w + 3) < 15 + (4 * nI j)) (fun b => match b with | .inl _ => sortF w = 5 | .inr r => r = nI (sortF w)) 5 (fun k z hk hz => by
    obtain ⟨rfl, hz⟩ := hz
    unfold fX2_growingSort_L2
    by_cases h5 : k = 5
    · subst h5
      refine Or.inr ⟨_, if_pos (show (5 : Int32) < nI 6 by decide), ?_⟩
      show sortF w = 5
      unfold sortF
      rw [if_neg (hz 1 (by omega) (by omega)), if_neg (hz 2 (by omega) (by omega)), if_neg (hz 3 (by omega) (by omega)), if_neg (hz 4 (by omega) (by omega))]
    · rw [if_neg (show ¬ (5 : Int32) < nI (k + 1) from nI_nlt (a := 5) (by omega) (by omega)), show fX2_meltingPoint st (nI (k + 1)) = some (15 + (4 * nI (k + 1))) from rfl, ob_of _ rfl]
      by_cases hw : 15 + (4 * nI (k + 1)) ≤ w + 3
      · rw [if_pos hw]
        refine Or.inl ⟨_, rfl, by omega, nI_1 _, fun j j1 j2 => ?_⟩
        by_cases hj : j = k + 1
        · rw [hj, Int32.not_lt]; exact hw
        · exact hz j j1 (by omega)
      · rw [if_neg hw]
        rw [Int32.not_le] at hw
        refine Or.inr ⟨_, rfl, ?_⟩
        show nI (k + 1) = nI (sortF w)
        congr 1
        unfold sortF
        rcases (show k = 0 ∨ k = 1 ∨ k = 2 ∨ k = 3 ∨ k = 4 by omega) with rfl | rfl | rfl | rfl | rfl
        · rw [if_pos hw]
        · rw [if_neg (hz 1 (by omega) (by omega)), if_pos hw]
        · rw [if_neg (hz 1 (by omega) (by omega)), if_neg (hz 2 (by omega) (by omega)), if_pos hw]
        · rw [if_neg (hz 1 (by omega) (by omega)), if_neg (hz 2 (by omega) (by omega)), if_neg (hz 3 (by omega) (by omega)), if_pos hw]
        · rw [if_neg (hz 1 (by omega) (by omega)), if_neg (hz 2 (by omega) (by omega)), if_neg (hz 3 (by omega) (by omega)), if_neg (hz 4 (by omega) (by omega))]) 1 ⟨rfl, fun j j1 j2 => by omega⟩
  unfold fX2_growingSort
  rw [ob_of _ g1]
  rcases b with b | b
  · have g2 : sortF w = 5 := g2
    rw [g2]
    rfl
  · have g2 : b = nI (sortF w) := g2
    rw [g2]
theorem s_increase (h : NH st ad ct) (h1 : ct c = some (.inr (2, [DR (some (ad a))]))) (h2 : ct a = some (ARR 6 f)) {s : Nat} (hs : s ≤ 5) (m : Int32) : ∃ st', fX2_increase st (ad c) (nI s) m = some st' ∧ NH st' ad (va_up ct a (some (ARR 6 (upd f s (f s + jmax 0 (jmin m (100 - sumN f 5))))))) := by
  unfold fX2_increase
  rw [ob_of _ (l_gR h h1 0 rfl), ob_of _ (l_aI h h2 s rfl (by omega) (by omega)), ob_of _ (l_oR h h1), ob_of _ (s_total h h1 h2), ob_of _ (l_sI h h2 s rfl (by omega) (by omega) _)]
  exact ⟨_, rfl, h.set h2 _⟩
theorem s_letGrow (w : Int32) (hB : BC f) (h : NH st ad ct) (h1 : ct c = some (.inr (2, [DR (some (ad a))]))) (h2 : ct a = some (ARR 6 f)) : ∃ st', fX2_letGrow st (ad c) w = some st' ∧ NH st' ad (va_up ct a (some (ARR 6 (growN w f)))) := by
  unfold fX2_letGrow growN
  by_cases hw : w < 34
  · rw [if_neg (Int32.not_le.mpr hw), if_pos hw]
    obtain ⟨s1, s2⟩ := sortF_in w
    have q := hB.one s1 s2
    have e := q4 q.1 q.2
    obtain ⟨st', g1, g2⟩ := s_increase h h1 h2 s2 (8 + f (sortF w) / 4)
    rw [ob_of _ (s_sort w), ob_of _ (l_gR h h1 0 rfl), ob_of _ (l_aI h h2 (sortF w) rfl (by omega) (by omega)), ob_of _ (oD_of (by decide)), ob_of _ (l_oR h h1), ob_of _ g1]
    refine ⟨_, rfl, ?_⟩
    rw [← (hB.inc s1 s2 (m := 8 + f (sortF w) / 4) (by omega) (by omega)).1]
    exact g2
  · rw [if_pos (Int32.not_lt.mp hw), if_neg hw]
    exact ⟨_, rfl, h.start h2⟩
theorem s_keepAt (w : Int32) {n : Nat} (hn : n < 1000) (hB : BC f) (h : NH st ad ct) (h1 : ct c = some (.inr (2, [DR (some (ad a))]))) (h2 : ct a = some (ARR 6 f)) : ∃ st', fX2_keepAt st (ad c) w (nI n) = some st' ∧ NH st' ad (va_up ct a (some (ARR 6 (turN w f n)))) := by
  have hne := ne_oa h1 h2
  obtain ⟨b, g1, g2⟩ := dlp_run (fX2_keepAt_L2 (ad c) w (nI n)) (fun k z => z.2 = nI k ∧ NH z.1 ad (va_up ct a (some (ARR 6 (turN w f k))))) (fun b => NH b.1 ad (va_up ct a (some (ARR 6 (turN w f n))))) n (fun k z hk hz => by
    obtain ⟨z1, z2⟩ := z
    obtain ⟨rfl, hz⟩ := hz
    by_cases h5 : k = n
    · subst h5
      exact Or.inr ⟨_, if_pos (Int32.le_refl _), hz⟩
    · refine Or.inl ?_
      unfold fX2_keepAt_L2
      dsimp only
      have k1 := show va_up ct a (some (ARR 6 (turN w f k))) c = some (.inr (2, [DR (some (ad a))])) by rw [va_up_n _ _ hne]; exact h1
      obtain ⟨s1, e1, n1⟩ := s_halve w hz k1 (va_up_s _ _ _)
      rw [bx_uu] at n1
      have k2 := show va_up ct a (some (ARR 6 (halN w (turN w f k) 5))) c = some (.inr (2, [DR (some (ad a))])) by rw [va_up_n _ _ hne]; exact h1
      obtain ⟨s2, e2, n2⟩ := s_letGrow w ((hB.turs k).hal 5) n1 k2 (va_up_s _ _ _)
      rw [bx_uu] at n2
      rw [if_neg (nI_ge (by omega) (by omega)), ob_of _ (l_oR hz k1), ob_of _ e1, ob_of _ (l_oR n1 k2), ob_of _ e2]
      exact ⟨_, rfl, by omega, nI_1 _, n2⟩) (st, 0) ⟨rfl, h.start h2⟩
  unfold fX2_keepAt
  rw [ob_of _ g1]
  exact ⟨_, rfl, g2⟩
/-- one row of crystals taken over into another -/
def likN (f g : Nat → Int32) (k : Nat) : Nat → Int32 := fun j => if 1 ≤ j ∧ j ≤ k then g j else f j
theorem likN_s (f g : Nat → Int32) (k : Nat) : upd (likN f g k) (k + 1) (g (k + 1)) = likN f g (k + 1) := by
  funext j
  show (if j = k + 1 then g (k + 1) else if 1 ≤ j ∧ j ≤ k then g j else f j) = (if 1 ≤ j ∧ j ≤ k + 1 then g j else f j)
  by_cases hj : j = k + 1
  · rw [if_pos hj, if_pos ⟨by omega, by omega⟩, hj]
  · rw [if_neg hj]
    by_cases h1 : 1 ≤ j ∧ j ≤ k
    · rw [if_pos h1, if_pos ⟨h1.1, by omega⟩]
    · rw [if_neg h1, if_neg (by omega)]
theorem likN_0 (f g : Nat → Int32) : likN f g 0 = f := by
  funext j
  exact if_neg (by omega)
theorem likN_5 (f g : Nat → Int32) : EQ5 (likN f g 5) g := fun k h1 h2 => if_pos ⟨h1, h2⟩
theorem s_vanish (h : NH st ad ct) (h1 : ct c = some (.inr (2, [DR (some (ad a))]))) (h2 : ct a = some (ARR 6 f)) : ∃ st', fX2_vanish st (ad c) = some st' ∧ NH st' ad (va_up ct a (some (ARR 6 (likN f (fun _ => 0) 5)))) := by
  have hne := ne_oa h1 h2
  obtain ⟨b, g1, g2⟩ := dlp_run (fX2_vanish_L2 (ad c)) (fun k z => z.2 = nI (k + 1) ∧ NH z.1 ad (va_up ct a (some (ARR 6 (likN f (fun _ => 0) k))))) (fun b => NH b.1 ad (va_up ct a (some (ARR 6 (likN f (fun _ => 0) 5))))) 5 (fun k z hk hz => by
    obtain ⟨z1, z2⟩ := z
    obtain ⟨rfl, hz⟩ := hz
    by_cases h5 : k = 5
    · subst h5
      exact Or.inr ⟨_, if_pos (show (5 : Int32) < nI 6 by decide), hz⟩
    · refine Or.inl ?_
      unfold fX2_vanish_L2
      dsimp only
      rw [if_neg (show ¬ (5 : Int32) < nI (k + 1) from nI_nlt (a := 5) (by omega) (by omega)), ob_of _ (l_gR hz (by rw [va_up_n _ _ hne]; exact h1) 0 rfl), ob_of _ (l_sI hz (va_up_s _ _ _) (k + 1) rfl (by omega) (by omega) _)]
      refine ⟨_, rfl, by omega, (nI_1 _), ?_⟩
      have := hz.put (upd (likN f (fun _ => 0) k) (k + 1) ((fun _ => 0 : Nat → Int32) (k + 1)))
      rw [likN_s] at this
      rw [likN_s f (fun _ => 0)]
      exact this) (st, 1) ⟨rfl, by rw [likN_0]; exact h.start h2⟩
  unfold fX2_vanish
  rw [ob_of _ g1]
  exact ⟨_, rfl, g2⟩
end CRYS
