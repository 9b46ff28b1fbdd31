/-! BEST -/
theorem foldN_s {α : Type} (g : Nat → α → α) (n : Nat) (a : α) : foldN g (n + 1) a = g n (foldN g n a) := rfl
theorem foldN_0 {α : Type} (g : Nat → α → α) (a : α) : foldN g 0 a = a := rfl
def bT (n : Nat) (c : Nat → Int32) (k m : Nat) : Int32 := temF (turN (nI (15 + m)) (turN (nI (15 + k)) c n) n)
def bST (n : Nat) (c : Nat → Int32) (k m : Nat) (s : Int32 × Int32 × Int32) : Int32 × Int32 × Int32 := if s.2.2 < bT n c k m then (nI (15 + k), nI (15 + m), bT n c k m) else s
def bIN (N n : Nat) (c : Nat → Int32) (k : Nat) (s : Int32 × Int32 × Int32) : Int32 × Int32 × Int32 := foldN (bST n c k) N s
theorem bT_in (n : Nat) (c : Nat → Int32) (k m : Nat) : 0 ≤ (bT n c k m).toInt ∧ (bT n c k m).toInt ≤ 100 := temF_in _
theorem bST_sat {n : Nat} {c : Nat → Int32} {k m : Nat} {s : Int32 × Int32 × Int32} (h : 100 ≤ s.2.2) : bST n c k m s = s := by
  refine if_neg ?_
  rw [i_le, toInt_100] at h
  rw [i_lt]
  have := bT_in n c k m
  omega
theorem bF_sat {n : Nat} {c : Nat → Int32} {k m M : Nat} {s : Int32 × Int32 × Int32} (hm : m ≤ M) (h : 100 ≤ (foldN (bST n c k) m s).2.2) : foldN (bST n c k) M s = foldN (bST n c k) m s := by
  induction M with
  | zero => rw [show m = 0 by omega]
  | succ M ih =>
    by_cases e : m = M + 1
    · rw [e]
    · show bST n c k M (foldN (bST n c k) M s) = _
      rw [ih (by omega), bST_sat h]
theorem bI_sat {N n : Nat} {c : Nat → Int32} {k : Nat} {s : Int32 × Int32 × Int32} (h : 100 ≤ s.2.2) : bIN N n c k s = s := by
  unfold bIN
  have q := bF_sat (n := n) (c := c) (k := k) (m := 0) (M := N) (s := s) (Nat.zero_le _) (by rw [foldN_0]; exact h)
  rw [foldN_0] at q
  exact q
theorem bO_sat {N n : Nat} {c : Nat → Int32} {m M : Nat} {s : Int32 × Int32 × Int32} (hm : m ≤ M) (h : 100 ≤ (foldN (bIN N n c) m s).2.2) : foldN (bIN N n c) M s = foldN (bIN N n c) m s := by
  induction M with
  | zero => rw [show m = 0 by omega]
  | succ M ih =>
    by_cases e : m = M + 1
    · rw [e]
    · rw [foldN_s, ih (by omega), bI_sat h]
theorem bO_start {N n : Nat} (hN : N = 36) {c : Nat → Int32} {s s' : Int32 × Int32 × Int32} (h : s.2.2 = -1) (h' : s'.2.2 = -1) : ∀ k, foldN (bIN N n c) (k + 1) s = foldN (bIN N n c) (k + 1) s' := by
  have e0 : ∀ m, foldN (bST n c 0) (m + 1) s = foldN (bST n c 0) (m + 1) s' := by
    intro m
    induction m with
    | zero =>
      have hp : (-1 : Int32) < bT n c 0 0 := by
        rw [i_lt, show (-1 : Int32).toInt = -1 by decide]
        have := bT_in n c 0 0
        omega
      show bST n c 0 0 s = bST n c 0 0 s'
      exact (if_pos (by rw [h]; exact hp)).trans (if_pos (by rw [h']; exact hp)).symm
    | succ m ih =>
      show bST n c 0 (m + 1) (foldN (bST n c 0) (m + 1) s) = bST n c 0 (m + 1) (foldN (bST n c 0) (m + 1) s')
      rw [ih]
  intro k
  induction k with
  | zero =>
    obtain ⟨M, rfl⟩ : ∃ M, N = M + 1 := ⟨35, hN⟩
    have e1 : bIN (M + 1) n c 0 s = bIN (M + 1) n c 0 s' := by
      unfold bIN
      exact e0 M
    rw [foldN_s, foldN_s, foldN_0, foldN_0, e1]
  | succ k ih =>
    rw [foldN_s (bIN N n c) (k + 1) s, foldN_s (bIN N n c) (k + 1) s', ih]
section CBEST
variable {st : DSt} {ad : Nat → Nat} {day : Int32} {nb ns nx : Nat} {gB wB : Nat → Int32} {cB sS bX : Nat → Nat → Int32} {f6 f7 g8 g9 : Nat → Int32} {Q : Nat → Option DCel} {i : Nat} {p : Int32}
theorem c_bestIn (h : NH st ad (CT ad day nb ns nx gB wB cB sS bX f6 f7 g8 g9 Q)) {N n k : Nat} (hN : N = 36) (hn : n < 1000) {c : Nat → Int32} (hB : BC c) (hE : EQ5 f6 (turN (nI (15 + k)) c n)) (s0 : Int32 × Int32 × Int32) (z4 : DSt × Int32 × Int32 × Int32 × Int32) (hz4 : z4.2.2.2.2 = nI (15 + k)) : ∃ b, dlp (fX4_best_L86 (ad 0) (nI n) z4) (st, s0.1, s0.2.1, s0.2.2, 15) = some b ∧ (b.2.1, b.2.2.1, b.2.2.2.1) = bIN N n c k s0 ∧ ∃ f7', NH b.1 ad (CT ad day nb ns nx gB wB cB sS bX f6 (f7') g8 g9 Q) := by
  refine dlp_run (fX4_best_L86 (ad 0) (nI n) z4) (fun m z => z.2.2.2.2 = nI (15 + m) ∧ (z.2.1, z.2.2.1, z.2.2.2.1) = foldN (bST n c k) m s0 ∧ ∃ f7', NH z.1 ad (CT ad day nb ns nx gB wB cB sS bX f6 (f7') g8 g9 Q)) (fun b => (b.2.1, b.2.2.1, b.2.2.2.1) = bIN N n c k s0 ∧ ∃ f7', NH b.1 ad (CT ad day nb ns nx gB wB cB sS bX f6 (f7') g8 g9 Q)) N (fun m z hm hz => ?_) _ ⟨rfl, rfl, f7, h⟩
  obtain ⟨z1, za, zb, zt, zw⟩ := z
  obtain ⟨ew, es, g7, hz⟩ := hz
  dsimp only at ew es hz
  subst ew
  unfold fX4_best_L86
  dsimp only
  by_cases h36 : m = N
  · refine Or.inr ⟨_, if_pos (show (50 : Int32) < nI (15 + m) by rw [h36, hN]; decide), ?_, g7, hz⟩
    rw [h36] at es
    exact es
  rw [if_neg (show ¬ (50 : Int32) < nI (15 + m) from nI_nlt (a := 50) (by omega) (by omega))]
  by_cases h100 : 100 ≤ zt
  · refine Or.inr ⟨_, if_pos h100, ?_, g7, hz⟩
    rw [es]
    exact (bF_sat hm (by rw [← es]; exact h100)).symm
  rw [if_neg h100]
  refine Or.inl ?_
  obtain ⟨s1, e1, h1⟩ := s_like hz (c := 5) (a := 7) q_c5 rfl (c2 := 4) (a2 := 6) q_c4 rfl (by decide)
  have h1 := w_7 _ h1
  have hE7 : EQ5 (likN g7 f6 5) (turN (nI (15 + k)) c n) := fun j j1 j2 => by rw [likN_5 _ _ j j1 j2, hE j j1 j2]
  obtain ⟨s2, e2, h2⟩ := s_keepAt (nI (15 + m)) (n := n) hn ((hB.turs n).congr hE7) h1 (c := 5) (a := 7) q_c5 rfl
  have h2 := w_7 _ h2
  rw [ob_of _ (q_r5 hz), ob_of _ (q_r4 hz), ob_of _ (l_oR (c := 5) hz q_c5), ob_of _ e1, ob_of _ (q_r5 h1), ob_of _ (l_oR (c := 5) h1 q_c5), ob_of _ e2, ob_of _ (q_r5 h2), ob_of _ (l_oR (c := 5) h2 q_c5), ob_of _ (s_temper h2 (c := 5) (a := 7) q_c5 rfl), (hE7.turs (w := nI (15 + m)) n).tem]
  show ∃ s', (if bT n c k m ≤ zt then _ else _) = _ ∧ _
  by_cases ht : bT n c k m ≤ zt
  · rw [if_pos ht]
    refine ⟨_, rfl, by omega, nI_1 _, ?_, _, h2⟩
    show _ = bST n c k m (foldN (bST n c k) m s0)
    rw [← es]
    exact (if_neg (Int32.not_lt.mpr ht)).symm
  · rw [if_neg ht]
    refine ⟨_, rfl, by omega, nI_1 _, ?_, _, h2⟩
    show _ = bST n c k m (foldN (bST n c k) m s0)
    rw [← es, hz4]
    exact (if_pos (Int32.not_le.mp ht)).symm
theorem c_bestOut (h : NH st ad (CT ad day nb ns nx gB wB cB sS bX f6 f7 g8 g9 Q)) (hi : i < nb) (hb : nb ≤ 5) {N n : Nat} (hN : N = 36) (hn : n < 1000) (hB : BC (cB i)) (s0 : Int32 × Int32 × Int32) : ∃ b, dlp (fX4_best_L46 (ad 0) (nI n) (some (ad (20 + i)))) (st, s0.1, s0.2.1, s0.2.2, 15) = some b ∧ (b.2.1, b.2.2.1, b.2.2.2.1) = foldN (bIN N n (cB i)) N s0 ∧ ∃ f6' f7', NH b.1 ad (CT ad day nb ns nx gB wB cB sS bX (f6') (f7') g8 g9 Q) := by
  refine dlp_run (fX4_best_L46 (ad 0) (nI n) (some (ad (20 + i)))) (fun m z => z.2.2.2.2 = nI (15 + m) ∧ (z.2.1, z.2.2.1, z.2.2.2.1) = foldN (bIN N n (cB i)) m s0 ∧ ∃ f6' f7', NH z.1 ad (CT ad day nb ns nx gB wB cB sS bX (f6') (f7') g8 g9 Q)) (fun b => (b.2.1, b.2.2.1, b.2.2.2.1) = foldN (bIN N n (cB i)) N s0 ∧ ∃ f6' f7', NH b.1 ad (CT ad day nb ns nx gB wB cB sS bX (f6') (f7') g8 g9 Q)) N (fun m z hm hz => ?_) _ ⟨rfl, rfl, f6, f7, h⟩
  obtain ⟨z1, za, zb, zt, zw⟩ := z
  obtain ⟨ew, es, g6, g7, hz⟩ := hz
  dsimp only at ew es hz
  subst ew
  unfold fX4_best_L46
  dsimp only
  by_cases h36 : m = N
  · refine Or.inr ⟨_, if_pos (show (50 : Int32) < nI (15 + m) by rw [h36, hN]; decide), ?_, g6, g7, hz⟩
    rw [h36] at es
    exact es
  rw [if_neg (show ¬ (50 : Int32) < nI (15 + m) from nI_nlt (a := 50) (by omega) (by omega))]
  by_cases h100 : 100 ≤ zt
  · refine Or.inr ⟨_, if_pos h100, ?_, g6, g7, hz⟩
    rw [es]
    exact (bO_sat hm (by rw [← es]; exact h100)).symm
  rw [if_neg h100]
  refine Or.inl ?_
  obtain ⟨s1, e1, h1⟩ := s_like hz (c := 4) (a := 6) q_c4 rfl (c_c hi hb) (c_a hi hb) (by omega)
  have h1 := w_6 _ h1
  have hE6 : EQ5 (likN g6 (cB i) 5) (cB i) := likN_5 _ _
  obtain ⟨s2, e2, h2⟩ := s_keepAt (nI (15 + m)) (n := n) hn (hB.congr hE6) h1 (c := 4) (a := 6) q_c4 rfl
  have h2 := w_6 _ h2
  obtain ⟨b, e3, eb, g7', h3⟩ := c_bestIn h2 hN hn hB (hE6.turs n) (za, zb, zt) (z1, za, zb, zt, nI (15 + m)) rfl
  rw [ob_of _ (q_r4 hz), ob_of _ (q_bc hz hi hb), ob_of _ (l_oR (c := 4) hz q_c4), ob_of _ e1, ob_of _ (q_r4 h1), ob_of _ (l_oR (c := 4) h1 q_c4), ob_of _ e2, ob_of _ e3]
  refine ⟨_, rfl, by omega, nI_1 _, ?_, _, _, h3⟩
  show _ = bIN N n (cB i) m (foldN (bIN N n (cB i)) m s0)
  rw [← es]
  exact eb
end CBEST
section MBEST
variable {st : DSt} {ad : Nat → Nat} {l : Nat → Int64} {thr day : Int32} {nb ns nx : Nat} {mB mS mX k15 k16 t17 t18 : Nat → Int32} {r0 r2 r3 r4 r5 r6 : Nat → Option DCel} {i : Nat} {p : Int32}
theorem m_bestIn (h : NH st ad (MT ad l thr day nb ns nx mB mS mX k15 k16 t17 t18 r0 r2 r3 r4 r5 r6)) {N n k : Nat} (hN : N = 36) (hn : n < 1000) {c : Nat → Int32} (hE : EQ5 t18 (turN (nI (15 + k)) c n)) (s0 : Int32 × Int32 × Int32) (z8 : DSt × Int32 × Int32 × Int32 × Int32) (hz8 : z8.2.2.2.2 = nI (15 + k)) : ∃ b, dlp (fX5_best_L101 (ad 11) (nI n) z8) (st, s0.2.2, s0.1, s0.2.1, 15) = some b ∧ (b.2.2.1, b.2.2.2.1, b.2.1) = bIN N n c k s0 ∧ ∃ t17', NH b.1 ad (MT ad l thr day nb ns nx mB mS mX k15 k16 (t17') t18 r0 r2 r3 r4 r5 r6) := by
  refine dlp_run (fX5_best_L101 (ad 11) (nI n) z8) (fun m z => z.2.2.2.2 = nI (15 + m) ∧ (z.2.2.1, z.2.2.2.1, z.2.1) = foldN (bST n c k) m s0 ∧ ∃ t17', NH z.1 ad (MT ad l thr day nb ns nx mB mS mX k15 k16 (t17') t18 r0 r2 r3 r4 r5 r6)) (fun b => (b.2.2.1, b.2.2.2.1, b.2.1) = bIN N n c k s0 ∧ ∃ t17', NH b.1 ad (MT ad l thr day nb ns nx mB mS mX k15 k16 (t17') t18 r0 r2 r3 r4 r5 r6)) N (fun m z hm hz => ?_) _ ⟨rfl, rfl, t17, h⟩
  obtain ⟨z1, zt, za, zb, zw⟩ := z
  obtain ⟨ew, es, g7, hz⟩ := hz
  dsimp only at ew es hz
  subst ew
  unfold fX5_best_L101
  dsimp only
  by_cases h36 : m = N
  · refine Or.inr ⟨_, if_pos (show (50 : Int32) < nI (15 + m) by rw [h36, hN]; decide), ?_, g7, hz⟩
    rw [h36] at es
    exact es
  rw [if_neg (show ¬ (50 : Int32) < nI (15 + m) from nI_nlt (a := 50) (by omega) (by omega))]
  refine Or.inl ?_
  have e1 := l_cp hz (c0 := 18) (c1 := 17) m_c18 m_c17 (sp := 0) (dp := 0) (n := Int32.ofNat 6) 0 0 6 rfl rfl rfl (by omega) (by omega) (by omega) (by omega)
  have h1 := x_17 _ (hz.set (c := 17) m_c17 (ARR 6 (va_cpy t18 g7 0 0 6)))
  generalize setN z1 (ad 17) _ = s1 at e1 h1
  have hE7 : EQ5 (va_cpy t18 g7 0 0 6) (turN (nI (15 + k)) c n) := fun j j1 j2 => by
    refine (if_pos ⟨by omega, by omega⟩).trans ?_
    rw [show 0 + (j - 0) = j by omega]
    exact hE j j1 j2
  obtain ⟨s2, e2, h2⟩ := s_turns (nI (15 + m)) (n := n) hn h1 (a := 17) rfl
  have h2 := x_17 _ h2
  rw [ob_of _ (m_r11 hz), ob_of _ (m_r10 hz), ob_of _ (m_r10 hz), ob_of _ (l_aN (c := 17) hz m_c17), ob_of _ e1, ob_of _ (m_r10 h1), ob_of _ e2, ob_of _ (m_r10 h2), ob_of _ (s_mtemper h2 (a := 17) rfl), (hE7.turs (w := nI (15 + m)) n).tem]
  show ∃ s', (if zt < bT n c k m then _ else _) = _ ∧ _
  by_cases ht : zt < bT n c k m
  · rw [if_pos ht, ob_of _ (m_r10 h2), ob_of _ (s_mtemper h2 (a := 17) rfl), (hE7.turs (w := nI (15 + m)) n).tem]
    refine ⟨_, rfl, by omega, nI_1 _, ?_, _, h2⟩
    show _ = bST n c k m (foldN (bST n c k) m s0)
    rw [← es, hz8]
    exact (if_pos ht).symm
  · rw [if_neg ht]
    refine ⟨_, rfl, by omega, nI_1 _, ?_, _, h2⟩
    show _ = bST n c k m (foldN (bST n c k) m s0)
    rw [← es]
    exact (if_neg ht).symm
theorem m_bestOut (h : NH st ad (MT ad l thr day nb ns nx mB mS mX k15 k16 t17 t18 r0 r2 r3 r4 r5 r6)) (hp : p = nI i) (hi : i < 5) {N n : Nat} (hN : N = 36) (hn : n < 1000) {c : Nat → Int32} (hc : EQ5 c (fun k => mB (7 * i + k))) (s0 : Int32 × Int32 × Int32) : ∃ b, dlp (fX5_best_L57 (ad 11) p (nI n)) (st, s0.2.2, s0.1, s0.2.1, 15) = some b ∧ (b.2.2.1, b.2.2.2.1, b.2.1) = foldN (bIN N n c) N s0 ∧ ∃ t17' t18', NH b.1 ad (MT ad l thr day nb ns nx mB mS mX k15 k16 (t17') (t18') r0 r2 r3 r4 r5 r6) := by
  refine dlp_run (fX5_best_L57 (ad 11) p (nI n)) (fun m z => z.2.2.2.2 = nI (15 + m) ∧ (z.2.2.1, z.2.2.2.1, z.2.1) = foldN (bIN N n c) m s0 ∧ ∃ t17' t18', NH z.1 ad (MT ad l thr day nb ns nx mB mS mX k15 k16 (t17') (t18') r0 r2 r3 r4 r5 r6)) (fun b => (b.2.2.1, b.2.2.2.1, b.2.1) = foldN (bIN N n c) N s0 ∧ ∃ t17' t18', NH b.1 ad (MT ad l thr day nb ns nx mB mS mX k15 k16 (t17') (t18') r0 r2 r3 r4 r5 r6)) N (fun m z hm hz => ?_) _ ⟨rfl, rfl, t17, t18, h⟩
  obtain ⟨z1, zt, za, zb, zw⟩ := z
  obtain ⟨ew, es, g7, g8', hz⟩ := hz
  dsimp only at ew es hz
  subst ew
  unfold fX5_best_L57
  dsimp only
  by_cases h36 : m = N
  · refine Or.inr ⟨_, if_pos (show (50 : Int32) < nI (15 + m) by rw [h36, hN]; decide), ?_, g7, g8', hz⟩
    rw [h36] at es
    exact es
  rw [if_neg (show ¬ (50 : Int32) < nI (15 + m) from nI_nlt (a := 50) (by omega) (by omega))]
  refine Or.inl ?_
  obtain ⟨s1, e1, h1⟩ := m_look hz hp hi
  obtain ⟨s2, e2, h2⟩ := s_turns (nI (15 + m)) (n := n) hn h1 (a := 17) rfl
  have h2 := x_17 _ h2
  have hE7 : EQ5 (turN (nI (15 + m)) (likN g7 (fun k => mB (7 * i + k)) 5) n) (turN (nI (15 + m)) c n) := EQ5.turs (fun j j1 j2 => by rw [likN_5 _ _ j j1 j2]; exact (hc j j1 j2).symm) n
  have e3 := l_cp h2 (c0 := 17) (c1 := 18) m_c17 m_c18 (sp := 0) (dp := 0) (n := Int32.ofNat 6) 0 0 6 rfl rfl rfl (by omega) (by omega) (by omega) (by omega)
  have h3 := x_18 _ (h2.set (c := 18) m_c18 (ARR 6 (va_cpy (turN (nI (15 + m)) (likN g7 (fun k => mB (7 * i + k)) 5) n) g8' 0 0 6)))
  generalize setN s2 (ad 18) _ = s3 at e3 h3
  have hE8 : EQ5 (va_cpy (turN (nI (15 + m)) (likN g7 (fun k => mB (7 * i + k)) 5) n) g8' 0 0 6) (turN (nI (15 + m)) c n) := fun j j1 j2 => by
    refine (if_pos ⟨by omega, by omega⟩).trans ?_
    rw [show 0 + (j - 0) = j by omega]
    exact hE7 j j1 j2
  obtain ⟨b, e4, eb, t17', h4⟩ := m_bestIn h3 hN hn hE8 (za, zb, zt) (z1, zt, za, zb, nI (15 + m)) rfl
  rw [ob_of _ (m_oR hz), ob_of _ e1, ob_of _ (m_r10 h1), ob_of _ e2, ob_of _ (m_r10 h2), ob_of _ (m_r11 h2), ob_of _ (m_r10 h2), ob_of _ (l_aN (c := 17) h2 m_c17), ob_of _ e3, ob_of _ e4]
  refine ⟨_, rfl, by omega, nI_1 _, ?_, _, _, h4⟩
  show _ = bIN N n c m (foldN (bIN N n c) m s0)
  rw [← es]
  exact eb
end MBEST
section OPBEST
variable {st : DSt} {ad : Nat → Nat} {day : Int32} {nb ns nx : Nat} {gB wB : Nat → Int32} {cB sS bX : Nat → Nat → Int32} {f6 f7 g8 g9 : Nat → Int32} {Q : Nat → Option DCel} {l : Nat → Int64} {thr md : Int32} {pb ps px : Nat} {mB mS mX k15 k16 t17 t18 : Nat → Int32}
theorem op_best (h : NH st ad (CT ad day nb ns nx gB wB cB sS bX f6 f7 g8 g9 ((MQT ad l thr day nb ns nx mB mS mX k15 k16 t17 t18)))) (hR : RELS nb ns nx gB wB cB sS bX mB mS mX) (p a q : Int32) : JO cd1 (ad 0) (ad 10) (ad 11) (fX4_best st (ad 0) p a q) (fun u => fX5_best u (ad 11) p a q) := by
  obtain ⟨hb, hs, hx, rB, rS, rX, rZ⟩ := id hR
  unfold fX4_best
  rw [ob_of _ (q_oR h)]
  rcases hp : ixO p nb with _ | i
  · rw [xt_of _ (c_bowlAt_f h hp)]
    refine ⟨_, rfl, JOr_bad k1_io (by decide) h hR fun u hu => ?_⟩
    obtain ⟨s1, e1, h1⟩ := x_thr hu 0
    obtain ⟨s2, e2, h2⟩ := x_fail h1 1
    unfold fX5_best
    rw [ob_of _ e1, ob_of _ (m_oR h1), ob_of _ (m_isBowl_f h1 hp hb), if_pos rfl, ob_of _ (m_oR h1), ob_of _ e2]
    exact ⟨_, _, rfl, h2⟩
  obtain ⟨hi, hpe⟩ := ixO_some hp
  obtain ⟨r1, r2, r3, r4, r5, r6⟩ := rB i hi
  rw [xb_of _ (c_bowlAt_t h hp hb)]
  by_cases hq : q < 0 ∨ 2 < q
  · rw [xt_of _ (c_what_f hq)]
    refine ⟨_, rfl, JOr_bad k1_io (by decide) h hR fun u hu => ?_⟩
    obtain ⟨s1, e1, h1⟩ := x_thr hu 0
    obtain ⟨s2, e2, h2⟩ := x_fail h1 1
    unfold fX5_best
    rw [ob_of _ e1, ob_of _ (m_oR h1), ob_of _ (m_isBowl_t h1 hp hb), if_neg n10, ob_of _ (isIn_f hq), if_pos rfl, ob_of _ (m_oR h1), ob_of _ e2]
    exact ⟨_, _, rfl, h2⟩
  have hq' := not_or.mp hq
  rw [xb_of _ (c_what_t hq'.1 hq'.2)]
  have bad : ∀ u, (a < 1 ∨ 10 < a) → NH u ad (CT ad day nb ns nx gB wB cB sS bX f6 f7 g8 g9 ((MQT ad l thr day nb ns nx mB mS mX k15 k16 t17 t18))) → ∃ y s', fX5_best u (ad 11) p a q = some (y, s') ∧ NH s' ad (CT ad day nb ns nx gB wB cB sS bX f6 f7 g8 g9 ((MQT ad l (2) day nb ns nx mB mS mX k15 k16 t17 t18))) := fun u hw hu => by
    obtain ⟨s1, e1, h1⟩ := x_thr hu 0
    obtain ⟨s2, e2, h2⟩ := x_fail h1 2
    unfold fX5_best
    rw [ob_of _ e1, ob_of _ (m_oR h1), ob_of _ (m_isBowl_t h1 hp hb), if_neg n10, ob_of _ (isIn_t hq'.1 hq'.2), if_neg n10, ob_of _ (isIn_f hw), if_pos rfl, ob_of _ (m_oR h1), ob_of _ e2]
    exact ⟨_, _, rfl, h2⟩
  by_cases w1 : a < 1
  · rw [if_pos w1]
    exact ⟨_, rfl, JOr_bad k1_ia (by decide) h hR fun u hu => bad u (Or.inl w1) hu⟩
  rw [if_neg w1]
  by_cases w2 : ¬ a ≤ 10
  · rw [if_neg w2]
    exact ⟨_, rfl, JOr_bad k1_ia (by decide) h hR fun u hu => bad u (Or.inr (Int32.not_le.mp w2)) hu⟩
  have w2 := Decidable.not_not.mp w2
  have w2' : ¬ 10 < a := Int32.not_lt.mpr w2
  rw [if_pos w2]
  obtain ⟨n, hn, rfl, -⟩ := toN (x := a) 10 (by rw [i_lt, show (1 : Int32).toInt = 1 by decide] at w1; omega) (by rw [i_le, show (10 : Int32).toInt = 10 by decide] at w2; omega) (by omega)
  obtain ⟨N, hN⟩ : ∃ N, N = 36 := ⟨36, rfl⟩
  obtain ⟨b4, e4, eb, f6', f7', h4⟩ := c_bestOut h hi hb (n := n) hN (by omega) r4 (-1, -1, -1)
  rw [ob_of _ e4]
  have eq0 : foldN (bIN N n (cB i)) N (0, 0, -1) = foldN (bIN N n (cB i)) N (-1, -1, -1) := by
    obtain ⟨M, rfl⟩ : ∃ M, N = M + 1 := ⟨35, hN⟩
    exact bO_start hN rfl rfl M
  have hM : ∀ u l', NH u ad (CT ad day nb ns nx gB wB cB sS bX (f6') (f7') g8 g9 ((MQT ad (l') thr day nb ns nx mB mS mX k15 k16 t17 t18))) → ∃ s' t17' t18', fX5_best u (ad 11) p (nI n) q = some (if q = 0 then b4.2.1 else if q = 1 then b4.2.2.1 else b4.2.2.2.1, s') ∧ NH s' ad (CT ad day nb ns nx gB wB cB sS bX (f6') (f7') g8 g9 ((MQT ad (l') (0) day nb ns nx mB mS mX k15 k16 (t17') (t18')))) := fun u l' hu => by
    obtain ⟨s1, e1, h1⟩ := x_thr hu 0
    obtain ⟨b8, e8, eb8, t17', t18', h8⟩ := m_bestOut h1 hpe (by omega) (n := n) hN (by omega) r3 (0, 0, -1)
    rw [eq0, ← eb] at eb8
    have y1 : b8.2.2.1 = b4.2.1 := congrArg (fun z => z.1) eb8
    have y2 : b8.2.2.2.1 = b4.2.2.1 := congrArg (fun z => z.2.1) eb8
    have y3 : b8.2.1 = b4.2.2.2.1 := congrArg (fun z => z.2.2) eb8
    refine ⟨b8.1, t17', t18', ?_, h8⟩
    unfold fX5_best
    rw [ob_of _ e1, ob_of _ (m_oR h1), ob_of _ (m_isBowl_t h1 hp hb), if_neg n10, ob_of _ (isIn_t hq'.1 hq'.2), if_neg n10, ob_of _ (isIn_t w1 w2'), if_neg n10, ob_of _ e8, y1, y2, y3]
    by_cases q0 : q = 0
    · rw [if_pos q0, if_pos q0]
    · rw [if_neg q0, if_neg q0]
      by_cases q1 : q = 1
      · rw [if_pos q1, if_pos q1]
      · rw [if_neg q1, if_neg q1]
  have fin : JOr cd1 (ad 0) (ad 10) (ad 11) (.inr (if q = 0 then b4.2.1 else if q = 1 then b4.2.2.1 else b4.2.2.2.1, b4.1)) (fun u => fX5_best u (ad 11) p (nI n) q) := JOr_good h4 rfl rfl rfl fun u l' hu => by
    obtain ⟨s', t17', t18', e', h'⟩ := hM u l' hu
    exact ⟨s', e', _, _, _, _, _, _, _, h', hR⟩
  by_cases q0 : q = 0
  · rw [if_pos q0] at fin ⊢
    exact ⟨_, rfl, fin⟩
  · rw [if_neg q0] at fin ⊢
    by_cases q1 : q = 1
    · rw [if_pos q1] at fin ⊢
      exact ⟨_, rfl, fin⟩
    · rw [if_neg q1] at fin ⊢
      exact ⟨_, rfl, fin⟩
end OPBEST
