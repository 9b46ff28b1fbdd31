/-! READING AND CHECKING: indices, ranges -/
theorem oz0 : oZ 0 = some 0 := rfl
theorem oz1 : oZ 1 = some 1 := rfl
theorem toN {x : Int32} (N : Nat) (h1 : 0 ≤ x.toInt) (h2 : x.toInt ≤ (N : Int)) (hN : N < 2 ^ 31) : ∃ n, n ≤ N ∧ x = nI n ∧ (n : Int) = x.toInt := by
  refine ⟨x.toInt.toNat, by omega, ?_, by omega⟩
  rw [i_eq, i_nI (by omega)]
  omega
theorem lt_lit {x y : Int32} {a b : Int} (ha : x.toInt = a) (hb : y.toInt = b) : x < y ↔ a < b := by rw [i_lt, ha, hb]
theorem ixO_0 {p : Int32} {n i : Nat} (h : ixO p n = some i) (hn : n < 2 ^ 31) : ¬ p < 0 := by
  obtain ⟨h1, rfl⟩ := ixO_some h
  exact nI_pos (by omega)
theorem i_pred {n : Nat} (h : n < 2 ^ 31) : (nI n - 1).toInt = (n : Int) - 1 := by
  rw [i_sub, i_nI h, show (1 : Int32).toInt = 1 by decide] <;> rw [i_nI h, show (1 : Int32).toInt = 1 by decide] <;> omega
theorem isIn_t {st : DSt} {a lo hi : Int32} (h1 : ¬ a < lo) (h2 : ¬ hi < a) : fX5_isIn st a lo hi = some 1 := by
  unfold fX5_isIn
  rw [if_neg h1, if_neg h2]
  rfl
theorem isIn_f {st : DSt} {a lo hi : Int32} (h : a < lo ∨ hi < a) : fX5_isIn st a lo hi = some 0 := by
  unfold fX5_isIn
  rcases h with h | h
  · rw [if_pos h]; rfl
  · by_cases h1 : a < lo
    · rw [if_pos h1]; rfl
    · rw [if_neg h1, if_pos h]; rfl
theorem in_ix {st : DSt} {p : Int32} {n i : Nat} (h : ixO p n = some i) (hn : n < 2 ^ 31) : fX5_isIn st p 0 (nI n - 1) = some 1 := by
  refine isIn_t (ixO_0 h hn) ?_
  obtain ⟨h1, rfl⟩ := ixO_some h
  rw [i_lt, i_pred hn, i_nI (by omega)]
  omega
theorem in_no {st : DSt} {p : Int32} {n : Nat} (h : ixO p n = none) (hn : n < 2 ^ 31) : fX5_isIn st p 0 (nI n - 1) = some 0 := by
  refine isIn_f ?_
  rw [i_lt, i_lt, i_pred hn, toInt_0]
  rcases ixO_none h with h | h
  · exact Or.inl h
  · exact Or.inr (by omega)
section MREAD
variable {st : DSt} {ad : Nat → Nat} {l : Nat → Int64} {thr day : Int32} {nb ns nx : Nat} {mB mS mX k15 k16 t17 t18 : Nat → Int32} {r0 r2 r3 r4 r5 r6 : Nat → Option DCel} {i : Nat} {p : Int32}
theorem m_isBowl_t (h : NH st ad (MT ad l thr day nb ns nx mB mS mX k15 k16 t17 t18 r0 r2 r3 r4 r5 r6)) (hp : ixO p nb = some i) (hb : nb ≤ 5) : fX5_isBowl st (ad 11) p = some 1 := by
  unfold fX5_isBowl
  rw [ob_of _ (m_nb h), ob_of _ (in_ix hp (by omega))]
  rfl
theorem m_isBowl_f (h : NH st ad (MT ad l thr day nb ns nx mB mS mX k15 k16 t17 t18 r0 r2 r3 r4 r5 r6)) (hp : ixO p nb = none) (hb : nb ≤ 5) : fX5_isBowl st (ad 11) p = some 0 := by
  unfold fX5_isBowl
  rw [ob_of _ (m_nb h), ob_of _ (in_no hp (by omega))]
  rfl
theorem m_isSlab_t (h : NH st ad (MT ad l thr day nb ns nx mB mS mX k15 k16 t17 t18 r0 r2 r3 r4 r5 r6)) (hp : ixO p ns = some i) (hs : ns ≤ 8) : fX5_isSlab st (ad 11) p = some 1 := by
  unfold fX5_isSlab
  rw [ob_of _ (m_ns h), ob_of _ (in_ix hp (by omega))]
  rfl
theorem m_isSlab_f (h : NH st ad (MT ad l thr day nb ns nx mB mS mX k15 k16 t17 t18 r0 r2 r3 r4 r5 r6)) (hp : ixO p ns = none) (hs : ns ≤ 8) : fX5_isSlab st (ad 11) p = some 0 := by
  unfold fX5_isSlab
  rw [ob_of _ (m_ns h), ob_of _ (in_no hp (by omega))]
  rfl
theorem m_warmth_t {x : Nat} {a b : Int32} (h1 : ¬ a < 15) (h2 : ¬ 50 < a) (h3 : ¬ b < 1) (h4 : ¬ 40 < b) : fX5_isWarmth st x a b = some 1 := by
  unfold fX5_isWarmth
  rw [ob_of _ (isIn_t h1 h2), if_neg (show ¬ (1 : Int32) = 0 by decide), ob_of _ (isIn_t h3 h4), if_neg (show ¬ (1 : Int32) = 0 by decide)]
  rfl
theorem m_warmth_f {x : Nat} {a b : Int32} (h : (a < 15 ∨ 50 < a) ∨ (b < 1 ∨ 40 < b)) : fX5_isWarmth st x a b = some 0 := by
  unfold fX5_isWarmth
  by_cases h0 : a < 15 ∨ 50 < a
  · rw [ob_of _ (isIn_f h0), if_pos rfl]; rfl
  · rw [not_or] at h0
    rw [ob_of _ (isIn_t h0.1 h0.2), if_neg (show ¬ (1 : Int32) = 0 by decide)]
    rcases h with h | h
    · exact absurd h (by rw [not_or]; exact h0)
    · rw [ob_of _ (isIn_f h), if_pos rfl]; rfl
theorem m_look (h : NH st ad (MT ad l thr day nb ns nx mB mS mX k15 k16 t17 t18 r0 r2 r3 r4 r5 r6)) {p : Int32} (hp : p = nI i) (hi : i < 5) : ∃ st', fX5_look st (ad 11) p = some st' ∧ NH st' ad (MT ad l thr day nb ns nx mB mS mX k15 k16 (likN t17 (fun k => mB (7 * i + k)) 5) t18 r0 r2 r3 r4 r5 r6) := by
  obtain ⟨b, g1, g2⟩ := dlp_run (fX5_look_L2 (ad 11) p) (fun k z => z.2 = nI (k + 1) ∧ NH z.1 ad (MT ad l thr day nb ns nx mB mS mX k15 k16 (likN t17 (fun k => mB (7 * i + k)) k) t18 r0 r2 r3 r4 r5 r6)) (fun b => NH b.1 ad (MT ad l thr day nb ns nx mB mS mX k15 k16 (likN t17 (fun k => mB (7 * i + k)) 5) t18 r0 r2 r3 r4 r5 r6)) 5 (fun k z hk hz => by
    obtain ⟨z1, z2⟩ := z
    obtain ⟨rfl, hz⟩ := hz
    by_cases h5 : k = 5
    · subst h5
      exact Or.inr ⟨_, if_pos (show (5 : Int32) < nI 6 by decide), hz⟩
    · refine Or.inl ?_
      unfold fX5_look_L2
      dsimp only at hz ⊢
      rw [if_neg (show ¬ (5 : Int32) < nI (k + 1) from nI_nlt (a := 5) (by omega) (by omega)), ob_of _ (m_r10 hz), ob_of _ (m_oR hz), ob_of _ (m_bo hz hp rfl hi (by omega)), ob_of _ (l_sI (c := 17) hz rfl (k + 1) rfl (by omega) (by omega) _)]
      refine ⟨_, rfl, by omega, nI_1 _, ?_⟩
      have q := x_17 _ (hz.set (c := 17) rfl (ARR 6 (upd (likN t17 (fun k => mB (7 * i + k)) k) (k + 1) (mB (7 * i + (k + 1))))))
      rw [likN_s t17 (fun k => mB (7 * i + k))] at q
      rw [likN_s t17 (fun k => mB (7 * i + k))]
      exact q) (st, 1) ⟨rfl, by rw [likN_0]; exact h⟩
  unfold fX5_look
  rw [ob_of _ g1]
  exact ⟨_, rfl, g2⟩
theorem m_temperOf (h : NH st ad (MT ad l thr day nb ns nx mB mS mX k15 k16 t17 t18 r0 r2 r3 r4 r5 r6)) {p : Int32} (hp : p = nI i) (hi : i < 5) : ∃ st', fX5_temperOf st (ad 11) p = some (temF (fun k => mB (7 * i + k)), st') ∧ NH st' ad (MT ad l thr day nb ns nx mB mS mX k15 k16 (likN t17 (fun k => mB (7 * i + k)) 5) t18 r0 r2 r3 r4 r5 r6) := by
  obtain ⟨s, e, h'⟩ := m_look h hp hi
  unfold fX5_temperOf
  rw [ob_of _ (m_oR h), ob_of _ e, ob_of _ (m_r10 h'), ob_of _ (s_mtemper h' (a := 17) rfl), (likN_5 _ _).tem]
  exact ⟨_, rfl, h'⟩
theorem m_thrown (h : NH st ad (MT ad l thr day nb ns nx mB mS mX k15 k16 t17 t18 r0 r2 r3 r4 r5 r6)) : fX5_thrown st (ad 11) = some thr := by
  unfold fX5_thrown
  rw [ob_of _ (m_thr h)]
end MREAD
section CCHECK
variable {st : DSt} {ad : Nat → Nat} {day : Int32} {nb ns nx : Nat} {gB wB : Nat → Int32} {cB sS bX : Nat → Nat → Int32} {f6 f7 g8 g9 : Nat → Int32} {Q : Nat → Option DCel} {i : Nat} {p : Int32}
theorem c_bowlAt_t (h : NH st ad (CT ad day nb ns nx gB wB cB sS bX f6 f7 g8 g9 Q)) (hp : ixO p nb = some i) (hb : nb ≤ 5) : fX4_bowlAt st (ad 0) p = some (.inr (some (ad (20 + i)))) := by
  obtain ⟨h1, rfl⟩ := ixO_some hp
  unfold fX4_bowlAt
  rw [if_neg (nI_pos (by omega)), if_pos (show nI i < 5 from nI_lt (a := i) (b := 5) (by omega) (by omega)), ob_of _ (q_rb h), ob_of _ (q_aRb h rfl (by omega)), if_pos h1]
  rfl
theorem c_bowlAt_f (h : NH st ad (CT ad day nb ns nx gB wB cB sS bX f6 f7 g8 g9 Q)) (hp : ixO p nb = none) : fX4_bowlAt st (ad 0) p = some (.inl ("java/lang/IndexOutOfBoundsException", st.2)) := by
  unfold fX4_bowlAt
  by_cases h1 : p < 0
  · rw [if_pos h1]
  · rw [if_neg h1]
    by_cases h2 : p < 5
    · rw [if_pos h2]
      rw [i_lt] at h1 h2
      obtain ⟨n, hn, rfl, hx⟩ := toN (x := p) 4 (by rw [toInt_0] at h1; omega) (by rw [show (5 : Int32).toInt = 5 by decide] at h2; omega) (by omega)
      have := ixO_none hp
      rw [ob_of _ (q_rb h), ob_of _ (q_aRb h rfl (by omega)), if_neg (by omega)]
      rfl
    · rw [if_neg h2]
theorem c_findSlab_t (h : NH st ad (CT ad day nb ns nx gB wB cB sS bX f6 f7 g8 g9 Q)) (hp : ixO p ns = some i) (hs : ns ≤ 8) : fX4_findSlab st (ad 0) p = some (some (ad (60 + i))) := by
  obtain ⟨h1, rfl⟩ := ixO_some hp
  unfold fX4_findSlab
  rw [if_neg (nI_pos (by omega)), if_pos (show nI i < 8 from nI_lt (a := i) (b := 8) (by omega) (by omega)), ob_of _ (q_rs h), ob_of _ (q_aRs h rfl (by omega)), if_pos h1]
theorem c_findSlab_f (h : NH st ad (CT ad day nb ns nx gB wB cB sS bX f6 f7 g8 g9 Q)) (hp : ixO p ns = none) : fX4_findSlab st (ad 0) p = some none := by
  unfold fX4_findSlab
  by_cases h1 : p < 0
  · rw [if_pos h1]
  · rw [if_neg h1]
    by_cases h2 : p < 8
    · rw [if_pos h2]
      rw [i_lt] at h1 h2
      obtain ⟨n, hn, rfl, hx⟩ := toN (x := p) 7 (by rw [toInt_0] at h1; omega) (by rw [toInt_8] at h2; omega) (by omega)
      have := ixO_none hp
      rw [ob_of _ (q_rs h), ob_of _ (q_aRs h rfl (by omega)), if_neg (by omega)]
    · rw [if_neg h2]
theorem c_slabAt_t (h : NH st ad (CT ad day nb ns nx gB wB cB sS bX f6 f7 g8 g9 Q)) (hp : ixO p ns = some i) (hs : ns ≤ 8) : fX4_slabAt st (ad 0) p = some (.inr (some (ad (60 + i)))) := by
  unfold fX4_slabAt
  rw [ob_of _ (q_oR h), ob_of _ (c_findSlab_t h hp hs)]
  rfl
theorem c_slabAt_f (h : NH st ad (CT ad day nb ns nx gB wB cB sS bX f6 f7 g8 g9 Q)) (hp : ixO p ns = none) : fX4_slabAt st (ad 0) p = some (.inl ("java/lang/IndexOutOfBoundsException", st.2)) := by
  unfold fX4_slabAt
  rw [ob_of _ (q_oR h), ob_of _ (c_findSlab_f h hp)]
  rfl
theorem c_boxAt_t (h : NH st ad (CT ad day nb ns nx gB wB cB sS bX f6 f7 g8 g9 Q)) (hp : ixO p nx = some i) (hx : nx ≤ 6) : fX4_boxAt st (ad 0) p = some (.inr (some (ad (50 + i)))) := by
  obtain ⟨h1, rfl⟩ := ixO_some hp
  unfold fX4_boxAt
  rw [if_neg (nI_pos (by omega)), if_pos (show nI i < 6 from nI_lt (a := i) (b := 6) (by omega) (by omega)), ob_of _ (q_rx h), ob_of _ (q_aRx h rfl (by omega)), if_pos h1]
  rfl
theorem c_boxAt_f (h : NH st ad (CT ad day nb ns nx gB wB cB sS bX f6 f7 g8 g9 Q)) (hp : ixO p nx = none) : fX4_boxAt st (ad 0) p = some (.inl ("java/lang/IndexOutOfBoundsException", st.2)) := by
  unfold fX4_boxAt
  by_cases h1 : p < 0
  · rw [if_pos h1]
  · rw [if_neg h1]
    by_cases h2 : p < 6
    · rw [if_pos h2]
      rw [i_lt] at h1 h2
      obtain ⟨n, hn, rfl, hq⟩ := toN (x := p) 5 (by rw [toInt_0] at h1; omega) (by rw [show (6 : Int32).toInt = 6 by decide] at h2; omega) (by omega)
      have := ixO_none hp
      rw [ob_of _ (q_rx h), ob_of _ (q_aRx h rfl (by omega)), if_neg (by omega)]
      rfl
    · rw [if_neg h2]
theorem c_warming_t {a b : Int32} (h1 : ¬ a < 15) (h2 : ¬ 50 < a) (h3 : ¬ b < 1) (h4 : ¬ 40 < b) : fX4_checkWarming st a b = some (.inr ()) := by
  unfold fX4_checkWarming
  rw [if_neg h1, if_neg h2, if_neg h3, if_pos (Int32.not_lt.mp h4)]
theorem c_warming_f {a b : Int32} (h : (a < 15 ∨ 50 < a) ∨ (b < 1 ∨ 40 < b)) : fX4_checkWarming st a b = some (.inl ("java/lang/IllegalArgumentException", st.2)) := by
  unfold fX4_checkWarming
  by_cases h1 : a < 15
  · rw [if_pos h1]
  by_cases h2 : 50 < a
  · rw [if_neg h1, if_pos h2]
  by_cases h3 : b < 1
  · rw [if_neg h1, if_neg h2, if_pos h3]
  have h4 : 40 < b := by
    rcases h with (h | h) | (h | h)
    · exact absurd h h1
    · exact absurd h h2
    · exact absurd h h3
    · exact h
  rw [if_neg h1, if_neg h2, if_neg h3, if_neg (Int32.not_le.mpr h4)]
theorem c_room_t {a : Int32} (h1 : ¬ a < 10) (h2 : ¬ 40 < a) : fX4_checkRoom st a = some (.inr ()) := by
  unfold fX4_checkRoom
  rw [if_neg h1, if_pos (Int32.not_lt.mp h2)]
theorem c_room_f {a : Int32} (h : a < 10 ∨ 40 < a) : fX4_checkRoom st a = some (.inl ("java/lang/IllegalArgumentException", st.2)) := by
  unfold fX4_checkRoom
  by_cases h1 : a < 10
  · rw [if_pos h1]
  · rw [if_neg h1, if_neg (Int32.not_le.mpr (h.resolve_left h1))]
theorem c_what_t {a b : Int32} (h1 : ¬ a < 0) (h2 : ¬ b < a) : fX4_checkWhat st a b = some (.inr ()) := by
  unfold fX4_checkWhat
  rw [if_neg h1, if_pos (Int32.not_lt.mp h2)]
theorem c_what_f {a b : Int32} (h : a < 0 ∨ b < a) : fX4_checkWhat st a b = some (.inl ("java/lang/IndexOutOfBoundsException", st.2)) := by
  unfold fX4_checkWhat
  by_cases h1 : a < 0
  · rw [if_pos h1]
  · rw [if_neg h1, if_neg (Int32.not_le.mpr (h.resolve_left h1))]
end CCHECK
/-! ONE CALL ON BOTH SIDES -/
def ROW1 (i : Nat) (gB wB : Nat → Int32) (cB : Nat → Nat → Int32) (mB : Nat → Int32) : Prop := gB i = mB (7 * i) ∧ wB i = mB (7 * i + 6) ∧ EQ5 (cB i) (fun k => mB (7 * i + k)) ∧ BC (cB i) ∧ 0 ≤ (gB i).toInt ∧ (gB i).toInt ≤ 2000
def ROWS (i : Nat) (sS : Nat → Nat → Int32) (mS : Nat → Int32) : Prop := (∀ k, k < 5 → sS i k = mS (5 * i + k)) ∧ (1 ≤ (sS i 0).toInt ∧ (sS i 0).toInt ≤ 6) ∧ (1 ≤ (sS i 1).toInt ∧ (sS i 1).toInt ≤ 6) ∧ (0 ≤ (sS i 2).toInt ∧ (sS i 2).toInt ≤ 100) ∧ (0 ≤ (sS i 3).toInt ∧ (sS i 3).toInt ≤ 100)
def ROWX (i : Nat) (bX : Nat → Nat → Int32) (mX : Nat → Int32) : Prop := (∀ k, k < 5 → bX i k = mX (5 * i + k)) ∧ (bX i 2 = 0 ∨ bX i 2 = 1)
def RELS (nb ns nx : Nat) (gB wB : Nat → Int32) (cB sS bX : Nat → Nat → Int32) (mB mS mX : Nat → Int32) : Prop := nb ≤ 5 ∧ ns ≤ 8 ∧ nx ≤ 6 ∧ (∀ i, i < nb → ROW1 i gB wB cB mB) ∧ (∀ i, i < ns → ROWS i sS mS) ∧ (∀ i, i < nx → ROWX i bX mX) ∧ (∀ i, nb ≤ i → i < 5 → ∀ k, 1 ≤ k → k ≤ 5 → mB (7 * i + k) = 0)
def INV (a0 a10 a11 : Nat) (thr : Int32) (v : Int64) (st : DSt) : Prop := ∃ (ad : Nat → Nat) (day : Int32) (nb ns nx : Nat) (gB wB : Nat → Int32) (cB sS bX : Nat → Nat → Int32) (f6 f7 g8 g9 : Nat → Int32) (l : Nat → Int64) (mB mS mX k15 k16 t17 t18 : Nat → Int32), ad 0 = a0 ∧ ad 10 = a10 ∧ ad 11 = a11 ∧ l 0 = v ∧ NH st ad (CT ad day nb ns nx gB wB cB sS bX f6 f7 g8 g9 ((MQT ad l thr day nb ns nx mB mS mX k15 k16 t17 t18))) ∧ RELS nb ns nx gB wB cB sS bX mB mS mX
def JOr (cd : String → Option Int32) (a0 a10 a11 : Nat) (r : (String × DHp) ⊕ (Int32 × DSt)) (G : DSt → Option (Int32 × DSt)) : Prop := wrOK cd (some a10) r ∧ ∀ (k : Int32) (u : DSt), wrF cd (some a10) r (some (DI k)) u → (∀ q e, u.2 q = some e → q < u.1) → ∃ y s', G u = some (y, s') ∧ ∃ v, INV a0 a10 a11 k v s' ∧ (k = 0 → v = y.toInt64)
def JO (cd : String → Option Int32) (a0 a10 a11 : Nat) (F : Option ((String × DHp) ⊕ (Int32 × DSt))) (G : DSt → Option (Int32 × DSt)) : Prop := ∃ r, F = some r ∧ JOr cd a0 a10 a11 r G
def JOp (st : DSt) (cd : String → Option Int32) (a0 a10 a11 : Nat) (F : Option ((String × DHp) ⊕ Int32)) (G : DSt → Option (Int32 × DSt)) : Prop := ∃ r, F = some r ∧ JOr cd a0 a10 a11 (wrP st r) G
section JOINT
variable {st : DSt} {ad : Nat → Nat} {day : Int32} {nb ns nx : Nat} {gB wB : Nat → Int32} {cB sS bX : Nat → Nat → Int32} {f6 f7 g8 g9 : Nat → Int32} {Q : Nat → Option DCel} {l : Nat → Int64} {thr md : Int32} {pb ps px : Nat} {mB mS mX k15 k16 t17 t18 : Nat → Int32} {cd : String → Option Int32} {E : String} {k y : Int32} {G : DSt → Option (Int32 × DSt)}
theorem JOr_bad (hc : cd E = some k) (hk : ¬ k = 0) (h : NH st ad (CT ad day nb ns nx gB wB cB sS bX f6 f7 g8 g9 ((MQT ad l thr day nb ns nx mB mS mX k15 k16 t17 t18)))) (hR : RELS nb ns nx gB wB cB sS bX mB mS mX) (hG : ∀ u, NH u ad (CT ad day nb ns nx gB wB cB sS bX f6 f7 g8 g9 ((MQT ad l thr day nb ns nx mB mS mX k15 k16 t17 t18))) → ∃ y s', G u = some (y, s') ∧ NH s' ad (CT ad day nb ns nx gB wB cB sS bX f6 f7 g8 g9 ((MQT ad l k day nb ns nx mB mS mX k15 k16 t17 t18)))) : JOr cd (ad 0) (ad 10) (ad 11) (.inl (E, st.2)) G := by
  refine ⟨⟨k, hc⟩, fun k' u hu hd => ?_⟩
  obtain ⟨k2, e1, e2, e3⟩ := hu
  have e1 : cd E = some k2 := e1
  rw [hc] at e1
  cases e1
  cases e2
  obtain ⟨y, s', g1, g2⟩ := hG u (h.heq e3 hd)
  exact ⟨y, s', g1, _, ⟨ad, _, _, _, _, _, _, _, _, _, _, _, _, _, _, _, _, _, _, _, _, _, rfl, rfl, rfl, rfl, g2, hR⟩, fun h0 => absurd h0 hk⟩
theorem x_10 {l' : Nat → Int64} (h : NH st ad (CT ad day nb ns nx gB wB cB sS bX f6 f7 g8 g9 ((MQT ad l thr md pb ps px mB mS mX k15 k16 t17 t18)))) : NH (setN st (ad 10) (.inl (5, (1, .inr (.inl l'))))) ad (CT ad day nb ns nx gB wB cB sS bX f6 f7 g8 g9 ((MQT ad (l') thr md pb ps px mB mS mX k15 k16 t17 t18))) := by
  have q := h.set (c := 10) rfl (.inl (5, (1, .inr (.inl l'))))
  unfold CT at q
  rw [show (10 : Nat) = 10 + 0 from rfl, reg_u1 (by omega)] at q
  unfold MQT at q
  rw [R10_u0] at q
  exact q
theorem JOr_good {a0 a10 a11 : Nat} (h : NH st ad (CT ad day nb ns nx gB wB cB sS bX f6 f7 g8 g9 ((MQT ad l thr md pb ps px mB mS mX k15 k16 t17 t18)))) (ha0 : ad 0 = a0) (ha10 : ad 10 = a10) (ha11 : ad 11 = a11) (hG : ∀ u l', NH u ad (CT ad day nb ns nx gB wB cB sS bX f6 f7 g8 g9 ((MQT ad (l') thr md pb ps px mB mS mX k15 k16 t17 t18))) → ∃ s', G u = some (y, s') ∧ ∃ (mB' mS' mX' k15' k16' t17' t18' : Nat → Int32), NH s' ad (CT ad day nb ns nx gB wB cB sS bX f6 f7 g8 g9 ((MQT ad (l') (0) day nb ns nx (mB') (mS') (mX') (k15') (k16') (t17') (t18')))) ∧ RELS nb ns nx gB wB cB sS bX mB' mS' mX') : JOr cd a0 a10 a11 (.inr (y, st)) G := by
  subst ha0; subst ha10; subst ha11
  have e := l_sL (c := 10) (n := 1) (l := l) (kd := 5) (i := 0) h rfl 0 rfl (by omega) (by omega) y.toInt64
  refine ⟨⟨_, e⟩, fun k u hu hd => ?_⟩
  have e1 : sL st (some (ad 10)) 5 0 y.toInt64 = some u := hu.1
  have e2 := hu.2
  rw [e] at e1
  cases e1
  cases e2
  obtain ⟨s', g1, mB', mS', mX', k15', k16', t17', t18', g2, g3⟩ := hG _ _ (x_10 h)
  exact ⟨y, s', g1, _, ⟨ad, _, _, _, _, _, _, _, _, _, _, _, _, _, _, _, _, _, _, _, _, _, rfl, rfl, rfl, rfl, g2, g3⟩, fun _ => if_pos rfl⟩
end JOINT
theorem RELS.B {nb nb' ns nx : Nat} {gB wB gB' wB' : Nat → Int32} {cB sS bX cB' : Nat → Nat → Int32} {mB mS mX mB' : Nat → Int32} (h : RELS nb ns nx gB wB cB sS bX mB mS mX) (i : Nat) (hn : nb' ≤ 5) (hz : ∀ j, nb' ≤ j → nb ≤ j ∧ j ≠ i) (hl : ∀ j, j < nb' → j ≠ i → j < nb) (hg : ∀ j, j ≠ i → gB' j = gB j) (hw : ∀ j, j ≠ i → wB' j = wB j) (hc : ∀ j, j ≠ i → cB' j = cB j) (hm : ∀ j k, j ≠ i → k < 7 → mB' (7 * j + k) = mB (7 * j + k)) (hi : ROW1 i gB' wB' cB' mB') : RELS nb' ns nx gB' wB' cB' sS bX mB' mS mX := by
  obtain ⟨h1, h2, h3, h4, h5, h6, h7⟩ := h
  refine ⟨hn, h2, h3, fun j hj => ?_, h5, h6, fun j j1 j2 k k1 k2 => by rw [hm j k (hz j j1).2 (by omega)]; exact h7 j (hz j j1).1 j2 k k1 k2⟩
  by_cases e : j = i
  · rw [e]; exact hi
  · obtain ⟨r1, r2, r3, r4, r5, r6⟩ := h4 j (hl j hj e)
    refine ⟨by rw [hg j e, r1]; exact (hm j 0 e (by omega)).symm, by rw [hw j e, r2, hm j 6 e (by omega)], fun k k1 k2 => ?_, by rw [hc j e]; exact r4, by rw [hg j e]; exact r5, by rw [hg j e]; exact r6⟩
    show cB' j k = mB' (7 * j + k)
    rw [hc j e, hm j k e (by omega)]
    exact r3 k k1 k2
theorem RELS.S {nb ns ns' nx : Nat} {gB wB : Nat → Int32} {cB sS bX sS' : Nat → Nat → Int32} {mB mS mX mS' : Nat → Int32} (h : RELS nb ns nx gB wB cB sS bX mB mS mX) (i : Nat) (hn : ns' ≤ 8) (hl : ∀ j, j < ns' → j ≠ i → j < ns) (hs : ∀ j, j ≠ i → sS' j = sS j) (hm : ∀ j k, j ≠ i → k < 5 → mS' (5 * j + k) = mS (5 * j + k)) (hi : ROWS i sS' mS') : RELS nb ns' nx gB wB cB sS' bX mB mS' mX := by
  obtain ⟨h1, h2, h3, h4, h5, h6, h7⟩ := h
  refine ⟨h1, hn, h3, h4, fun j hj => ?_, h6, h7⟩
  by_cases e : j = i
  · rw [e]; exact hi
  · obtain ⟨r1, r2⟩ := h5 j (hl j hj e)
    unfold ROWS
    rw [hs j e]
    exact ⟨fun k hk => by rw [hm j k e hk]; exact r1 k hk, r2⟩
theorem RELS.X {nb ns nx nx' : Nat} {gB wB : Nat → Int32} {cB sS bX bX' : Nat → Nat → Int32} {mB mS mX mX' : Nat → Int32} (h : RELS nb ns nx gB wB cB sS bX mB mS mX) (i : Nat) (hn : nx' ≤ 6) (hl : ∀ j, j < nx' → j ≠ i → j < nx) (hs : ∀ j, j ≠ i → bX' j = bX j) (hm : ∀ j k, j ≠ i → k < 5 → mX' (5 * j + k) = mX (5 * j + k)) (hi : ROWX i bX' mX') : RELS nb ns nx' gB wB cB sS bX' mB mS mX' := by
  obtain ⟨h1, h2, h3, h4, h5, h6, h7⟩ := h
  refine ⟨h1, h2, hn, h4, h5, fun j hj => ?_, h7⟩
  by_cases e : j = i
  · rw [e]; exact hi
  · obtain ⟨r1, r2⟩ := h6 j (hl j hj e)
    unfold ROWX
    rw [hs j e]
    exact ⟨fun k hk => by rw [hm j k e hk]; exact r1 k hk, r2⟩
