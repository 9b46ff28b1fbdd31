/-! THE START -/
def zN : Nat → Option DCel := fun _ => none
theorem nR_z {ad : Nat → Nat} {b : Nat} : nR ad b 0 = fun _ => none := funext fun i => if_neg (by omega)
theorem T2_z {ad : Nat → Nat} {gB wB : Nat → Int32} : T2 ad 0 gB wB = zN := funext fun i => if_neg (by omega)
theorem T3_z {ad : Nat → Nat} : T3 ad 0 = zN := funext fun i => if_neg (by omega)
theorem T4_z {cB : Nat → Nat → Int32} : T4 0 cB = zN := funext fun i => if_neg (by omega)
theorem T5_z {bX : Nat → Nat → Int32} : T5 0 bX = zN := funext fun i => if_neg (by omega)
theorem T6_z {sS : Nat → Nat → Int32} : T6 0 sS = zN := funext fun i => if_neg (by omega)
theorem init_class {st : DSt} {ad : Nat → Nat} {Q : Nat → Option DCel} {a : Nat} (h : NH st ad (reg (R10 (some (.inr (4, [DR none, DR none, DR none, DI 0, DI 0, DI 0, DI 0, DR none, DR none, DR none, DR none]))) none none none none none none none none none) Q zN zN zN zN zN)) (a0 : ad 0 = a) : ∃ st' ad', fX4_init st a = some st' ∧ (∀ d, 10 ≤ d → ad' d = ad d) ∧ ad' 0 = a ∧ NH st' ad' (CT ad' 0 0 0 0 (fun _ => 0) (fun _ => 0) (fun _ _ => 0) (fun _ _ => 0) (fun _ _ => 0) (fun _ => 0) (fun _ => 0) (fun _ => 0) (fun _ => 0) Q) := by
  suffices H : ∀ ad1 : Nat → Nat, NH st ad1 (reg (R10 (some (.inr (4, [DR none, DR none, DR none, DI 0, DI 0, DI 0, DI 0, DR none, DR none, DR none, DR none]))) none none none none none none none none none) Q zN zN zN zN zN) → ad1 0 = a → (∀ d, 10 ≤ d → ad1 d = ad d) → ∃ st' ad', fX4_init st a = some st' ∧ (∀ d, 10 ≤ d → ad' d = ad d) ∧ ad' 0 = a ∧ NH st' ad' (CT ad' 0 0 0 0 (fun _ => 0) (fun _ => 0) (fun _ _ => 0) (fun _ _ => 0) (fun _ _ => 0) (fun _ => 0) (fun _ => 0) (fun _ => 0) (fun _ => 0) Q) from H ad h a0 fun _ _ => rfl
  clear h a0
  generalize ad = adF
  intro ad h a0 g0
  obtain ⟨s1, n1, h⟩ := h.mk (c := 1) rfl (.inl (2, nR0 5))
  rw [reg_u0 (by omega), R10_u1] at h
  have hA : ∀ d, d ≠ 1 → va_up ad 1 st.1 d = ad d := fun d hd => va_up_n _ _ hd
  have a1 : va_up ad 1 st.1 1 = st.1 := va_up_s _ _ _
  generalize va_up ad 1 st.1 = ad at h hA a1
  have a0 := (hA 0 (by decide)).trans a0
  have g0 := fun d (hd : 10 ≤ d) => (hA d (by omega)).trans (g0 d hd)
  obtain ⟨s2, e2, h⟩ := pV_ex h (c := 0) rfl a0 0 (DR (some st.1)) (by show 0 < 11; decide)
  rw [reg_u0 (by omega), R10_u0] at h
  obtain ⟨s3, n3, h⟩ := h.mk (c := 2) rfl (.inl (3, nR0 8))
  rw [reg_u0 (by omega), R10_u2] at h
  have hA : ∀ d, d ≠ 2 → va_up ad 2 s2.1 d = ad d := fun d hd => va_up_n _ _ hd
  have a2 : va_up ad 2 s2.1 2 = s2.1 := va_up_s _ _ _
  generalize va_up ad 2 s2.1 = ad at h hA a2
  have a0 := (hA 0 (by decide)).trans a0
  have a1 := (hA 1 (by decide)).trans a1
  have g0 := fun d (hd : 10 ≤ d) => (hA d (by omega)).trans (g0 d hd)
  obtain ⟨s4, e4, h⟩ := pV_ex h (c := 0) rfl a0 1 (DR (some s2.1)) (by show 1 < 11; decide)
  rw [reg_u0 (by omega), R10_u0] at h
  obtain ⟨s5, n5, h⟩ := h.mk (c := 3) rfl (.inl (4, nR0 6))
  rw [reg_u0 (by omega), R10_u3] at h
  have hA : ∀ d, d ≠ 3 → va_up ad 3 s4.1 d = ad d := fun d hd => va_up_n _ _ hd
  have a3 : va_up ad 3 s4.1 3 = s4.1 := va_up_s _ _ _
  generalize va_up ad 3 s4.1 = ad at h hA a3
  have a0 := (hA 0 (by decide)).trans a0
  have a1 := (hA 1 (by decide)).trans a1
  have a2 := (hA 2 (by decide)).trans a2
  have g0 := fun d (hd : 10 ≤ d) => (hA d (by omega)).trans (g0 d hd)
  obtain ⟨s6, e6, h⟩ := pV_ex h (c := 0) rfl a0 2 (DR (some s4.1)) (by show 2 < 11; decide)
  rw [reg_u0 (by omega), R10_u0] at h
  obtain ⟨s7, n7, h⟩ := h.mk (c := 4) rfl (.inr (2, [DR none]))
  rw [reg_u0 (by omega), R10_u4] at h
  have hA : ∀ d, d ≠ 4 → va_up ad 4 s6.1 d = ad d := fun d hd => va_up_n _ _ hd
  have a4 : va_up ad 4 s6.1 4 = s6.1 := va_up_s _ _ _
  generalize va_up ad 4 s6.1 = ad at h hA a4
  have a0 := (hA 0 (by decide)).trans a0
  have a1 := (hA 1 (by decide)).trans a1
  have a2 := (hA 2 (by decide)).trans a2
  have a3 := (hA 3 (by decide)).trans a3
  have g0 := fun d (hd : 10 ≤ d) => (hA d (by omega)).trans (g0 d hd)
  obtain ⟨s8, n8, h⟩ := h.mk (c := 6) rfl (.inl (0, nI0 6))
  rw [reg_u0 (by omega), R10_u6] at h
  have hA : ∀ d, d ≠ 6 → va_up ad 6 s7.1 d = ad d := fun d hd => va_up_n _ _ hd
  have a6 : va_up ad 6 s7.1 6 = s7.1 := va_up_s _ _ _
  generalize va_up ad 6 s7.1 = ad at h hA a6
  have a0 := (hA 0 (by decide)).trans a0
  have a1 := (hA 1 (by decide)).trans a1
  have a2 := (hA 2 (by decide)).trans a2
  have a3 := (hA 3 (by decide)).trans a3
  have a4 := (hA 4 (by decide)).trans a4
  have g0 := fun d (hd : 10 ≤ d) => (hA d (by omega)).trans (g0 d hd)
  obtain ⟨s9, e9, h⟩ := pV_ex h (c := 4) rfl a4 0 (DR (some s7.1)) (by show 0 < 1; decide)
  rw [reg_u0 (by omega), R10_u4] at h
  have i4 : fX2_init s7 s6.1 = some s9 := by
    unfold fX2_init
    rw [ob_of _ (congrArg some n8), ob_of _ e9]
  obtain ⟨s10, e10, h⟩ := pV_ex h (c := 0) rfl a0 7 (DR (some s6.1)) (by show 7 < 11; decide)
  rw [reg_u0 (by omega), R10_u0] at h
  obtain ⟨s11, n11, h⟩ := h.mk (c := 5) rfl (.inr (2, [DR none]))
  rw [reg_u0 (by omega), R10_u5] at h
  have hA : ∀ d, d ≠ 5 → va_up ad 5 s10.1 d = ad d := fun d hd => va_up_n _ _ hd
  have a5 : va_up ad 5 s10.1 5 = s10.1 := va_up_s _ _ _
  generalize va_up ad 5 s10.1 = ad at h hA a5
  have a0 := (hA 0 (by decide)).trans a0
  have a1 := (hA 1 (by decide)).trans a1
  have a2 := (hA 2 (by decide)).trans a2
  have a3 := (hA 3 (by decide)).trans a3
  have a4 := (hA 4 (by decide)).trans a4
  have a6 := (hA 6 (by decide)).trans a6
  have g0 := fun d (hd : 10 ≤ d) => (hA d (by omega)).trans (g0 d hd)
  obtain ⟨s12, n12, h⟩ := h.mk (c := 7) rfl (.inl (0, nI0 6))
  rw [reg_u0 (by omega), R10_u7] at h
  have hA : ∀ d, d ≠ 7 → va_up ad 7 s11.1 d = ad d := fun d hd => va_up_n _ _ hd
  have a7 : va_up ad 7 s11.1 7 = s11.1 := va_up_s _ _ _
  generalize va_up ad 7 s11.1 = ad at h hA a7
  have a0 := (hA 0 (by decide)).trans a0
  have a1 := (hA 1 (by decide)).trans a1
  have a2 := (hA 2 (by decide)).trans a2
  have a3 := (hA 3 (by decide)).trans a3
  have a4 := (hA 4 (by decide)).trans a4
  have a6 := (hA 6 (by decide)).trans a6
  have a5 := (hA 5 (by decide)).trans a5
  have g0 := fun d (hd : 10 ≤ d) => (hA d (by omega)).trans (g0 d hd)
  obtain ⟨s13, e13, h⟩ := pV_ex h (c := 5) rfl a5 0 (DR (some s11.1)) (by show 0 < 1; decide)
  rw [reg_u0 (by omega), R10_u5] at h
  have i5 : fX2_init s11 s10.1 = some s13 := by
    unfold fX2_init
    rw [ob_of _ (congrArg some n12), ob_of _ e13]
  obtain ⟨s14, e14, h⟩ := pV_ex h (c := 0) rfl a0 8 (DR (some s10.1)) (by show 8 < 11; decide)
  rw [reg_u0 (by omega), R10_u0] at h
  obtain ⟨s15, n15, h⟩ := h.mk (c := 8) rfl (.inl (0, nI0 6))
  rw [reg_u0 (by omega), R10_u8] at h
  have hA : ∀ d, d ≠ 8 → va_up ad 8 s14.1 d = ad d := fun d hd => va_up_n _ _ hd
  have a8 : va_up ad 8 s14.1 8 = s14.1 := va_up_s _ _ _
  generalize va_up ad 8 s14.1 = ad at h hA a8
  have a0 := (hA 0 (by decide)).trans a0
  have a1 := (hA 1 (by decide)).trans a1
  have a2 := (hA 2 (by decide)).trans a2
  have a3 := (hA 3 (by decide)).trans a3
  have a4 := (hA 4 (by decide)).trans a4
  have a6 := (hA 6 (by decide)).trans a6
  have a5 := (hA 5 (by decide)).trans a5
  have a7 := (hA 7 (by decide)).trans a7
  have g0 := fun d (hd : 10 ≤ d) => (hA d (by omega)).trans (g0 d hd)
  obtain ⟨s16, e16, h⟩ := pV_ex h (c := 0) rfl a0 9 (DR (some s14.1)) (by show 9 < 11; decide)
  rw [reg_u0 (by omega), R10_u0] at h
  obtain ⟨s17, n17, h⟩ := h.mk (c := 9) rfl (.inl (1, nI0 8))
  rw [reg_u0 (by omega), R10_u9] at h
  have hA : ∀ d, d ≠ 9 → va_up ad 9 s16.1 d = ad d := fun d hd => va_up_n _ _ hd
  have a9 : va_up ad 9 s16.1 9 = s16.1 := va_up_s _ _ _
  generalize va_up ad 9 s16.1 = ad at h hA a9
  have a0 := (hA 0 (by decide)).trans a0
  have a1 := (hA 1 (by decide)).trans a1
  have a2 := (hA 2 (by decide)).trans a2
  have a3 := (hA 3 (by decide)).trans a3
  have a4 := (hA 4 (by decide)).trans a4
  have a6 := (hA 6 (by decide)).trans a6
  have a5 := (hA 5 (by decide)).trans a5
  have a7 := (hA 7 (by decide)).trans a7
  have a8 := (hA 8 (by decide)).trans a8
  have g0 := fun d (hd : 10 ≤ d) => (hA d (by omega)).trans (g0 d hd)
  obtain ⟨s18, e18, h⟩ := pV_ex h (c := 0) rfl a0 10 (DR (some s16.1)) (by show 10 < 11; decide)
  rw [reg_u0 (by omega), R10_u0] at h
  refine ⟨s18, ad, ?_, g0, a0, ?_⟩
  · unfold fX4_init
    rw [ob_of _ (congrArg some n1), ob_of _ e2, ob_of _ (congrArg some n3), ob_of _ e4, ob_of _ (congrArg some n5), ob_of _ e6, ob_of _ (congrArg some n7), ob_of _ i4, ob_of _ e10, ob_of _ (congrArg some n11), ob_of _ i5, ob_of _ e14, ob_of _ (congrArg some n15), ob_of _ e16, ob_of _ (congrArg some n17), ob_of _ e18]
  · unfold CT T0
    rw [nR_z, nR_z, nR_z, T2_z, T3_z, T4_z, T5_z, T6_z]
    unfold O4 OC ARO
    rw [a1, a2, a3, a4, a5, a6, a7, a8, a9]
    exact h
theorem init_model {st : DSt} {ad : Nat → Nat} {r0 : Nat → Option DCel} {a : Nat} (h : NH st ad (reg r0 (R10 none (some (.inr (5, [DI 0, DI 0, DI 0, DI 0, DI 0, DR none, DR none, DR none, DR none, DR none, DR none, DR none]))) none none none none none none none none) zN zN zN zN zN)) (a11 : ad 11 = a) : ∃ st' ad', fX5_init st a = some st' ∧ (∀ d, d < 10 → ad' d = ad d) ∧ ad' 11 = a ∧ NH st' ad' (reg r0 (R10 none (some (OM ad' 0 0 0 0 0)) (some (ARR 35 fun _ => 0)) (some (ARR 40 fun _ => 0)) (some (ARR 30 fun _ => 0)) (some (ARR 40 fun _ => 0)) (some (ARR 30 fun _ => 0)) (some (ARR 6 fun _ => 0)) (some (ARR 6 fun _ => 0)) none) zN zN zN zN zN) := by
  suffices H : ∀ ad1 : Nat → Nat, NH st ad1 (reg r0 (R10 none (some (.inr (5, [DI 0, DI 0, DI 0, DI 0, DI 0, DR none, DR none, DR none, DR none, DR none, DR none, DR none]))) none none none none none none none none) zN zN zN zN zN) → ad1 11 = a → (∀ d, d < 10 → ad1 d = ad d) → ∃ st' ad', fX5_init st a = some st' ∧ (∀ d, d < 10 → ad' d = ad d) ∧ ad' 11 = a ∧ NH st' ad' (reg r0 (R10 none (some (OM ad' 0 0 0 0 0)) (some (ARR 35 fun _ => 0)) (some (ARR 40 fun _ => 0)) (some (ARR 30 fun _ => 0)) (some (ARR 40 fun _ => 0)) (some (ARR 30 fun _ => 0)) (some (ARR 6 fun _ => 0)) (some (ARR 6 fun _ => 0)) none) zN zN zN zN zN) from H ad h a11 fun _ _ => rfl
  clear h a11
  generalize ad = adF
  intro ad h a11 g0
  obtain ⟨s1, n1, h⟩ := h.mk (c := 12) rfl (.inl (0, nI0 35))
  rw [show (12 : Nat) = 10 + 2 from rfl, reg_u1 (by omega), R10_u2] at h
  have hA : ∀ d, d ≠ 12 → va_up ad 12 st.1 d = ad d := fun d hd => va_up_n _ _ hd
  have a12 : va_up ad 12 st.1 12 = st.1 := va_up_s _ _ _
  generalize va_up ad 12 st.1 = ad at h hA a12
  have a11 := (hA 11 (by decide)).trans a11
  have g0 := fun d (hd : d < 10) => (hA d (by omega)).trans (g0 d hd)
  obtain ⟨s2, e2, h⟩ := pV_ex h (c := 11) rfl a11 5 (DR (some st.1)) (by show 5 < 12; decide)
  rw [show (11 : Nat) = 10 + 1 from rfl, reg_u1 (by omega), R10_u1] at h
  obtain ⟨s3, n3, h⟩ := h.mk (c := 13) rfl (.inl (0, nI0 40))
  rw [show (13 : Nat) = 10 + 3 from rfl, reg_u1 (by omega), R10_u3] at h
  have hA : ∀ d, d ≠ 13 → va_up ad 13 s2.1 d = ad d := fun d hd => va_up_n _ _ hd
  have a13 : va_up ad 13 s2.1 13 = s2.1 := va_up_s _ _ _
  generalize va_up ad 13 s2.1 = ad at h hA a13
  have a11 := (hA 11 (by decide)).trans a11
  have a12 := (hA 12 (by decide)).trans a12
  have g0 := fun d (hd : d < 10) => (hA d (by omega)).trans (g0 d hd)
  obtain ⟨s4, e4, h⟩ := pV_ex h (c := 11) rfl a11 6 (DR (some s2.1)) (by show 6 < 12; decide)
  rw [show (11 : Nat) = 10 + 1 from rfl, reg_u1 (by omega), R10_u1] at h
  obtain ⟨s5, n5, h⟩ := h.mk (c := 14) rfl (.inl (0, nI0 30))
  rw [show (14 : Nat) = 10 + 4 from rfl, reg_u1 (by omega), R10_u4] at h
  have hA : ∀ d, d ≠ 14 → va_up ad 14 s4.1 d = ad d := fun d hd => va_up_n _ _ hd
  have a14 : va_up ad 14 s4.1 14 = s4.1 := va_up_s _ _ _
  generalize va_up ad 14 s4.1 = ad at h hA a14
  have a11 := (hA 11 (by decide)).trans a11
  have a12 := (hA 12 (by decide)).trans a12
  have a13 := (hA 13 (by decide)).trans a13
  have g0 := fun d (hd : d < 10) => (hA d (by omega)).trans (g0 d hd)
  obtain ⟨s6, e6, h⟩ := pV_ex h (c := 11) rfl a11 7 (DR (some s4.1)) (by show 7 < 12; decide)
  rw [show (11 : Nat) = 10 + 1 from rfl, reg_u1 (by omega), R10_u1] at h
  obtain ⟨s7, n7, h⟩ := h.mk (c := 15) rfl (.inl (0, nI0 40))
  rw [show (15 : Nat) = 10 + 5 from rfl, reg_u1 (by omega), R10_u5] at h
  have hA : ∀ d, d ≠ 15 → va_up ad 15 s6.1 d = ad d := fun d hd => va_up_n _ _ hd
  have a15 : va_up ad 15 s6.1 15 = s6.1 := va_up_s _ _ _
  generalize va_up ad 15 s6.1 = ad at h hA a15
  have a11 := (hA 11 (by decide)).trans a11
  have a12 := (hA 12 (by decide)).trans a12
  have a13 := (hA 13 (by decide)).trans a13
  have a14 := (hA 14 (by decide)).trans a14
  have g0 := fun d (hd : d < 10) => (hA d (by omega)).trans (g0 d hd)
  obtain ⟨s8, e8, h⟩ := pV_ex h (c := 11) rfl a11 8 (DR (some s6.1)) (by show 8 < 12; decide)
  rw [show (11 : Nat) = 10 + 1 from rfl, reg_u1 (by omega), R10_u1] at h
  obtain ⟨s9, n9, h⟩ := h.mk (c := 16) rfl (.inl (0, nI0 30))
  rw [show (16 : Nat) = 10 + 6 from rfl, reg_u1 (by omega), R10_u6] at h
  have hA : ∀ d, d ≠ 16 → va_up ad 16 s8.1 d = ad d := fun d hd => va_up_n _ _ hd
  have a16 : va_up ad 16 s8.1 16 = s8.1 := va_up_s _ _ _
  generalize va_up ad 16 s8.1 = ad at h hA a16
  have a11 := (hA 11 (by decide)).trans a11
  have a12 := (hA 12 (by decide)).trans a12
  have a13 := (hA 13 (by decide)).trans a13
  have a14 := (hA 14 (by decide)).trans a14
  have a15 := (hA 15 (by decide)).trans a15
  have g0 := fun d (hd : d < 10) => (hA d (by omega)).trans (g0 d hd)
  obtain ⟨s10, e10, h⟩ := pV_ex h (c := 11) rfl a11 9 (DR (some s8.1)) (by show 9 < 12; decide)
  rw [show (11 : Nat) = 10 + 1 from rfl, reg_u1 (by omega), R10_u1] at h
  obtain ⟨s11, n11, h⟩ := h.mk (c := 17) rfl (.inl (0, nI0 6))
  rw [show (17 : Nat) = 10 + 7 from rfl, reg_u1 (by omega), R10_u7] at h
  have hA : ∀ d, d ≠ 17 → va_up ad 17 s10.1 d = ad d := fun d hd => va_up_n _ _ hd
  have a17 : va_up ad 17 s10.1 17 = s10.1 := va_up_s _ _ _
  generalize va_up ad 17 s10.1 = ad at h hA a17
  have a11 := (hA 11 (by decide)).trans a11
  have a12 := (hA 12 (by decide)).trans a12
  have a13 := (hA 13 (by decide)).trans a13
  have a14 := (hA 14 (by decide)).trans a14
  have a15 := (hA 15 (by decide)).trans a15
  have a16 := (hA 16 (by decide)).trans a16
  have g0 := fun d (hd : d < 10) => (hA d (by omega)).trans (g0 d hd)
  obtain ⟨s12, e12, h⟩ := pV_ex h (c := 11) rfl a11 10 (DR (some s10.1)) (by show 10 < 12; decide)
  rw [show (11 : Nat) = 10 + 1 from rfl, reg_u1 (by omega), R10_u1] at h
  obtain ⟨s13, n13, h⟩ := h.mk (c := 18) rfl (.inl (0, nI0 6))
  rw [show (18 : Nat) = 10 + 8 from rfl, reg_u1 (by omega), R10_u8] at h
  have hA : ∀ d, d ≠ 18 → va_up ad 18 s12.1 d = ad d := fun d hd => va_up_n _ _ hd
  have a18 : va_up ad 18 s12.1 18 = s12.1 := va_up_s _ _ _
  generalize va_up ad 18 s12.1 = ad at h hA a18
  have a11 := (hA 11 (by decide)).trans a11
  have a12 := (hA 12 (by decide)).trans a12
  have a13 := (hA 13 (by decide)).trans a13
  have a14 := (hA 14 (by decide)).trans a14
  have a15 := (hA 15 (by decide)).trans a15
  have a16 := (hA 16 (by decide)).trans a16
  have a17 := (hA 17 (by decide)).trans a17
  have g0 := fun d (hd : d < 10) => (hA d (by omega)).trans (g0 d hd)
  obtain ⟨s14, e14, h⟩ := pV_ex h (c := 11) rfl a11 11 (DR (some s12.1)) (by show 11 < 12; decide)
  rw [show (11 : Nat) = 10 + 1 from rfl, reg_u1 (by omega), R10_u1] at h
  refine ⟨s14, ad, ?_, g0, a11, ?_⟩
  · unfold fX5_init
    rw [ob_of _ (congrArg some n1), ob_of _ e2, ob_of _ (congrArg some n3), ob_of _ e4, ob_of _ (congrArg some n5), ob_of _ e6, ob_of _ (congrArg some n7), ob_of _ e8, ob_of _ (congrArg some n9), ob_of _ e10, ob_of _ (congrArg some n11), ob_of _ e12, ob_of _ (congrArg some n13), ob_of _ e14]
  · unfold OM
    rw [a12, a13, a14, a15, a16, a17, a18]
    exact h
theorem law_holds (xs : Nat → Int32) (L : Nat) (hL : L ≤ 2048) (n : Nat) : fL_law xs L (n, fun _ => none) := by
  have Z10 : ∀ k, R10 none none none none none none none none none none k = none := fun k => match k with
    | 0 => rfl | 1 => rfl | 2 => rfl | 3 => rfl | 4 => rfl | 5 => rfl | 6 => rfl | 7 => rfl | 8 => rfl | 9 => rfl | _ + 10 => rfl
  have RZ : ∀ d, reg (R10 none none none none none none none none none none) (R10 none none none none none none none none none none) zN zN zN zN zN d = none := fun d => by
    unfold reg
    rw [Z10, Z10]
    unfold zN
    repeat' split
    all_goals rfl
  have h0 : NH (n, fun _ => none) (fun _ => 0) (reg (R10 none none none none none none none none none none) (R10 none none none none none none none none none none) zN zN zN zN zN) := ⟨fun c d e e' hc => (by rw [RZ] at hc; cases hc), fun c e hc => (by rw [RZ] at hc; cases hc), fun q e hq => (by cases hq)⟩
  generalize ((n, fun _ => none) : DSt) = st at h0 ⊢
  generalize ((fun _ => 0) : Nat → Nat) = ad at h0
  obtain ⟨s1, n1, h1⟩ := h0.mk (c := 0) rfl (.inr (4, [DR none, DR none, DR none, DI 0, DI 0, DI 0, DI 0, DR none, DR none, DR none, DR none]))
  rw [reg_u0 (by omega), R10_u0] at h1
  obtain ⟨s2, ad2, e2, g2, a2, h2⟩ := init_class h1 (va_up_s _ _ _)
  unfold CT at h2
  rw [T2_z, T3_z, T4_z, T5_z, T6_z] at h2
  obtain ⟨s3, n3, h3⟩ := h2.mk (c := 11) rfl (.inr (5, [DI 0, DI 0, DI 0, DI 0, DI 0, DR none, DR none, DR none, DR none, DR none, DR none, DR none]))
  rw [show (11 : Nat) = 10 + 1 from rfl, reg_u1 (by omega), R10_u1] at h3
  obtain ⟨s4, ad4, e4, g4, a4, h4⟩ := init_model h3 (va_up_s _ _ _)
  obtain ⟨s5, n5, h5⟩ := h4.mk (c := 10) rfl (.inl (5, nL0 1))
  rw [show (10 : Nat) = 10 + 0 from rfl, reg_u1 (by omega), R10_u0] at h5
  have low : ∀ d, d < 10 → va_up ad4 (10 + 0) s4.1 d = ad2 d := fun d hd => by
    rw [va_up_n _ _ (by omega), g4 d hd, va_up_n _ _ (by omega)]
  have hi : ∀ d, 11 ≤ d → va_up ad4 (10 + 0) s4.1 d = ad4 d := fun d hd => va_up_n _ _ (by omega)
  have e0 : va_up ad4 (10 + 0) s4.1 0 = st.1 := (low 0 (by omega)).trans a2
  have e10 : va_up ad4 (10 + 0) s4.1 10 = s4.1 := va_up_s _ _ _
  have e11 : va_up ad4 (10 + 0) s4.1 11 = s2.1 := (hi 11 (by omega)).trans a4
  generalize va_up ad4 (10 + 0) s4.1 = adF at h5 low hi e0 e10 e11
  have h6 : NH s5 adF (CT adF 0 0 0 0 (fun _ => 0) (fun _ => 0) (fun _ _ => 0) (fun _ _ => 0) (fun _ _ => 0) (fun _ => 0) (fun _ => 0) (fun _ => 0) (fun _ => 0) (MQT adF (fun _ => 0) 0 0 0 0 0 (fun _ => 0) (fun _ => 0) (fun _ => 0) (fun _ => 0) (fun _ => 0) (fun _ => 0) (fun _ => 0))) := by
    unfold CT
    rw [T2_z, T3_z, T4_z, T5_z, T6_z]
    unfold T0 at h5 ⊢
    rw [nR_z, nR_z, nR_z] at h5 ⊢
    unfold MQT
    unfold OM at h5 ⊢
    unfold O4 OC ARO at h5 ⊢
    rw [low 1 (by omega), low 2 (by omega), low 3 (by omega), low 4 (by omega), low 5 (by omega), low 6 (by omega), low 7 (by omega), low 8 (by omega), low 9 (by omega), hi 12 (by omega), hi 13 (by omega), hi 14 (by omega), hi 15 (by omega), hi 16 (by omega), hi 17 (by omega), hi 18 (by omega)]
    exact h5
  have hI : INV st.1 s4.1 s2.1 0 0 s5 := ⟨adF, _, _, _, _, _, _, _, _, _, _, _, _, _, _, _, _, _, _, _, _, _, e0, e10, e11, rfl, h6, by omega, by omega, by omega, fun i hi => by omega, fun i hi => by omega, fun i hi => by omega, fun i _ _ k _ _ => rfl⟩
  unfold fL_law
  refine ⟨_, congrArg some n1, _, e2, _, congrArg some n3, _, e4, _, congrArg some n5, ?_⟩
  exact law_loop hL 520 0 s5 0 0 hI (by omega) (by omega)

