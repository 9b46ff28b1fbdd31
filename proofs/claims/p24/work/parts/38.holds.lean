/-! THE LAW HOLDS -/
theorem nR_z {ad : Nat → Nat} {b : Nat} : nR ad b 0 = fun _ => none := funext fun i => if_neg (by omega)
theorem T2_z {ad : Nat → Nat} {gB wB : Nat → Int32} : T2 ad 0 gB wB = zN := funext fun i => if_neg (by omega)
theorem T3_z {ad : Nat → Nat} : T3 ad 0 = zN := funext fun i => if_neg (by omega)
theorem T4_z {cB : Nat → Nat → Int32} : T4 0 cB = zN := funext fun i => if_neg (by omega)
theorem T5_z {bX : Nat → Nat → Int32} : T5 0 bX = zN := funext fun i => if_neg (by omega)
theorem T6_z {sS : Nat → Nat → Int32} : T6 0 sS zN = zN := funext fun i => by
  show (if i < 0 then _ else if i < 40 then none else none) = none
  rw [if_neg (by omega)]
  exact ite_self _
theorem SB_z {ad : Nat → Nat} {gB wB : Nat → Int32} : SB ad 0 gB wB = zN := funext fun i => if_neg (by omega)
theorem S5_z {f : Nat → Nat → Int32} : S5 0 f = zN := funext fun i => if_neg (by omega)
theorem init_class {st : DSt} {ad : Nat → Nat} {a : Nat} (h : NH st ad (reg (R10 (some (.inr (4, [DR none, DR none, DR none, DI 0, DI 0, DI 0, DI 0, DR none, DR none, DR none, DR none]))) none none none none none none none none none) zN zN zN zN zN zN)) (a0 : ad 0 = a) : ∃ st' ad', fX4_init st a = some st' ∧ (∀ d, 10 ≤ d → ad' d = ad d) ∧ ad' 0 = a ∧ NH st' ad' (CT ad' 0 0 0 0 (fun _ => 0) (fun _ => 0) (fun _ _ => 0) (fun _ _ => 0) (fun _ _ => 0) (fun _ => 0) (fun _ => 0) (fun _ => 0) (fun _ => 0) zN) := by
  suffices H : ∀ ad1 : Nat → Nat, NH st ad1 (reg (R10 (some (.inr (4, [DR none, DR none, DR none, DI 0, DI 0, DI 0, DI 0, DR none, DR none, DR none, DR none]))) none none none none none none none none none) zN zN zN zN zN zN) → ad1 0 = a → (∀ d, 10 ≤ d → ad1 d = ad d) → ∃ st' ad', fX4_init st a = some st' ∧ (∀ d, 10 ≤ d → ad' d = ad d) ∧ ad' 0 = a ∧ NH st' ad' (CT ad' 0 0 0 0 (fun _ => 0) (fun _ => 0) (fun _ _ => 0) (fun _ _ => 0) (fun _ _ => 0) (fun _ => 0) (fun _ => 0) (fun _ => 0) (fun _ => 0) zN) from H ad h a0 fun _ _ => rfl
  clear h a0
  generalize ad = adF
  intro ad h a0 g0
  obtain ⟨s1, n1, h⟩ := h.mk (c := 1) rfl (.inl (2, nR0 5))
  rw [reg_u0 (by omega), R10_u1] at h
  have hA : ∀ d, d ≠ 1 → va_up ad 1 st.1 d = ad d := fun d hd => va_up_n _ _ hd
  have a1 : va_up ad 1 st.1 1 = st.1 := va_up_s _ _ _
  generalize va_up ad 1 st.1 = ad at h hA a1
  have a0 := (hA 0 (by decide)).trans a0
  have g0 := fun d (hd : 10 ≤ d) => (hA d (by omega)).trans (g0 d hd)
  obtain ⟨s2, e2, h⟩ := pV_ex h (c := 0) rfl a0 0 (DR (some st.1)) (by show 0 < 11; decide)
  rw [reg_u0 (by omega), R10_u0] at h
  obtain ⟨s3, n3, h⟩ := h.mk (c := 2) rfl (.inl (3, nR0 8))
  rw [reg_u0 (by omega), R10_u2] at h
  have hA : ∀ d, d ≠ 2 → va_up ad 2 s2.1 d = ad d := fun d hd => va_up_n _ _ hd
  have a2 : va_up ad 2 s2.1 2 = s2.1 := va_up_s _ _ _
  generalize va_up ad 2 s2.1 = ad at h hA a2
  have a0 := (hA 0 (by decide)).trans a0
  have a1 := (hA 1 (by decide)).trans a1
  have g0 := fun d (hd : 10 ≤ d) => (hA d (by omega)).trans (g0 d hd)
  obtain ⟨s4, e4, h⟩ := pV_ex h (c := 0) rfl a0 1 (DR (some s2.1)) (by show 1 < 11; decide)
  rw [reg_u0 (by omega), R10_u0] at h
  obtain ⟨s5, n5, h⟩ := h.mk (c := 3) rfl (.inl (4, nR0 6))
  rw [reg_u0 (by omega), R10_u3] at h
  have hA : ∀ d, d ≠ 3 → va_up ad 3 s4.1 d = ad d := fun d hd => va_up_n _ _ hd
  have a3 : va_up ad 3 s4.1 3 = s4.1 := va_up_s _ _ _
  generalize va_up ad 3 s4.1 = ad at h hA a3
  have a0 := (hA 0 (by decide)).trans a0
  have a1 := (hA 1 (by decide)).trans a1
  have a2 := (hA 2 (by decide)).trans a2
  have g0 := fun d (hd : 10 ≤ d) => (hA d (by omega)).trans (g0 d hd)
  obtain ⟨s6, e6, h⟩ := pV_ex h (c := 0) rfl a0 2 (DR (some s4.1)) (by show 2 < 11; decide)
  rw [reg_u0 (by omega), R10_u0] at h
  obtain ⟨s7, n7, h⟩ := h.mk (c := 4) rfl (.inr (2, [DR none]))
  rw [reg_u0 (by omega), R10_u4] at h
  have hA : ∀ d, d ≠ 4 → va_up ad 4 s6.1 d = ad d := fun d hd => va_up_n _ _ hd
  have a4 : va_up ad 4 s6.1 4 = s6.1 := va_up_s _ _ _
  generalize va_up ad 4 s6.1 = ad at h hA a4
  have a0 := (hA 0 (by decide)).trans a0
  have a1 := (hA 1 (by decide)).trans a1
  have a2 := (hA 2 (by decide)).trans a2
  have a3 := (hA 3 (by decide)).trans a3
  have g0 := fun d (hd : 10 ≤ d) => (hA d (by omega)).trans (g0 d hd)
  obtain ⟨s8, n8, h⟩ := h.mk (c := 6) rfl (.inl (0, nI0 6))
  rw [reg_u0 (by omega), R10_u6] at h
  have hA : ∀ d, d ≠ 6 → va_up ad 6 s7.1 d = ad d := fun d hd => va_up_n _ _ hd
  have a6 : va_up ad 6 s7.1 6 = s7.1 := va_up_s _ _ _
  generalize va_up ad 6 s7.1 = ad at h hA a6
  have a0 := (hA 0 (by decide)).trans a0
  have a1 := (hA 1 (by decide)).trans a1
  have a2 := (hA 2 (by decide)).trans a2
  have a3 := (hA 3 (by decide)).trans a3
  have a4 := (hA 4 (by decide)).trans a4
  have g0 := fun d (hd : 10 ≤ d) => (hA d (by omega)).trans (g0 d hd)
  obtain ⟨s9, e9, h⟩ := pV_ex h (c := 4) rfl a4 0 (DR (some s7.1)) (by show 0 < 1; decide)
  rw [reg_u0 (by omega), R10_u4] at h
  have i4 : fX2_init s7 s6.1 = some s9 := by
    unfold fX2_init
    rw [ob_of _ (congrArg some n8), ob_of _ e9]
  obtain ⟨s10, e10, h⟩ := pV_ex h (c := 0) rfl a0 7 (DR (some s6.1)) (by show 7 < 11; decide)
  rw [reg_u0 (by omega), R10_u0] at h
  obtain ⟨s11, n11, h⟩ := h.mk (c := 5) rfl (.inr (2, [DR none]))
  rw [reg_u0 (by omega), R10_u5] at h
  have hA : ∀ d, d ≠ 5 → va_up ad 5 s10.1 d = ad d := fun d hd => va_up_n _ _ hd
  have a5 : va_up ad 5 s10.1 5 = s10.1 := va_up_s _ _ _
  generalize va_up ad 5 s10.1 = ad at h hA a5
  have a0 := (hA 0 (by decide)).trans a0
  have a1 := (hA 1 (by decide)).trans a1
  have a2 := (hA 2 (by decide)).trans a2
  have a3 := (hA 3 (by decide)).trans a3
  have a4 := (hA 4 (by decide)).trans a4
  have a6 := (hA 6 (by decide)).trans a6
  have g0 := fun d (hd : 10 ≤ d) => (hA d (by omega)).trans (g0 d hd)
  obtain ⟨s12, n12, h⟩ := h.mk (c := 7) rfl (.inl (0, nI0 6))
  rw [reg_u0 (by omega), R10_u7] at h
  have hA : ∀ d, d ≠ 7 → va_up ad 7 s11.1 d = ad d := fun d hd => va_up_n _ _ hd
  have a7 : va_up ad 7 s11.1 7 = s11.1 := va_up_s _ _ _
  generalize va_up ad 7 s11.1 = ad at h hA a7
  have a0 := (hA 0 (by decide)).trans a0
  have a1 := (hA 1 (by decide)).trans a1
  have a2 := (hA 2 (by decide)).trans a2
  have a3 := (hA 3 (by decide)).trans a3
  have a4 := (hA 4 (by decide)).trans a4
  have a6 := (hA 6 (by decide)).trans a6
  have a5 := (hA 5 (by decide)).trans a5
  have g0 := fun d (hd : 10 ≤ d) => (hA d (by omega)).trans (g0 d hd)
  obtain ⟨s13, e13, h⟩ := pV_ex h (c := 5) rfl a5 0 (DR (some s11.1)) (by show 0 < 1; decide)
  rw [reg_u0 (by omega), R10_u5] at h
  have i5 : fX2_init s11 s10.1 = some s13 := by
    unfold fX2_init
    rw [ob_of _ (congrArg some n12), ob_of _ e13]
  obtain ⟨s14, e14, h⟩ := pV_ex h (c := 0) rfl a0 8 (DR (some s10.1)) (by show 8 < 11; decide)
  rw [reg_u0 (by omega), R10_u0] at h
  obtain ⟨s15, n15, h⟩ := h.mk (c := 8) rfl (.inl (0, nI0 6))
  rw [reg_u0 (by omega), R10_u8] at h
  have hA : ∀ d, d ≠ 8 → va_up ad 8 s14.1 d = ad d := fun d hd => va_up_n _ _ hd
  have a8 : va_up ad 8 s14.1 8 = s14.1 := va_up_s _ _ _
  generalize va_up ad 8 s14.1 = ad at h hA a8
  have a0 := (hA 0 (by decide)).trans a0
  have a1 := (hA 1 (by decide)).trans a1
  have a2 := (hA 2 (by decide)).trans a2
  have a3 := (hA 3 (by decide)).trans a3
  have a4 := (hA 4 (by decide)).trans a4
  have a6 := (hA 6 (by decide)).trans a6
  have a5 := (hA 5 (by decide)).trans a5
  have a7 := (hA 7 (by decide)).trans a7
  have g0 := fun d (hd : 10 ≤ d) => (hA d (by omega)).trans (g0 d hd)
  obtain ⟨s16, e16, h⟩ := pV_ex h (c := 0) rfl a0 9 (DR (some s14.1)) (by show 9 < 11; decide)
  rw [reg_u0 (by omega), R10_u0] at h
  obtain ⟨s17, n17, h⟩ := h.mk (c := 9) rfl (.inl (1, nI0 8))
  rw [reg_u0 (by omega), R10_u9] at h
  have hA : ∀ d, d ≠ 9 → va_up ad 9 s16.1 d = ad d := fun d hd => va_up_n _ _ hd
  have a9 : va_up ad 9 s16.1 9 = s16.1 := va_up_s _ _ _
  generalize va_up ad 9 s16.1 = ad at h hA a9
  have a0 := (hA 0 (by decide)).trans a0
  have a1 := (hA 1 (by decide)).trans a1
  have a2 := (hA 2 (by decide)).trans a2
  have a3 := (hA 3 (by decide)).trans a3
  have a4 := (hA 4 (by decide)).trans a4
  have a6 := (hA 6 (by decide)).trans a6
  have a5 := (hA 5 (by decide)).trans a5
  have a7 := (hA 7 (by decide)).trans a7
  have a8 := (hA 8 (by decide)).trans a8
  have g0 := fun d (hd : 10 ≤ d) => (hA d (by omega)).trans (g0 d hd)
  obtain ⟨s18, e18, h⟩ := pV_ex h (c := 0) rfl a0 10 (DR (some s16.1)) (by show 10 < 11; decide)
  rw [reg_u0 (by omega), R10_u0] at h
  refine ⟨s18, ad, ?_, g0, a0, ?_⟩
  · unfold fX4_init
    rw [ob_of _ (congrArg some n1), ob_of _ e2, ob_of _ (congrArg some n3), ob_of _ e4, ob_of _ (congrArg some n5), ob_of _ e6, ob_of _ (congrArg some n7), ob_of _ i4, ob_of _ e10, ob_of _ (congrArg some n11), ob_of _ i5, ob_of _ e14, ob_of _ (congrArg some n15), ob_of _ e16, ob_of _ (congrArg some n17), ob_of _ e18]
  · unfold CT T0
    rw [nR_z, nR_z, nR_z, T2_z, T3_z, T4_z, T5_z, T6_z]
    unfold O4 OC ARO
    rw [a1, a2, a3, a4, a5, a6, a7, a8, a9]
    exact h
section START
variable {st : DSt} {ad : Nat → Nat} {day : Int32} {nb ns nx : Nat} {gB wB : Nat → Int32} {cB sS bX : Nat → Nat → Int32} {f6 f7 g8 g9 : Nat → Int32} {Q : Nat → Option DCel} {k : Nat}
theorem y_mk {r0 : Nat → Option DCel} (h : NH st ad (CT ad day nb ns nx gB wB cB sS bX f6 f7 g8 g9 (reg r0 zN zN zN zN zN zN))) (hb : nb ≤ 5) (hs : ns ≤ 8) (hx : nx ≤ 6) (hk : k < 10) (hn : r0 k = none) (e : DCel) : ∃ ad', (∀ c, c ≠ 10 + k → ad' c = ad c) ∧ ad' (10 + k) = st.1 ∧ NH (nC st e) ad' (CT (ad') day nb ns nx gB wB cB sS bX f6 f7 g8 g9 (reg (va_up r0 k (some e)) zN zN zN zN zN zN)) := by
  have q := h.new (c := 10 + k) ((cQ_lo hk).trans ((reg_0 hk).trans hn)) e
  rw [uQ_lo hk, reg_u0 hk] at q
  have hA : ∀ c, c ≠ 10 + k → va_up ad (10 + k) st.1 c = ad c := fun c hc => va_up_n _ _ hc
  refine ⟨_, hA, va_up_s _ _ _, ?_⟩
  rw [CT_ad (ad := ad) (fun c hc => hA c (by omega)) hb hs hx]
  exact q
theorem y_pv {r0 : Nat → Option DCel} {fs : List DV} (h : NH st ad (CT ad day nb ns nx gB wB cB sS bX f6 f7 g8 g9 (reg r0 zN zN zN zN zN zN))) (h0 : r0 0 = some (.inr (6, fs))) (v : DV) (hk : k < fs.length) : ∃ st', pV st (some (ad 10)) 6 k v = some st' ∧ NH st' ad (CT ad day nb ns nx gB wB cB sS bX f6 f7 g8 g9 (reg (va_up r0 0 (some (.inr (6, fs.set k v)))) zN zN zN zN zN zN)) := by
  have e : (CT ad day nb ns nx gB wB cB sS bX f6 f7 g8 g9 (reg r0 zN zN zN zN zN zN)) 10 = some (.inr (6, fs)) := (cQ_lo (k := 0) (by omega)).trans ((reg_0 (by omega)).trans h0)
  refine ⟨_, l_pV h e k v hk, ?_⟩
  have q := h.set e (.inr (6, fs.set k v))
  rw [show (10 : Nat) = 10 + 0 from rfl, uQ_lo (by omega), reg_u0 (by omega)] at q
  exact q
theorem sim_init (h : NH st ad (CT ad (0) (0) (0) (0) gB wB cB sS bX f6 f7 g8 g9 zN)) : ∃ st' ad', fX6_init (nC st (.inr (6, [DI 0, DR none, DR none, DR none]))) st.1 = some st' ∧ ad' 10 = st.1 ∧ ad' 0 = ad 0 ∧ NH st' ad' (CT (ad') (0) (0) (0) (0) gB wB cB sS bX f6 f7 g8 g9 (SQ (ad') (0) (0) (0) (0) (0) (0) (0) gB wB cB sS bX none none)) := by
  have Z10 : ∀ k, R10 none none none none none none none none none none k = none := fun k => match k with
    | 0 => rfl | 1 => rfl | 2 => rfl | 3 => rfl | 4 => rfl | 5 => rfl | 6 => rfl | 7 => rfl | 8 => rfl | 9 => rfl | _ + 10 => rfl
  have eQ : zN = reg (R10 none none none none none none none none none none) zN zN zN zN zN zN := funext fun d => by
    unfold reg
    rw [Z10]
    unfold zN
    repeat' split
    all_goals rfl
  rw [eQ] at h
  obtain ⟨a1, k1, b1, h1⟩ := y_mk h (by omega) (by omega) (by omega) (k := 0) (by omega) rfl (.inr (6, [DI 0, DR none, DR none, DR none]))
  rw [R10_u0] at h1
  obtain ⟨a2, k2, b2, h2⟩ := y_mk h1 (by omega) (by omega) (by omega) (k := 1) (by omega) rfl (ARO 5 0 fun _ => none)
  rw [R10_u1] at h2
  obtain ⟨s3, e3, h3⟩ := y_pv h2 rfl (k := 1) (DR (some (a2 11))) (by show 1 < 4; decide)
  rw [R10_u0] at h3
  obtain ⟨a4, k4, b4, h4⟩ := y_mk h3 (by omega) (by omega) (by omega) (k := 2) (by omega) rfl (ARO 6 0 fun _ => none)
  rw [R10_u2] at h4
  obtain ⟨s5, e5, h5⟩ := y_pv h4 rfl (k := 2) (DR (some (a4 12))) (by show 2 < 4; decide)
  rw [R10_u0] at h5
  obtain ⟨a6, k6, b6, h6⟩ := y_mk h5 (by omega) (by omega) (by omega) (k := 3) (by omega) rfl (ARO 6 0 fun _ => none)
  rw [R10_u3] at h6
  obtain ⟨s7, e7, h7⟩ := y_pv h6 rfl (k := 3) (DR (some (a6 13))) (by show 3 < 4; decide)
  rw [R10_u0] at h7
  have w2 : a2 10 = st.1 := (k2 10 (by omega)).trans b1
  have w4 : a4 10 = st.1 := (k4 10 (by omega)).trans w2
  have w6 : a6 10 = st.1 := (k6 10 (by omega)).trans w4
  have v4 : a6 12 = a4 12 := k6 12 (by omega)
  have v2 : a6 11 = a2 11 := (k6 11 (by omega)).trans (k4 11 (by omega))
  rw [w2] at e3
  rw [w4] at e5
  rw [w6] at e7
  refine ⟨s7, a6, ?_, w6, (k6 0 (by omega)).trans ((k4 0 (by omega)).trans ((k2 0 (by omega)).trans (k1 0 (by omega)))), ?_⟩
  · unfold fX6_init
    rw [ob_of _ (nQ_ok (n := 0) (m := 0) (cap := 10) (kd := 5) rfl (by omega) (by omega)), ← b2, ob_of _ e3]
    rw [ob_of _ (nQ_ok (n := 0) (m := 0) (cap := 10) (kd := 6) rfl (by omega) (by omega)), ← b4, ob_of _ e5]
    rw [ob_of _ (nQ_ok (n := 0) (m := 0) (cap := 10) (kd := 6) rfl (by omega) (by omega)), ← b6, ob_of _ e7]
  · unfold SQ S0 OSim
    rw [nR_z, nR_z, nR_z, SB_z, T4_z, S5_z, S5_z, v4, v2]
    exact h7
end START
def WV (a0 a10 : Nat) (D : Int) (st : DSt) : Prop := ∃ (day : Int32) (nb ns nx : Nat) (gB wB : Nat → Int32) (cB sS bX : Nat → Nat → Int32), IV a0 a10 day nb ns nx gB wB cB sS bX st ∧ RV D day nb ns nx gB wB cB sS bX
theorem WV.act {a0 a10 : Nat} {D : Int} {st : DSt} (h : WV a0 a10 D st) (hD : D ≤ 1000000) (x : Int32) : ∃ st', fL_act st (some a0) (some a10) x = some (1, st') ∧ WV a0 a10 (D + 5) st' := by
  obtain ⟨day, nb, ns, nx, gB, wB, cB, sS, bX, hI, hR⟩ := h
  obtain ⟨s1, day1, nb1, ns1, nx1, gB1, wB1, cB1, sS1, bX1, ea, hI1, hR1, -⟩ := act_ok hI hR hD x
  exact ⟨s1, ea, _, _, _, _, _, _, _, _, _, hI1, hR1⟩
theorem mod16 {k : Nat} (hk : k < 1000) : ∃ m, m < 16 ∧ oM (nI k) 16 = some (nI m) := by
  have e16 : (16 : Int32).toInt = 16 := by decide
  have ik : (nI k).toInt = k := i_nI (by omega)
  have e1 : (nI k / 16).toInt = (k : Int) / 16 := by rw [i_div (by omega) (by omega), ik, e16]
  have e2 : (nI k / 16 * 16).toInt = (k : Int) / 16 * 16 := by rw [i_mul] <;> rw [e1, e16] <;> omega
  have e3 : (nI k - nI k / 16 * 16).toInt = k - (k : Int) / 16 * 16 := by rw [i_sub] <;> rw [e2, ik] <;> omega
  obtain ⟨m, hm, e4, e5⟩ := toN (x := nI k - nI k / 16 * 16) 15 (by rw [e3]; omega) (by rw [e3]; omega) (by omega)
  refine ⟨m, by omega, ?_⟩
  unfold oM
  rw [if_neg (by decide), e4]
section OUTER
variable {st : DSt} {ad : Nat → Nat} {day : Int32} {nb ns nx : Nat} {gB wB : Nat → Int32} {cB sS bX : Nat → Nat → Int32} {f6 f7 g8 g9 : Nat → Int32} {D : Int} {k : Nat}
theorem w_22 (xs : Nat → Int32) {L : Nat} (hL : L ≤ 260) {a0 a10 : Nat} {st0 st : DSt} {D : Int} {k : Nat} (hW : WV a0 a10 D st) (ha : st0.1 = a0) (hk : k < 40) (hD : D ≤ 1000000) : ∃ st', fL_law_L22 xs L st0 a10 (st, nI k) = some (.inl (st', nI k + 1)) ∧ WV a0 a10 (D + 5) st' := by
  obtain ⟨day, nb, ns, nx, gB, wB, cB, sS, bX, ⟨ad, f6, f7, g8, g9, rfl, rfl, h⟩, hR⟩ := hW
  obtain ⟨m, hm, em⟩ := mod16 (k := k) (by omega)
  obtain ⟨v, ev⟩ := b_cell xs hL (st := st) (p := nI m) rfl (by omega)
  have ed : oD (nI k) 16 = some (nI k / 16) := oD_of (by decide)
  obtain ⟨s1, day1, nb1, ns1, nx1, gB1, wB1, cB1, sS1, bX1, ea, ⟨ad1, m6, m7, m8, m9, c0, c10, h1⟩, hR1, ⟨n1, n2⟩, hF, hT⟩ := act_ok ⟨ad, f6, f7, g8, g9, rfl, rfl, h⟩ hR hD ((v >>> ((nI k / 16 * 3) &&& 31)) + (467 * nI k))
  have ha1 : st0.1 = ad1 0 := ha.trans c0.symm
  obtain ⟨V1, V2, V3⟩ := VT_ok hR
  obtain ⟨V4, V5, V6⟩ := VT_ok hR1
  obtain ⟨hb1, hs1, hx1, hd1, rB1, rS1, rX1⟩ := id hR1
  obtain ⟨hb0, -⟩ := id hR
  obtain ⟨J, j1, j2⟩ : ∃ J, (if nI nb1 ≤ nI nb then some ((foldN (cntG gB) nb 0 + (10 * foldN (cntQ sS) ns 0)) + (10 * ZS nx bX)) else oB (oR s1 (some (ad1 0)) 4) fun b34 => oB (nX (fX4_told s1 b34 (nI nb) 0)) fun q35 => some (((foldN (cntG gB) nb 0 + (10 * foldN (cntQ sS) ns 0)) + (10 * ZS nx bX)) + q35)) = some J ∧ J.toInt = TT nb1 ns1 nx1 gB1 sS1 bX1 := by
    by_cases c : nb1 = nb
    · subst c
      refine ⟨_, if_pos (Int32.le_refl _), ?_⟩
      rw [if_pos rfl] at hT
      rw [hT]
      exact V1.trans (Int.add_zero _).symm
    · have hn : nb < nb1 := by omega
      rw [if_neg c] at hT
      rw [if_neg (nI_ge hn (by omega)), ob_of _ (q_oR h1), ob_of _ (l_td0 h1 hR1 hn)]
      refine ⟨_, rfl, ?_⟩
      obtain ⟨⟨q1, q2⟩, -⟩ := rB1 nb hn
      have V1' : ((foldN (cntG gB) nb 0 + (10 * foldN (cntQ sS) ns 0)) + (10 * ZS nx bX)).toInt = TT nb ns nx gB sS bX := V1
      rw [i_add] <;> rw [V1'] <;> omega
  obtain ⟨y1, f1, g1⟩ := w_170 h1 hR1 ha1 1
  obtain ⟨y2, f2, g2, g2'⟩ := w_375 h1 hR1 ha1 1
  obtain ⟨y3, f3, g3, g3'⟩ := w_643 h1 hR1 ha1 1
  have eV : (y1.1 + (10 * y2.1)) + (10 * y3.1) = J := by
    rw [g1, g2, g3, i_eq, j2]
    exact V4
  have eF : ¬ y3.2.1 < foldN (cntX bX) nx 0 := by
    rw [g3', i_lt, FF_ok hR1, FF_ok hR]
    omega
  unfold fL_law_L22
  dsimp only
  rw [if_neg (show ¬ (40 : Int32) ≤ nI k from nI_ge (b := 40) (by omega) (by omega)), ob_of _ em, ob_of _ ev, ob_of _ ed, ha, ob_of _ (q_oR h), ob_of _ (l_cn1 h hR), ob_of _ (w_64 h hR ha (nI k)), ob_of _ (q_oR h), ob_of _ (l_cn5 h hR), ob_of _ (q_oR h), ob_of _ (l_cn6 h hR), ob_of _ (q_oR h), ob_of _ (l_cn4 h hR), ob_of _ ea]
  rw [if_neg (c := ((1 : Int32), s1).1 = 0) (show ¬ (1 : Int32) = 0 by decide)]
  dsimp only
  rw [← c0, ← c10, ob_of _ (q_oR h1), ob_of _ (l_cn1 h1 hR1), ob_of _ j1, ob_of _ f1]
  dsimp only
  rw [ob_of _ f2]
  dsimp only
  rw [ob_of _ f3]
  dsimp only
  rw [ob_of _ (q_oR h1), ob_of _ (l_cn5 h1 hR1), if_pos (show y1.1 = foldN (cntG gB1) nb1 0 from g1), ob_of _ (q_oR h1), ob_of _ (l_cn6 h1 hR1), if_pos (show y2.1 = foldN (cntQ sS1) ns1 0 from g2), ob_of _ (q_oR h1), ob_of _ (l_cn7 h1 hR1), if_pos g2', ob_of _ (q_oR h1), ob_of _ (l_cn4 h1 hR1), if_pos g3', if_neg eF, if_pos eV, ob_of _ (q_oR h1), ob_of _ (l_cn2 h1 hR1)]
  by_cases c : nI ns1 = 0
  · rw [if_pos c]
    exact ⟨s1, rfl, _, _, _, _, _, _, _, _, _, ⟨ad1, m6, m7, m8, m9, rfl, rfl, h1⟩, hR1⟩
  · have n0 : 0 < ns1 := by
      rcases Nat.eq_zero_or_pos ns1 with q | q
      · exact absurd (show nI ns1 = 0 by rw [q]; rfl) c
      · exact q
    obtain ⟨r, r1, r2⟩ := b_below (st := s1) (((v >>> ((nI k / 16 * 3) &&& 31)) + (467 * nI k)) >>> (1 &&& 31)) (n := nI ns1) (m := ns1) rfl n0 (by omega)
    obtain ⟨q0, q1, q2, q3, q4⟩ := rS1 r r1
    obtain ⟨s2, e2, h2⟩ := t_polish h1 hs1 (p := nI r) (ixO_nI r1 (by omega))
    obtain ⟨s3, e3, h3⟩ := zs_s h2 r1 hs1 hs1 (p := 3) (k := 3) rfl (by omega) (jmax 0 (sS1 r 3 - 15))
    have e15 : (sS1 r 3 - 15).toInt = (sS1 r 3).toInt - 15 := by rw [i_sub] <;> rw [i15] <;> omega
    have hm2 : (jmax 0 (sS1 r 3 - 15)).toInt = max 0 ((sS1 r 3).toInt - 15) := by rw [i_max, e15, toInt_0]
    have hR2 := hR1.slab (i := r) (f := upd (sS1 r) 3 (jmax 0 (sS1 r 3 - 15))) ⟨q0, q1, q2, by rw [upd_s]; omega, q4⟩
    have a3 := l_ab3 h3 hR2 r1
    rw [va_up_s, upd_s] at a3
    rw [if_neg c, ob_of _ (q_oR h1), ob_of _ (l_cn2 h1 hR1), ob_of _ r2, ob_of _ (q_oR h1), ob_of _ (l_ab3 h1 hR1 r1), ob_of _ (q_oR h1), ob_of _ (nxo e2)]
    dsimp only
    rw [ob_of _ (z_r2 h2), ob_of _ (z_a2 h2 rfl r1 hs1), ob_of _ e3, if_pos rfl, ob_of _ (q_oR h3), ob_of _ a3, if_pos rfl]
    exact ⟨s3, rfl, _, _, _, _, _, _, _, _, _, ⟨ad1, _, _, _, _, rfl, rfl, h3⟩, hR2⟩
end OUTER
theorem build_ok (xs : Nat → Int32) {L : Nat} (hL : L ≤ 260) {st : DSt} {ad : Nat → Nat} {f6 f7 g8 g9 gB wB : Nat → Int32} {cB sS bX : Nat → Nat → Int32} (h : NH st ad (CT ad (0) (0) (0) (0) gB wB cB sS bX f6 f7 g8 g9 zN)) : ∃ st', fL_build xs L st (some (ad 0)) = some (some st.1, st') ∧ WV (ad 0) st.1 300 st' := by
  obtain ⟨s2, ad2, e2, a10, a0, h2⟩ := sim_init h
  obtain ⟨v, ev⟩ := b_cell xs hL (st := s2) (p := 0) (k := 0) rfl (by omega)
  obtain ⟨r, r1, r2⟩ := b_below (st := s2) v (n := 40) (m := 40) rfl (by omega) (by omega)
  have e20 : 20 + nI r = nI (20 + r) := nI_add 20 r
  have W0 : WV (ad 0) st.1 (5 * ((0 : Nat) : Int)) s2 := ⟨_, _, _, _, _, _, _, _, _, ⟨ad2, _, _, _, _, a0, a10, h2⟩, by omega, by omega, by omega, by rw [toInt_0]; omega, fun i hi => absurd hi (by omega), fun i hi => absurd hi (by omega), fun i hi => absurd hi (by omega)⟩
  obtain ⟨b, g1, y, rfl, g2⟩ := dli_run (fL_build_L25 xs L st (some (ad 0)) (nI r)) (fun k z => z.2 = nI k ∧ WV (ad 0) st.1 (5 * (k : Int)) z.1) (fun b => ∃ y, b = .inl y ∧ WV (ad 0) st.1 300 y.1) (20 + r) 60 (by omega) (fun k z hk hz => by
    obtain ⟨z1, z2⟩ := z
    obtain ⟨hz1, hz2⟩ := hz
    dsimp only at hz1 hz2
    subst hz1
    unfold fL_build_L25
    dsimp only
    rw [e20]
    by_cases c : k = 20 + r
    · subst c
      rw [if_pos (Int32.le_refl _)]
      obtain ⟨day, nb, ns, nx, gB, wB, cB, sS, bX, hI, hR⟩ := hz2
      exact Or.inr ⟨_, rfl, _, rfl, day, nb, ns, nx, gB, wB, cB, sS, bX, hI, hR.mono (by omega)⟩
    · obtain ⟨m, hm, em⟩ := mod16 (k := k) (by omega)
      obtain ⟨v, ev⟩ := b_cell xs hL (st := z1) (p := nI m) rfl (by omega)
      have ed : oD (nI k) 16 = some (nI k / 16) := oD_of (by decide)
      obtain ⟨s3, e3, h3⟩ := hz2.act (by omega) ((v >>> ((nI k / 16 * 3) &&& 31)) + (467 * nI k))
      rw [if_neg (nI_ge (show k < 20 + r by omega) (by omega)), ob_of _ em, ob_of _ ev, ob_of _ ed, ob_of _ e3, if_neg (c := ((1 : Int32), s3).1 = 0) (show ¬ (1 : Int32) = 0 by decide)]
      refine Or.inl ⟨_, rfl, by omega, nI_1 k, ?_⟩
      rw [show (5 * ((k + 1 : Nat) : Int)) = 5 * (k : Int) + 5 by omega]
      exact h3) (s2, 0) ⟨rfl, W0⟩
  refine ⟨y.1, ?_, g2⟩
  unfold fL_build
  rw [ob_of _ (rfl : some (nC st (.inr (6, [DI 0, DR none, DR none, DR none]))) = some (nC st (.inr (6, [DI 0, DR none, DR none, DR none])))), ob_of _ e2, ob_of _ ev, ob_of _ r2, ob_of _ g1]
theorem law_holds (xs : Nat → Int32) (L : Nat) (hL : L ≤ 260) (n : Nat) : ∃ st1, fL_law xs L (n, fun _ => none) = some ((1 : Int32), st1) := by
  have Z10 : ∀ k, R10 none none none none none none none none none none k = none := fun k => match k with
    | 0 => rfl | 1 => rfl | 2 => rfl | 3 => rfl | 4 => rfl | 5 => rfl | 6 => rfl | 7 => rfl | 8 => rfl | 9 => rfl | _ + 10 => rfl
  have RZ : ∀ d, reg (R10 none none none none none none none none none none) zN zN zN zN zN zN d = none := fun d => by
    unfold reg
    rw [Z10]
    unfold zN
    repeat' split
    all_goals rfl
  have h0 : NH (n, fun _ => none) (fun _ => 0) (reg (R10 none none none none none none none none none none) zN zN zN zN zN zN) := ⟨fun c d e e' hc => (by rw [RZ] at hc; cases hc), fun c e hc => (by rw [RZ] at hc; cases hc), fun q e hq => (by cases hq)⟩
  generalize ((n, fun _ => none) : DSt) = st at h0 ⊢
  generalize ((fun _ => 0) : Nat → Nat) = ad at h0
  have h1 := h0.new (c := 0) rfl (.inr (4, [DR none, DR none, DR none, DI 0, DI 0, DI 0, DI 0, DR none, DR none, DR none, DR none]))
  rw [reg_u0 (by omega), R10_u0] at h1
  obtain ⟨s2, ad2, e2, g2, a2, h2⟩ := init_class h1 (va_up_s _ _ _)
  obtain ⟨s3, e3, h3⟩ := build_ok xs hL h2
  rw [a2] at e3 h3
  obtain ⟨b, g1, y, rfl, g3⟩ := dli_run (fL_law_L22 xs L st s2.1) (fun k z => z.2 = nI k ∧ WV st.1 s2.1 (300 + 5 * (k : Int)) z.1) (fun b => ∃ y, b = .inl y ∧ WV st.1 s2.1 500 y.1) 40 41 (by omega) (fun k z hk hz => by
    obtain ⟨z1, z2⟩ := z
    obtain ⟨hz1, hz2⟩ := hz
    dsimp only at hz1 hz2
    subst hz1
    by_cases c : k = 40
    · subst c
      refine Or.inr ⟨.inl (z1, nI 40), ?_, _, rfl, hz2⟩
      unfold fL_law_L22
      exact if_pos (Int32.le_refl _)
    · obtain ⟨s4, e4, h4⟩ := w_22 xs hL hz2 rfl (show k < 40 by omega) (by omega)
      refine Or.inl ⟨_, e4, by omega, nI_1 k, ?_⟩
      rw [show (300 + 5 * ((k + 1 : Nat) : Int)) = 300 + 5 * (k : Int) + 5 by omega]
      exact h4) (s3, 0) ⟨rfl, by
      show WV st.1 s2.1 (300 + 5 * ((0 : Nat) : Int)) s3
      exact h3⟩
  obtain ⟨day, nb, ns, nx, gB, wB, cB, sS, bX, hI, hR⟩ := g3
  obtain ⟨s5, e5, -⟩ := same_ok hI hR
  obtain ⟨ad5, f6, f7, g8, g9, w0, w10, h5⟩ := hI
  have o5 := z_oR h5
  rw [w10] at o5
  refine ⟨s5, ?_⟩
  unfold fL_law
  rw [ob_of _ (rfl : some (nC st (.inr (4, [DR none, DR none, DR none, DI 0, DI 0, DI 0, DI 0, DR none, DR none, DR none, DR none]))) = some (nC st (.inr (4, [DR none, DR none, DR none, DI 0, DI 0, DI 0, DI 0, DR none, DR none, DR none, DR none])))), ob_of _ e2, ob_of _ e3]
  show (oB (dl_it (fL_law_L22 xs L st s2.1) 41 (s3, 0)) _) = _
  rw [ob_of _ g1]
  dsimp only
  rw [ob_of _ o5, ob_of _ e5]
  rfl
