/-! THE CALLS THAT ALLOCATE -/
theorem NH.mk {st : DSt} {ad : Nat → Nat} {ct : Nat → Option DCel} {c : Nat} (h : NH st ad ct) (hc : ct c = none) (e : DCel) : ∃ s1, nC st e = s1 ∧ NH s1 (va_up ad c st.1) (va_up ct c (some e)) := ⟨_, rfl, h.new hc e⟩
theorem pV_ex {st : DSt} {ad : Nat → Nat} {ct : Nat → Option DCel} {c a ci : Nat} {fs : List DV} (h : NH st ad ct) (hc : ct c = some (.inr (ci, fs))) (ha : ad c = a) (k : Nat) (v : DV) (hk : k < fs.length) : ∃ s', pV st (some a) ci k v = some s' ∧ NH s' ad (va_up ct c (some (.inr (ci, fs.set k v)))) := by
  subst ha
  exact ⟨_, l_pV h hc k v hk, h.set hc _⟩
theorem nR_same {ad ad' : Nat → Nat} {b n : Nat} (h : ∀ i, i < n → ad' (b + i) = ad (b + i)) : nR ad' b n = nR ad b n := by
  funext i
  unfold nR
  by_cases hi : i < n
  · rw [if_pos hi, if_pos hi, h i hi]
  · rw [if_neg hi, if_neg hi]
theorem nR_new {ad ad' : Nat → Nat} {b n x : Nat} (h : ∀ i, i < n → ad' (b + i) = ad (b + i)) (hx : ad' (b + n) = x) : nR ad' b (n + 1) = va_up (nR ad b n) n (some x) := by
  funext i
  by_cases e : i = n
  · rw [e, va_up_s]
    unfold nR
    rw [if_pos (by omega), hx]
  · rw [va_up_n _ _ e]
    unfold nR
    by_cases hi : i < n
    · rw [if_pos hi, if_pos (by omega), h i hi]
    · rw [if_neg hi, if_neg (by omega)]
theorem T0_new {ad ad' : Nat → Nat} {day : Int32} {nb ns nx : Nat} {f6 f7 g8 g9 : Nat → Int32} {gb gs gx : Nat → Option Nat} (a : ∀ c, c < 20 → ad' c = ad c) (hB : nR ad' 20 nb = gb) (hS : nR ad' 60 ns = gs) (hX : nR ad' 50 nx = gx) : T0 ad' day nb ns nx f6 f7 g8 g9 = R10 (some (O4 ad day nb ns nx)) (some (ARO 2 5 gb)) (some (ARO 3 8 gs)) (some (ARO 4 6 gx)) (some (OC (ad 6))) (some (OC (ad 7))) (some (ARR 6 f6)) (some (ARR 6 f7)) (some (ARR 6 g8)) (some (.inl (1, (8, .inl g9)))) := by
  unfold T0
  rw [hB, hS, hX]
  unfold O4 OC
  rw [a 1 (by decide), a 2 (by decide), a 3 (by decide), a 4 (by decide), a 5 (by decide), a 6 (by decide), a 7 (by decide), a 8 (by decide), a 9 (by decide)]
theorem T2_same {ad ad' : Nat → Nat} {nb : Nat} {gB wB : Nat → Int32} (h : ∀ i, i < nb → ad' (30 + i) = ad (30 + i)) : T2 ad' nb gB wB = T2 ad nb gB wB := by
  funext i
  unfold T2
  by_cases hi : i < nb
  · rw [if_pos hi, if_pos hi]
    unfold OB
    rw [h i hi]
  · rw [if_neg hi, if_neg hi]
theorem T3_same {ad ad' : Nat → Nat} {nb : Nat} (h : ∀ i, i < nb → ad' (40 + i) = ad (40 + i)) : T3 ad' nb = T3 ad nb := by
  funext i
  unfold T3
  by_cases hi : i < nb
  · rw [if_pos hi, if_pos hi, h i hi]
  · rw [if_neg hi, if_neg hi]
theorem MQT_same {ad ad' : Nat → Nat} {l : Nat → Int64} {thr day : Int32} {nb ns nx : Nat} {mB mS mX k15 k16 t17 t18 : Nat → Int32} (a : ∀ c, c < 20 → ad' c = ad c) : (MQT (ad') l thr day nb ns nx mB mS mX k15 k16 t17 t18) = (MQT ad l thr day nb ns nx mB mS mX k15 k16 t17 t18) := by
  unfold MQT OM
  rw [a 12 (by decide), a 13 (by decide), a 14 (by decide), a 15 (by decide), a 16 (by decide), a 17 (by decide), a 18 (by decide)]
theorem T2_new {ad ad' : Nat → Nat} {nb x : Nat} {gB wB : Nat → Int32} {g w : Int32} (h : ∀ i, i < nb → ad' (30 + i) = ad (30 + i)) (hx : ad' (30 + nb) = x) : va_up (T2 ad nb gB wB) nb (some (.inr (0, [DR (some x), DI g, DI w]))) = T2 ad' (nb + 1) (upd gB nb g) (upd wB nb w) := by
  refine up2_eq _ _ _ _ ?_ fun j hj => ?_
  · unfold T2
    rw [if_pos (by omega), upd_s, upd_s]
    unfold OB
    rw [hx]
  · unfold T2
    by_cases hi : j < nb
    · rw [if_pos hi, if_pos (by omega), upd_n _ _ hj, upd_n _ _ hj]
      unfold OB
      rw [h j hi]
    · rw [if_neg hi, if_neg (by omega)]
theorem T3_new {ad ad' : Nat → Nat} {nb x : Nat} (h : ∀ i, i < nb → ad' (40 + i) = ad (40 + i)) (hx : ad' (40 + nb) = x) : va_up (T3 ad nb) nb (some (.inr (2, [DR (some x)]))) = T3 ad' (nb + 1) := by
  refine up2_eq _ _ _ _ ?_ fun j hj => ?_
  · unfold T3
    rw [if_pos (by omega), hx]
  · unfold T3
    by_cases hi : j < nb
    · rw [if_pos hi, if_pos (by omega), h j hi]
    · rw [if_neg hi, if_neg (by omega)]
theorem T4_new {nb : Nat} {cB : Nat → Nat → Int32} {f : Nat → Int32} : va_up (T4 nb cB) nb (some (ARR 6 f)) = T4 (nb + 1) (va_up cB nb f) := by
  refine up2_eq _ _ _ _ ?_ fun j hj => ?_
  · unfold T4
    rw [if_pos (by omega), va_up_s]
  · unfold T4
    by_cases hi : j < nb
    · rw [if_pos hi, if_pos (by omega), va_up_n _ _ hj]
    · rw [if_neg hi, if_neg (by omega)]
theorem T5_new {nx : Nat} {bX : Nat → Nat → Int32} {x : Nat → Int32} : va_up (T5 nx bX) nx (some (OX x)) = T5 (nx + 1) (va_up bX nx x) := by
  refine up2_eq _ _ _ _ ?_ fun j hj => ?_
  · unfold T5
    rw [if_pos (by omega), va_up_s]
  · unfold T5
    by_cases hi : j < nx
    · rw [if_pos hi, if_pos (by omega), va_up_n _ _ hj]
    · rw [if_neg hi, if_neg (by omega)]
theorem T6_new {ns : Nat} {sS : Nat → Nat → Int32} {x : Nat → Int32} : va_up (T6 ns sS) ns (some (OS x)) = T6 (ns + 1) (va_up sS ns x) := by
  refine up2_eq _ _ _ _ ?_ fun j hj => ?_
  · unfold T6
    rw [if_pos (by omega), va_up_s]
  · unfold T6
    by_cases hi : j < ns
    · rw [if_pos hi, if_pos (by omega), va_up_n _ _ hj]
    · rw [if_neg hi, if_neg (by omega)]
section NEWBOWL
variable {st : DSt} {ad : Nat → Nat} {day : Int32} {nb ns nx : Nat} {gB wB : Nat → Int32} {cB sS bX : Nat → Nat → Int32} {f6 f7 g8 g9 : Nat → Int32} {Q : Nat → Option DCel} {i : Nat} {p : Int32}
theorem c_newBowl (h : NH st ad (CT ad day nb ns nx gB wB cB sS bX f6 f7 g8 g9 Q)) (hb : nb < 5) (hs : ns ≤ 8) (hx : nx ≤ 6) {g : Int32} (g1 : ¬ g < 0) (g2 : g ≤ 2000) : ∃ st' ad', fX4_bowl st (ad 0) g = some (.inr (nI nb, st')) ∧ (∀ c, c < 20 → ad' c = ad c) ∧ NH st' ad' (CT (ad') day (nb + 1) ns nx (upd gB nb g) (upd wB nb 20) (va_up cB nb (fun _ => 0)) sS bX f6 f7 g8 g9 Q) := by
  obtain ⟨s1, n1, h1⟩ := h.mk (c := 20 + nb) ((reg_2 (by omega)).trans (if_neg (by omega))) (.inr (0, [DR none, DI 0, DI 0]))
  unfold CT at h1
  rw [reg_u2 (by omega)] at h1
  obtain ⟨s2, n2, h2⟩ := h1.mk (c := 30 + nb) ((reg_3 (by omega)).trans (if_neg (by omega))) (.inr (2, [DR none]))
  rw [reg_u3 (by omega)] at h2
  obtain ⟨s3, n3, h3⟩ := h2.mk (c := 40 + nb) ((reg_4 (by omega)).trans (if_neg (by omega))) (.inl (0, nI0 6))
  rw [reg_u4 (by omega)] at h3
  have hA : ∀ c, c < 20 ∨ (50 ≤ c) → va_up (va_up (va_up ad (20 + nb) st.1) (30 + nb) s1.1) (40 + nb) s2.1 c = ad c := fun c hc => by
    rw [va_up_n _ _ (by omega), va_up_n _ _ (by omega), va_up_n _ _ (by omega)]
  have a20 : va_up (va_up (va_up ad (20 + nb) st.1) (30 + nb) s1.1) (40 + nb) s2.1 (20 + nb) = st.1 := by
    rw [va_up_n _ _ (by omega), va_up_n _ _ (by omega), va_up_s]
  have a30 : va_up (va_up (va_up ad (20 + nb) st.1) (30 + nb) s1.1) (40 + nb) s2.1 (30 + nb) = s1.1 := by
    rw [va_up_n _ _ (by omega), va_up_s]
  have a40 : va_up (va_up (va_up ad (20 + nb) st.1) (30 + nb) s1.1) (40 + nb) s2.1 (40 + nb) = s2.1 := va_up_s _ _ _
  have hL : ∀ b i, (b = 20 ∨ b = 30 ∨ b = 40) → i < nb → va_up (va_up (va_up ad (20 + nb) st.1) (30 + nb) s1.1) (40 + nb) s2.1 (b + i) = ad (b + i) := fun b i hb' hi => by
    rw [va_up_n _ _ (by omega), va_up_n _ _ (by omega), va_up_n _ _ (by omega)]
  generalize va_up (va_up (va_up ad (20 + nb) st.1) (30 + nb) s1.1) (40 + nb) s2.1 = ad' at h3 hA a20 a30 a40 hL
  obtain ⟨s4, e4, h4⟩ := pV_ex h3 (c := 30 + nb) ((reg_3 (by omega)).trans (va_up_s _ _ _)) a30 0 (DR (some s2.1)) (by show 0 < 1; decide)
  rw [reg_u3 (by omega), bx_uu] at h4
  obtain ⟨s5, e5, h5⟩ := pV_ex h4 (c := 20 + nb) ((reg_2 (by omega)).trans (va_up_s _ _ _)) a20 0 (DR (some s1.1)) (by show 0 < 3; decide)
  rw [reg_u2 (by omega), bx_uu] at h5
  obtain ⟨s6, e6, h6⟩ := pV_ex h5 (c := 20 + nb) ((reg_2 (by omega)).trans (va_up_s _ _ _)) a20 1 (DI g) (by show 1 < 3; decide)
  rw [reg_u2 (by omega), bx_uu] at h6
  obtain ⟨s7, e7, h7⟩ := pV_ex h6 (c := 20 + nb) ((reg_2 (by omega)).trans (va_up_s _ _ _)) a20 2 (DI 20) (by show 2 < 3; decide)
  rw [reg_u2 (by omega), bx_uu] at h7
  have e8 := l_sR (c := 1) (n := 5) (g := nR ad 20 nb) (kd := 2) (i := nI nb) (v := some st.1) (ci := 0) h7 rfl nb rfl (by omega) (by omega) (by
    rw [← a20]
    exact okR_of h7 ((reg_2 (by omega)).trans (va_up_s _ _ _)))
  have h8 := h7.set (c := 1) rfl (ARO 2 5 (va_up (nR ad 20 nb) nb (some st.1)))
  rw [reg_u0 (by omega)] at h8
  unfold T0 at h8
  rw [R10_u1] at h8
  obtain ⟨s9, e9, h9⟩ := pV_ex h8 (c := 0) rfl (hA 0 (by omega)) 3 (DI (nI nb + 1)) (by show 3 < 11; decide)
  rw [reg_u0 (by omega), R10_u0] at h9
  rw [hA 1 (by omega)] at e8 e9
  have h9 : NH s9 ad' (CT (ad') day (nb + 1) ns nx (upd gB nb g) (upd wB nb 20) (va_up cB nb (fun _ => 0)) sS bX f6 f7 g8 g9 Q) := by
    unfold CT
    rw [T0_new (fun c hc => hA c (by omega)) (nR_new (fun i hi => hL 20 i (by omega) hi) a20) (nR_same fun i hi => hA _ (by omega)) (nR_same fun i hi => hA _ (by omega)), ← T2_new (fun i hi => hL 30 i (by omega) hi) a30, ← T3_new (fun i hi => hL 40 i (by omega) hi) a40, ← T4_new]
    rw [nI_1] at h9
    exact h9
  refine ⟨s9, ad', ?_, fun c hc => hA c (by omega), h9⟩
  unfold fX4_bowl
  rw [if_neg g1, if_pos g2, ob_of _ (q_nb h), if_pos (show nI nb < 5 from nI_lt (b := 5) hb (by omega)), ob_of _ (q_rb h), ob_of _ (congrArg some n1)]
  have ei : fX0_init s1 st.1 g = some s7 := by
    unfold fX0_init
    rw [ob_of _ (congrArg some n2)]
    have ec : fX2_init s2 s1.1 = some s4 := by
      unfold fX2_init
      rw [ob_of _ (congrArg some n3), ob_of _ e4]
    rw [ob_of _ ec, ob_of _ e5, ob_of _ e6, ob_of _ e7]
  rw [ob_of _ ei, ob_of _ e8, ob_of _ e9]
theorem c_newBox (h : NH st ad (CT ad day nb ns nx gB wB cB sS bX f6 f7 g8 g9 Q)) (hb : nb ≤ 5) (hs : ns ≤ 8) (hx : nx < 6) {a b : Int32} (a1 : ¬ a < 1) (a2 : ¬ 36 < a) (b1 : ¬ b < 0) (b2 : b ≤ 100) : ∃ st' ad', fX4_box st (ad 0) a b = some (.inr (nI nx, st')) ∧ (∀ c, c < 20 → ad' c = ad c) ∧ NH st' ad' (CT (ad') day nb ns (nx + 1) gB wB cB sS (va_up bX nx (fun k => if k = 0 then a else if k = 1 then b else if k = 2 then 0 else -1)) f6 f7 g8 g9 Q) := by
  obtain ⟨s1, n1, h1⟩ := h.mk (c := 50 + nx) ((reg_5 (by omega)).trans (if_neg (by omega))) (.inr (1, [DI 0, DI 0, DI 0, DI 0, DI 0]))
  unfold CT at h1
  rw [reg_u5 (by omega)] at h1
  have hA : ∀ c, c ≠ 50 + nx → va_up ad (50 + nx) st.1 c = ad c := fun c hc => va_up_n _ _ hc
  have a50 : va_up ad (50 + nx) st.1 (50 + nx) = st.1 := va_up_s _ _ _
  generalize va_up ad (50 + nx) st.1 = ad' at h1 hA a50
  obtain ⟨s2, e2, h2⟩ := pV_ex h1 (c := 50 + nx) ((reg_5 (by omega)).trans (va_up_s _ _ _)) a50 0 (DI a) (by show 0 < 5; decide)
  rw [reg_u5 (by omega), bx_uu] at h2
  obtain ⟨s3, e3, h3⟩ := pV_ex h2 (c := 50 + nx) ((reg_5 (by omega)).trans (va_up_s _ _ _)) a50 1 (DI b) (by show 1 < 5; decide)
  rw [reg_u5 (by omega), bx_uu] at h3
  obtain ⟨s4, e4, h4⟩ := pV_ex h3 (c := 50 + nx) ((reg_5 (by omega)).trans (va_up_s _ _ _)) a50 3 (DI (-1)) (by show 3 < 5; decide)
  rw [reg_u5 (by omega), bx_uu] at h4
  obtain ⟨s5, e5, h5⟩ := pV_ex h4 (c := 50 + nx) ((reg_5 (by omega)).trans (va_up_s _ _ _)) a50 4 (DI (-1)) (by show 4 < 5; decide)
  rw [reg_u5 (by omega), bx_uu] at h5
  have e8 := l_sR (c := 3) (n := 6) (g := nR ad 50 nx) (kd := 4) (i := nI nx) (v := some st.1) (ci := 1) h5 rfl nx rfl (by omega) (by omega) (by
    rw [← a50]
    exact okR_of h5 ((reg_5 (by omega)).trans (va_up_s _ _ _)))
  have h8 := h5.set (c := 3) rfl (ARO 4 6 (va_up (nR ad 50 nx) nx (some st.1)))
  rw [reg_u0 (by omega)] at h8
  unfold T0 at h8
  rw [R10_u3] at h8
  obtain ⟨s9, e9, h9⟩ := pV_ex h8 (c := 0) rfl (hA 0 (by omega)) 5 (DI (nI nx + 1)) (by show 5 < 11; decide)
  rw [reg_u0 (by omega), R10_u0] at h9
  rw [hA 3 (by omega)] at e8 e9
  have h9 : NH s9 ad' (CT (ad') day nb ns (nx + 1) gB wB cB sS (va_up bX nx (fun k => if k = 0 then a else if k = 1 then b else if k = 2 then 0 else -1)) f6 f7 g8 g9 Q) := by
    unfold CT
    rw [T0_new (fun c hc => hA c (by omega)) (nR_same fun i hi => hA _ (by omega)) (nR_same fun i hi => hA _ (by omega)) (nR_new (fun i hi => hA _ (by omega)) a50), T2_same (fun i hi => hA _ (by omega)), T3_same (fun i hi => hA _ (by omega)), ← T5_new]
    rw [nI_1] at h9
    exact h9
  refine ⟨s9, ad', ?_, fun c hc => hA c (by omega), h9⟩
  unfold fX4_box
  rw [if_neg a1, if_neg a2, if_neg b1, if_pos b2, ob_of _ (q_nx h), if_pos (show nI nx < 6 from nI_lt (b := 6) hx (by omega)), ob_of _ (q_rx h), ob_of _ (congrArg some n1)]
  have ei : fX1_init s1 st.1 a b = some s5 := by
    unfold fX1_init
    rw [ob_of _ e2, ob_of _ e3, ob_of _ e4, ob_of _ e5]
  rw [ob_of _ ei, ob_of _ e8, ob_of _ e9]
/-- a slab that lies in the heap and in no row yet -/
theorem c_addSlab {a : Nat} {x : Nat → Int32} (h : NH st (va_up ad (60 + ns) a) (reg (T0 ad day nb ns nx f6 f7 g8 g9) Q (T2 ad nb gB wB) (T3 ad nb) (T4 nb cB) (T5 nx bX) (va_up (T6 ns sS) ns (some (OS x))))) (hb : nb ≤ 5) (hs : ns < 8) (hx : nx ≤ 6) : ∃ st', fX4_addSlab st (ad 0) (some a) = some (.inr (nI ns, st')) ∧ (∀ c, c < 20 → va_up ad (60 + ns) a c = ad c) ∧ va_up ad (60 + ns) a (60 + ns) = a ∧ (∀ i, i < nb → va_up ad (60 + ns) a (20 + i) = ad (20 + i)) ∧ (∀ i, i < ns → va_up ad (60 + ns) a (60 + i) = ad (60 + i)) ∧ NH st' (va_up ad (60 + ns) a) (CT (va_up ad (60 + ns) a) day nb (ns + 1) nx gB wB cB (va_up sS ns x) bX f6 f7 g8 g9 Q) := by
  have hA : ∀ c, c ≠ 60 + ns → va_up ad (60 + ns) a c = ad c := fun c hc => va_up_n _ _ hc
  have a60 : va_up ad (60 + ns) a (60 + ns) = a := va_up_s _ _ _
  generalize va_up ad (60 + ns) a = ad' at h hA a60
  have e1 : gI st (some (ad 0)) 4 4 = some (nI ns) := by rw [← hA 0 (by omega)]; exact l_gI (c := 0) h rfl 4 rfl
  have e2 : gR st (some (ad 0)) 4 1 = some (some (ad 2)) := by rw [← hA 0 (by omega)]; exact l_gR (c := 0) h rfl 1 rfl
  have e8 := l_sR (c := 2) (n := 8) (g := nR ad 60 ns) (kd := 3) (i := nI ns) (v := some a) (ci := 3) h rfl ns rfl (by omega) (by omega) (by
    rw [← a60]
    exact okR_of h (reg_6.trans (va_up_s _ _ _)))
  have h8 := h.set (c := 2) rfl (ARO 3 8 (va_up (nR ad 60 ns) ns (some a)))
  rw [reg_u0 (by omega)] at h8
  unfold T0 at h8
  rw [R10_u2] at h8
  obtain ⟨s9, e9, h9⟩ := pV_ex h8 (c := 0) rfl (hA 0 (by omega)) 4 (DI (nI ns + 1)) (by show 4 < 11; decide)
  rw [reg_u0 (by omega), R10_u0] at h9
  rw [hA 2 (by omega)] at e8 e9
  have h9 : NH s9 ad' (CT (ad') day nb (ns + 1) nx gB wB cB (va_up sS ns x) bX f6 f7 g8 g9 Q) := by
    unfold CT
    rw [T0_new (fun c hc => hA c (by omega)) (nR_same fun i hi => hA _ (by omega)) (nR_new (fun i hi => hA _ (by omega)) a60) (nR_same fun i hi => hA _ (by omega)), T2_same (fun i hi => hA _ (by omega)), T3_same (fun i hi => hA _ (by omega)), ← T6_new]
    rw [nI_1] at h9
    exact h9
  refine ⟨s9, ?_, fun c hc => hA c (by omega), a60, fun i hi => hA _ (by omega), fun i hi => hA _ (by omega), h9⟩
  unfold fX4_addSlab
  rw [ob_of _ e1, if_pos (show nI ns < 8 from nI_lt (b := 8) hs (by omega)), ob_of _ e2, ob_of _ e8, ob_of _ e9]
theorem c_noSlab {a : Nat} {x : DCel} (h : NH st (va_up ad (60 + ns) a) (reg (T0 ad day nb ns nx f6 f7 g8 g9) Q (T2 ad nb gB wB) (T3 ad nb) (T4 nb cB) (T5 nx bX) (va_up (T6 ns sS) ns (some x)))) : NH st ad (CT ad day nb ns nx gB wB cB sS bX f6 f7 g8 g9 Q) := by
  rw [← reg_u6] at h
  have h1 : NH st (va_up ad (60 + ns) a) (CT ad day nb ns nx gB wB cB sS bX f6 f7 g8 g9 Q) := h.drop fun d e hd => by
    rw [va_up_n _ _ (fun q => by rw [q] at hd; rw [show (CT ad day nb ns nx gB wB cB sS bX f6 f7 g8 g9 Q) (60 + ns) = none from c_s0 (Nat.le_refl _)] at hd; cases hd)]
    exact hd
  exact h1.adr fun d e hd => (va_up_n _ _ (fun q => by rw [q] at hd; rw [show (CT ad day nb ns nx gB wB cB sS bX f6 f7 g8 g9 Q) (60 + ns) = none from c_s0 (Nat.le_refl _)] at hd; cases hd)).symm
theorem c_addFull (h : NH st ad (CT ad day nb ns nx gB wB cB sS bX f6 f7 g8 g9 Q)) (hs : ns = 8) (o : Option Nat) : fX4_addSlab st (ad 0) o = some (.inl ("java/lang/IllegalStateException", st.2)) := by
  unfold fX4_addSlab
  rw [ob_of _ (q_ns h), if_neg (show ¬ nI ns < 8 by rw [hs]; decide)]
end NEWBOWL
