/-! THE LAW'S OWN PICTURE: what is made, what comes into a slot -/
theorem l_sRA {st : DSt} {ad : Nat → Nat} {ct : Nat → Option DCel} {c n m d : Nat} {g : Nat → Option Nat} {f : Nat → Int32} (h : NH st ad ct) (hc : ct c = some (ARO 6 n g)) {i : Int32} (k : Nat) (hi : i = nI k) (hk : k < n) (hn : n < 2 ^ 31) (hd : ct d = some (.inl (0, (m, .inl f)))) : sRA st (some (ad c)) 6 i (some (ad d)) = some (setN st (ad c) (ARO 6 n (va_up g k (some (ad d))))) := by
  subst hi
  unfold sRA
  rw [l_gAR h hc, l_gAI h hd]
  show (if inA (nI k) n = true then some (st.1, va_up st.2 (ad c) (some (ARO 6 n (va_up g (nI k).toNatClampNeg (some (ad d)))))) else none) = _
  rw [if_pos (inA_nI hk hn), nI_clamp (by omega)]
  rfl
theorem nQ_ok {st : DSt} {n : Int32} {m cap kd : Nat} (hn : n = nI m) (hm : m ≤ cap) (hc : cap < 1000) : nQ st n cap kd = some (nC st (ARO kd m (fun _ => none))) := by
  subst hn
  unfold nQ
  rw [nI_clamp (by omega), if_pos ⟨nI_pos (by omega), hm⟩]
  rfl
theorem S5_new {n : Nat} {f : Nat → Nat → Int32} {x : Nat → Int32} : va_up (S5 n f) n (some (ARR 5 x)) = S5 (n + 1) (va_up f n x) := by
  refine up2_eq _ _ _ _ ?_ fun j hj => ?_
  · unfold S5
    rw [if_pos (by omega), va_up_s]
  · unfold S5
    by_cases hi : j < n
    · rw [if_pos hi, if_pos (by omega), va_up_n _ _ hj]
    · rw [if_neg hi, if_neg (by omega)]
theorem S5_ext {n : Nat} {f g : Nat → Nat → Int32} (h : ∀ i, i < n → f i = g i) : S5 n f = S5 n g := by
  funext i
  unfold S5
  by_cases hi : i < n
  · rw [if_pos hi, if_pos hi, h i hi]
  · rw [if_neg hi, if_neg hi]
theorem SB_new {ad : Nat → Nat} {mb x : Nat} {hB vB : Nat → Int32} {g w : Int32} (hx : ad (110 + mb) = x) : va_up (SB ad mb hB vB) mb (some (.inr (5, [DI g, DI w, DR (some x)]))) = SB ad (mb + 1) (upd hB mb g) (upd vB mb w) := by
  refine up2_eq _ _ _ _ ?_ fun j hj => ?_
  · unfold SB
    rw [if_pos (by omega), upd_s, upd_s]
    unfold OLB
    rw [hx]
  · unfold SB
    by_cases hi : j < mb
    · rw [if_pos hi, if_pos (by omega), upd_n _ _ hj, upd_n _ _ hj]
    · rw [if_neg hi, if_neg (by omega)]
section SNEW
variable {st : DSt} {ad : Nat → Nat} {day : Int32} {nb ns nx : Nat} {gB wB : Nat → Int32} {cB sS bX : Nat → Nat → Int32} {f6 f7 g8 g9 : Nat → Int32} {Q : Nat → Option DCel} {dy : Int32} {lb ls lx mb ms mx : Nat} {hB vB : Nat → Int32} {dB tS yX : Nat → Nat → Int32} {e4 e5 : Option DCel} {i k : Nat} {p : Int32}
theorem z_set4R {kd n ci : Nat} {g : Nat → Option Nat} {v : Option Nat} (h : NH st ad (CT ad day nb ns nx gB wB cB sS bX f6 f7 g8 g9 ((SQ ad dy lb ls lx mb ms mx hB vB dB tS yX (some (ARO kd n g)) e5)))) (hp : p = nI k) (hk : k < n) (hn : n < 100) (hv : okR st v ci = true) : ∃ st', sR st (some (ad 14)) kd ci p v = some st' ∧ NH st' ad (CT ad day nb ns nx gB wB cB sS bX f6 f7 g8 g9 ((SQ ad dy lb ls lx mb ms mx hB vB dB tS yX (some (ARO kd n (va_up g k v))) e5))) := ⟨_, l_sR (c := 14) h z_14 k hp hk (by omega) hv, by
  have q := h.set (c := 14) z_14 (ARO kd n (va_up g k v))
  rw [z_up4] at q
  exact q⟩
theorem z_set4A {n d m : Nat} {g : Nat → Option Nat} {f : Nat → Int32} (h : NH st ad (CT ad day nb ns nx gB wB cB sS bX f6 f7 g8 g9 ((SQ ad dy lb ls lx mb ms mx hB vB dB tS yX (some (ARO 6 n g)) e5)))) (hp : p = nI k) (hk : k < n) (hn : n < 100) (hd : (CT ad day nb ns nx gB wB cB sS bX f6 f7 g8 g9 ((SQ ad dy lb ls lx mb ms mx hB vB dB tS yX (some (ARO 6 n g)) e5))) d = some (.inl (0, (m, .inl f)))) : ∃ st', sRA st (some (ad 14)) 6 p (some (ad d)) = some st' ∧ NH st' ad (CT ad day nb ns nx gB wB cB sS bX f6 f7 g8 g9 ((SQ ad dy lb ls lx mb ms mx hB vB dB tS yX (some (ARO 6 n (va_up g k (some (ad d))))) e5))) := ⟨_, l_sRA (c := 14) h z_14 k hp hk (by omega) hd, by
  have q := h.set (c := 14) z_14 (ARO 6 n (va_up g k (some (ad d))))
  rw [z_up4] at q
  exact q⟩
theorem z_get4 {kd n : Nat} {g : Nat → Option Nat} (h : NH st ad (CT ad day nb ns nx gB wB cB sS bX f6 f7 g8 g9 ((SQ ad dy lb ls lx mb ms mx hB vB dB tS yX (some (ARO kd n g)) e5)))) (hp : p = nI k) (hk : k < n) (hn : n < 100) : aR st (some (ad 14)) kd p = some (g k) := l_aR (c := 14) h z_14 k hp hk (by omega)
theorem z_len4 {kd n : Nat} {g : Nat → Option Nat} (h : NH st ad (CT ad day nb ns nx gB wB cB sS bX f6 f7 g8 g9 ((SQ ad dy lb ls lx mb ms mx hB vB dB tS yX (some (ARO kd n g)) e5)))) : aN st (some (ad 14)) kd = some (nI n) := l_aN (c := 14) h z_14
theorem u_S (hs : ns ≤ 8) (hm : ms < 10) {f : Nat → Int32} : va_up (CT ad day nb ns nx gB wB cB sS bX f6 f7 g8 g9 ((SQ ad dy lb ls lx mb ms mx hB vB dB tS yX e4 e5))) (130 + ms) (some (ARR 5 f)) = (CT ad day nb ns nx gB wB cB sS bX f6 f7 g8 g9 ((SQ ad dy lb ls lx mb (ms + 1) mx hB vB dB (va_up tS ms f) yX e4 e5))) := by
  rw [show 130 + ms = 100 + (30 + ms) by omega, uQ_hi hs, show 10 + (30 + ms) = 40 + ms by omega]
  unfold SQ
  rw [reg_u4 (by omega), S5_new]
theorem u_X (hs : ns ≤ 8) (hm : mx < 10) {f : Nat → Int32} : va_up (CT ad day nb ns nx gB wB cB sS bX f6 f7 g8 g9 ((SQ ad dy lb ls lx mb ms mx hB vB dB tS yX e4 e5))) (120 + mx) (some (ARR 5 f)) = (CT ad day nb ns nx gB wB cB sS bX f6 f7 g8 g9 ((SQ ad dy lb ls lx mb ms (mx + 1) hB vB dB tS (va_up yX mx f) e4 e5))) := by
  rw [show 120 + mx = 100 + (20 + mx) by omega, uQ_hi hs, show 10 + (20 + mx) = 30 + mx by omega]
  unfold SQ
  rw [reg_u3 (by omega), S5_new]
theorem z_newS (h : NH st ad (CT ad day nb ns nx gB wB cB sS bX f6 f7 g8 g9 ((SQ ad dy lb ls lx mb ms mx hB vB dB tS yX e4 e5)))) (hb : nb ≤ 5) (hs : ns ≤ 8) (hx : nx ≤ 6) (hm : ms < 8) (hmb : mb ≤ 5) (hlb : lb ≤ 5) (hls : ls ≤ ms) (hlx : lx ≤ 6) (f : Nat → Int32) : ∃ ad', (∀ c, c ≠ 130 + ms → ad' c = ad c) ∧ ad' (130 + ms) = st.1 ∧ NH (nC st (ARR 5 f)) ad' (CT (ad') day nb ns nx gB wB cB sS bX f6 f7 g8 g9 ((SQ (ad') dy lb ls lx mb (ms + 1) mx hB vB dB (va_up tS ms f) yX e4 e5))) := by
  have q := h.new (c := 130 + ms) (z_s0 (Nat.le_refl _) (by omega) hs) (ARR 5 f)
  rw [u_S hs (by omega)] at q
  have hA : ∀ c, c ≠ 130 + ms → va_up ad (130 + ms) st.1 c = ad c := fun c hc => va_up_n _ _ hc
  refine ⟨_, hA, va_up_s _ _ _, ?_⟩
  generalize va_up ad (130 + ms) st.1 = ad' at q hA
  rw [CT_ad (ad := ad) (fun c hc => hA c (by omega)) hb hs hx]
  have e : (SQ (ad') dy lb ls lx mb (ms + 1) mx hB vB dB (va_up tS ms f) yX e4 e5) = (SQ ad dy lb ls lx mb (ms + 1) mx hB vB dB (va_up tS ms f) yX e4 e5) := by
    unfold SQ S0 OSim
    rw [hA 11 (by omega), hA 12 (by omega), hA 13 (by omega), nR_same (ad := ad) (ad' := ad') (b := 100) fun i hi => hA _ (by omega), nR_same (ad := ad) (ad' := ad') (b := 130) fun i hi => hA _ (by omega), nR_same (ad := ad) (ad' := ad') (b := 120) fun i hi => hA _ (by omega), SB_same (ad := ad) (ad' := ad') fun i hi => hA _ (by omega)]
  rw [e]
  exact q
theorem z_newX (h : NH st ad (CT ad day nb ns nx gB wB cB sS bX f6 f7 g8 g9 ((SQ ad dy lb ls lx mb ms mx hB vB dB tS yX e4 e5)))) (hb : nb ≤ 5) (hs : ns ≤ 8) (hx : nx ≤ 6) (hm : mx < 6) (hmb : mb ≤ 5) (hlb : lb ≤ 5) (hls : ls ≤ 8) (hlx : lx ≤ mx) (f : Nat → Int32) : ∃ ad', (∀ c, c ≠ 120 + mx → ad' c = ad c) ∧ ad' (120 + mx) = st.1 ∧ NH (nC st (ARR 5 f)) ad' (CT (ad') day nb ns nx gB wB cB sS bX f6 f7 g8 g9 ((SQ (ad') dy lb ls lx mb ms (mx + 1) hB vB dB tS (va_up yX mx f) e4 e5))) := by
  have q := h.new (c := 120 + mx) (z_x0 (Nat.le_refl _) (by omega) hs) (ARR 5 f)
  rw [u_X hs (by omega)] at q
  have hA : ∀ c, c ≠ 120 + mx → va_up ad (120 + mx) st.1 c = ad c := fun c hc => va_up_n _ _ hc
  refine ⟨_, hA, va_up_s _ _ _, ?_⟩
  generalize va_up ad (120 + mx) st.1 = ad' at q hA
  rw [CT_ad (ad := ad) (fun c hc => hA c (by omega)) hb hs hx]
  have e : (SQ (ad') dy lb ls lx mb ms (mx + 1) hB vB dB tS (va_up yX mx f) e4 e5) = (SQ ad dy lb ls lx mb ms (mx + 1) hB vB dB tS (va_up yX mx f) e4 e5) := by
    unfold SQ S0 OSim
    rw [hA 11 (by omega), hA 12 (by omega), hA 13 (by omega), nR_same (ad := ad) (ad' := ad') (b := 100) fun i hi => hA _ (by omega), nR_same (ad := ad) (ad' := ad') (b := 130) fun i hi => hA _ (by omega), nR_same (ad := ad) (ad' := ad') (b := 120) fun i hi => hA _ (by omega), SB_same (ad := ad) (ad' := ad') fun i hi => hA _ (by omega)]
  rw [e]
  exact q
theorem u_C {r0 r1 q3 q4 q5 q6 : Nat → Option DCel} (hs : ns ≤ 8) (hm : mb < 10) {f : Nat → Int32} : va_up (CT ad day nb ns nx gB wB cB sS bX f6 f7 g8 g9 (reg r0 r1 (T4 mb dB) q3 q4 q5 q6)) (110 + mb) (some (ARR 6 f)) = (CT ad day nb ns nx gB wB cB sS bX f6 f7 g8 g9 (reg r0 r1 (T4 (mb + 1) (va_up dB mb f)) q3 q4 q5 q6)) := by
  rw [show 110 + mb = 100 + (10 + mb) by omega, uQ_hi hs, show 10 + (10 + mb) = 20 + mb by omega, reg_u2 (by omega), T4_new]
theorem z_newB (h : NH st ad (CT ad day nb ns nx gB wB cB sS bX f6 f7 g8 g9 ((SQ ad dy lb ls lx mb ms mx hB vB dB tS yX e4 e5)))) (hb : nb ≤ 5) (hs : ns ≤ 8) (hx : nx ≤ 6) (hm : mb < 5) (hlb : lb ≤ mb) (hls : ls ≤ 8) (hlx : lx ≤ 6) : ∃ st' ad', fX5_init (nC st (.inr (5, [DI 0, DI 0, DR none]))) st.1 = some st' ∧ ad' (100 + mb) = st.1 ∧ (∀ c, c ≠ 100 + mb → c ≠ 110 + mb → ad' c = ad c) ∧ NH st' ad' (CT (ad') day nb ns nx gB wB cB sS bX f6 f7 g8 g9 ((SQ (ad') dy lb ls lx (mb + 1) ms mx (upd hB mb 0) (upd vB mb 20) (va_up dB mb (fun _ => 0)) tS yX e4 e5))) := by
  obtain ⟨s1, n1, h1⟩ := h.mk (c := 100 + mb) (z_b0 (Nat.le_refl _) (by omega) hs) (.inr (5, [DI 0, DI 0, DR none]))
  rw [uQ_hi hs] at h1
  unfold SQ at h1
  rw [reg_u1 (by omega)] at h1
  have cB0 : ∀ {v : Option DCel} {q3 q4 q5 q6 : Nat → Option DCel}, CT ad day nb ns nx gB wB cB sS bX f6 f7 g8 g9 (reg (S0 ad dy lb ls lx e4 e5) (va_up (SB ad mb hB vB) mb v) (T4 mb dB) q3 q4 q5 q6) (110 + mb) = none := fun {v q3 q4 q5 q6} => by
    rw [show 110 + mb = 100 + (10 + mb) by omega, cQ_hi hs, show 10 + (10 + mb) = 20 + mb by omega]
    exact (reg_2 (by omega)).trans (if_neg (by omega))
  have cB1 : ∀ {v : Option DCel} {q2 q3 q4 q5 q6 : Nat → Option DCel}, CT ad day nb ns nx gB wB cB sS bX f6 f7 g8 g9 (reg (S0 ad dy lb ls lx e4 e5) (va_up (SB ad mb hB vB) mb v) q2 q3 q4 q5 q6) (100 + mb) = v := fun {v q2 q3 q4 q5 q6} => by
    rw [cQ_hi hs]
    exact (reg_1 (by omega)).trans (va_up_s _ _ _)
  have a1 : va_up ad (100 + mb) st.1 (100 + mb) = st.1 := va_up_s _ _ _
  obtain ⟨s2, e2, h2⟩ := pV_ex h1 (c := 100 + mb) cB1 a1 1 (DI 20) (by show 1 < 3; decide)
  rw [uQ_hi hs, reg_u1 (by omega), bx_uu] at h2
  obtain ⟨s3, n3, h3⟩ := h2.mk (c := 110 + mb) cB0 (.inl (0, nI0 6))
  have h3 := (show NH s3 _ (va_up _ (110 + mb) (some (ARR 6 (fun _ => 0)))) from h3)
  rw [u_C hs (by omega)] at h3
  have hA : ∀ c, c ≠ 100 + mb → c ≠ 110 + mb → va_up (va_up ad (100 + mb) st.1) (110 + mb) s2.1 c = ad c := fun c hc hd => by rw [va_up_n _ _ hd, va_up_n _ _ hc]
  have a2 : va_up (va_up ad (100 + mb) st.1) (110 + mb) s2.1 (100 + mb) = st.1 := by rw [va_up_n _ _ (by omega), va_up_s]
  have a3 : va_up (va_up ad (100 + mb) st.1) (110 + mb) s2.1 (110 + mb) = s2.1 := va_up_s _ _ _
  generalize va_up (va_up ad (100 + mb) st.1) (110 + mb) s2.1 = ad' at h3 hA a2 a3
  obtain ⟨s4, e4', h4⟩ := pV_ex h3 (c := 100 + mb) cB1 a2 2 (DR (some s2.1)) (by show 2 < 3; decide)
  rw [uQ_hi hs, reg_u1 (by omega), bx_uu] at h4
  refine ⟨s4, ad', ?_, a2, hA, ?_⟩
  · rw [n1]
    unfold fX5_init
    rw [ob_of _ e2, ob_of _ (congrArg some n3), ob_of _ e4']
  · rw [CT_ad (ad := ad) (fun c hc => hA c (by omega) (by omega)) hb hs hx]
    unfold SQ S0 OSim
    rw [hA 11 (by omega) (by omega), hA 12 (by omega) (by omega), hA 13 (by omega) (by omega), nR_same (ad := ad) (ad' := ad') (b := 100) fun i hi => hA _ (by omega) (by omega), nR_same (ad := ad) (ad' := ad') (b := 130) fun i hi => hA _ (by omega) (by omega), nR_same (ad := ad) (ad' := ad') (b := 120) fun i hi => hA _ (by omega) (by omega), ← SB_new a3, SB_same (ad := ad) (ad' := ad') fun i hi => hA _ (by omega) (by omega)]
    exact h4
/-! into the slot -/
theorem z_move2 {n : Nat} {e : Nat → Nat} (h : NH st ad (CT ad day nb ns nx gB wB cB sS bX f6 f7 g8 g9 ((SQ ad dy lb ls lx mb ms mx hB vB dB tS yX (some (ARO 6 n (fun j => if j < n then some (ad (130 + e j)) else none))) e5)))) (hb : nb ≤ 5) (hs : ns ≤ 8) (hx : nx ≤ 6) (hm : ms ≤ 8) (hn : n ≤ 8) (hmb : mb ≤ 5) (hlb : lb ≤ 5) (hlx : lx ≤ 6) (he : ∀ t, t < n → e t < ms) (hi : ∀ t t', t < n → t' < n → e t = e t' → t = t') : ∃ st' ad', pV st (some (ad 10)) 6 2 (DR (some (ad 14))) = some st' ∧ (∀ c, c ≠ 12 → (c < 130 ∨ 140 ≤ c) → ad' c = ad c) ∧ NH st' ad' (CT (ad') day nb ns nx gB wB cB sS bX f6 f7 g8 g9 ((SQ (ad') dy lb n lx mb n mx hB vB dB (fun t => tS (e t)) yX none e5))) := by
  have e1 := l_pV (c := 10) h rfl 2 (DR (some (ad 14))) (show (2 : Nat) < 4 by decide)
  have q := h.set (c := 10) rfl (.inr (6, [DI dy, DR (some (ad 11)), DR (some (ad 14)), DR (some (ad 13))]))
  rw [show (10 : Nat) = 10 + 0 from rfl, uQ_lo (by omega)] at q
  unfold SQ at q
  rw [reg_u0 (by omega)] at q
  unfold S0 at q
  rw [R10_u0] at q
  have m := q.move hb hs hx (s0 := 2) (by omega)
  rw [reg_0 (by omega), reg_u0 (by omega), R10_u2, reg_u0 (by omega), R10_u4] at m
  have p := m.permS hb hs hx hm hn he hi
  have hA : ∀ c, c ≠ 12 → (c < 130 ∨ 140 ≤ c) → rnS (va_up ad (10 + 2) (ad 14)) e c = ad c := fun c h1 h2 => by rw [rnS_o h2, va_up_n _ _ (by omega)]
  have a12 : rnS (va_up ad (10 + 2) (ad 14)) e 12 = ad 14 := by rw [rnS_o (by omega)]; exact va_up_s _ _ _
  have a130 : ∀ t, t < 10 → rnS (va_up ad (10 + 2) (ad 14)) e (130 + t) = ad (130 + e t) := fun t ht => by rw [rnS_i ht, va_up_n _ _ (by omega)]
  refine ⟨_, _, e1, hA, ?_⟩
  generalize rnS (va_up ad (10 + 2) (ad 14)) e = ad' at p hA a12 a130
  have hn' : nR ad' 130 n = fun j => if j < n then some (ad (130 + e j)) else none := by
    funext j
    unfold nR
    by_cases z : j < n
    · rw [if_pos z, if_pos z, a130 j (by omega)]
    · rw [if_neg z, if_neg z]
  unfold SQ S0 OSim
  rw [hA 11 (by omega) (by omega), a12, hA 13 (by omega) (by omega), nR_same (ad := ad) (ad' := ad') (b := 100) fun i hi => hA _ (by omega) (by omega), hn', nR_same (ad := ad) (ad' := ad') (b := 120) fun i hi => hA _ (by omega) (by omega), SB_same (ad := ad) (ad' := ad') fun i hi => hA _ (by omega) (by omega)]
  exact p
theorem z_move3 {n : Nat} (h : NH st ad (CT ad day nb ns nx gB wB cB sS bX f6 f7 g8 g9 ((SQ ad dy lb ls lx mb ms mx hB vB dB tS yX (some (ARO 6 n (fun j => if j < n then some (ad (120 + j)) else none))) e5)))) (hb : nb ≤ 5) (hs : ns ≤ 8) (hx : nx ≤ 6) : ∃ st' ad', pV st (some (ad 10)) 6 3 (DR (some (ad 14))) = some st' ∧ (∀ c, c ≠ 13 → ad' c = ad c) ∧ NH st' ad' (CT (ad') day nb ns nx gB wB cB sS bX f6 f7 g8 g9 ((SQ (ad') dy lb ls n mb ms mx hB vB dB tS yX none e5))) := by
  have e1 := l_pV (c := 10) h rfl 3 (DR (some (ad 14))) (show (3 : Nat) < 4 by decide)
  have q := h.set (c := 10) rfl (.inr (6, [DI dy, DR (some (ad 11)), DR (some (ad 12)), DR (some (ad 14))]))
  rw [show (10 : Nat) = 10 + 0 from rfl, uQ_lo (by omega)] at q
  unfold SQ at q
  rw [reg_u0 (by omega)] at q
  unfold S0 at q
  rw [R10_u0] at q
  have m := q.move hb hs hx (s0 := 3) (by omega)
  rw [reg_0 (by omega), reg_u0 (by omega), R10_u3, reg_u0 (by omega), R10_u4] at m
  have hA : ∀ c, c ≠ 13 → va_up ad (10 + 3) (ad 14) c = ad c := fun c h1 => va_up_n _ _ (by omega)
  have a13 : va_up ad (10 + 3) (ad 14) 13 = ad 14 := va_up_s _ _ _
  refine ⟨_, _, e1, hA, ?_⟩
  generalize va_up ad (10 + 3) (ad 14) = ad' at m hA a13
  have hn' : nR ad' 120 n = fun j => if j < n then some (ad (120 + j)) else none := by
    funext j
    unfold nR
    by_cases z : j < n
    · rw [if_pos z, if_pos z, hA _ (by omega)]
    · rw [if_neg z, if_neg z]
  unfold SQ S0 OSim
  rw [hA 11 (by omega), a13, hA 12 (by omega), nR_same (ad := ad) (ad' := ad') (b := 100) fun i hi => hA _ (by omega), hn', nR_same (ad := ad) (ad' := ad') (b := 130) fun i hi => hA _ (by omega), SB_same (ad := ad) (ad' := ad') fun i hi => hA _ (by omega)]
  exact m
theorem z_move1 {n : Nat} (h : NH st ad (CT ad day nb ns nx gB wB cB sS bX f6 f7 g8 g9 ((SQ ad dy lb ls lx mb ms mx hB vB dB tS yX (some (ARO 5 n (fun j => if j < n then some (ad (100 + j)) else none))) e5)))) (hb : nb ≤ 5) (hs : ns ≤ 8) (hx : nx ≤ 6) : ∃ st' ad', pV st (some (ad 10)) 6 1 (DR (some (ad 14))) = some st' ∧ (∀ c, c ≠ 11 → ad' c = ad c) ∧ ad' 11 = ad 14 ∧ NH st' ad' (CT (ad') day nb ns nx gB wB cB sS bX f6 f7 g8 g9 ((SQ (ad') dy n ls lx mb ms mx hB vB dB tS yX none e5))) := by
  have e1 := l_pV (c := 10) h rfl 1 (DR (some (ad 14))) (show (1 : Nat) < 4 by decide)
  have q := h.set (c := 10) rfl (.inr (6, [DI dy, DR (some (ad 14)), DR (some (ad 12)), DR (some (ad 13))]))
  rw [show (10 : Nat) = 10 + 0 from rfl, uQ_lo (by omega)] at q
  unfold SQ at q
  rw [reg_u0 (by omega)] at q
  unfold S0 at q
  rw [R10_u0] at q
  have m := q.move hb hs hx (s0 := 1) (by omega)
  rw [reg_0 (by omega), reg_u0 (by omega), R10_u1, reg_u0 (by omega), R10_u4] at m
  have hA : ∀ c, c ≠ 11 → va_up ad (10 + 1) (ad 14) c = ad c := fun c h1 => va_up_n _ _ (by omega)
  have a11 : va_up ad (10 + 1) (ad 14) 11 = ad 14 := va_up_s _ _ _
  refine ⟨_, _, e1, hA, a11, ?_⟩
  generalize va_up ad (10 + 1) (ad 14) = ad' at m hA a11
  have hn' : nR ad' 100 n = fun j => if j < n then some (ad (100 + j)) else none := by
    funext j
    unfold nR
    by_cases z : j < n
    · rw [if_pos z, if_pos z, hA _ (by omega)]
    · rw [if_neg z, if_neg z]
  unfold SQ S0 OSim
  rw [a11, hA 13 (by omega), hA 12 (by omega), hn', nR_same (ad := ad) (ad' := ad') (b := 120) fun i hi => hA _ (by omega), nR_same (ad := ad) (ad' := ad') (b := 130) fun i hi => hA _ (by omega), SB_same (ad := ad) (ad' := ad') fun i hi => hA _ (by omega)]
  exact m
theorem z_withS (h : NH st ad (CT ad day nb ns nx gB wB cB sS bX f6 f7 g8 g9 ((SQ ad dy lb ls lx mb ms mx hB vB dB tS yX none e5)))) (hb : nb ≤ 5) (hs : ns ≤ 8) (hx : nx ≤ 6) (hl : ls < ms) (hm : ms ≤ 8) : ∃ st' ad', fX6_with st (some (ad 12)) (some (ad (130 + ls))) = some (some (ad' 14), st') ∧ (∀ c, c ≠ 14 → ad' c = ad c) ∧ NH st' ad' (CT (ad') day nb ns nx gB wB cB sS bX f6 f7 g8 g9 ((SQ (ad') dy lb ls lx mb ms mx hB vB dB tS yX (some (ARO 6 (ls + 1) (fun j => if j < ls + 1 then some (ad' (130 + j)) else none))) e5))) := by
  obtain ⟨ad', hA, a14, h1⟩ := z_new4 h hb hs hx (ARO 6 (ls + 1) (fun _ => none))
  obtain ⟨b, g1, g2⟩ := dlp_run (fX6_with_L10 st (some (ad 12))) (fun k z => z.2 = nI k ∧ NH z.1 ad' (CT (ad') day nb ns nx gB wB cB sS bX f6 f7 g8 g9 ((SQ (ad') dy lb ls lx mb ms mx hB vB dB tS yX (some (ARO 6 (ls + 1) (fun j => if j < k then some (ad' (130 + j)) else none))) e5)))) (fun b => NH b.1 ad' (CT (ad') day nb ns nx gB wB cB sS bX f6 f7 g8 g9 ((SQ (ad') dy lb ls lx mb ms mx hB vB dB tS yX (some (ARO 6 (ls + 1) (fun j => if j < ls then some (ad' (130 + j)) else none))) e5)))) ls (fun k z hk hz => by
    obtain ⟨z1, z2⟩ := z
    obtain ⟨rfl, hz⟩ := hz
    dsimp only at hz
    unfold fX6_with_L10
    dsimp only
    rw [← hA 12 (by omega), ob_of _ (z_n2 hz)]
    by_cases h5 : k = ls
    · subst h5
      rw [if_pos (Int32.le_refl _)]
      exact Or.inr ⟨_, rfl, hz⟩
    · refine Or.inl ?_
      obtain ⟨s2, e2, h2⟩ := z_set4A hz (p := nI k) (k := k) (d := 130 + k) rfl (by omega) (by omega) (z_s (by omega) hm hs)
      rw [a14] at e2
      rw [if_neg (nI_ge (by omega) (by omega)), ob_of _ (z_a2 hz rfl (by omega) (by omega)), ob_of _ e2]
      refine ⟨_, rfl, by omega, nI_1 _, ?_⟩
      have eg : va_up (fun j => if j < k then some (ad' (130 + j)) else none) k (some (ad' (130 + k))) = fun j => if j < k + 1 then some (ad' (130 + j)) else none := by
        funext j
        by_cases j1 : j = k
        · rw [j1, va_up_s, if_pos (by omega)]
        · rw [va_up_n _ _ j1]
          by_cases j2 : j < k
          · rw [if_pos j2, if_pos (by omega)]
          · rw [if_neg j2, if_neg (by omega)]
      rw [eg] at h2
      exact h2) (nC st (ARO 6 (ls + 1) (fun _ => none)), 0) ⟨rfl, by
        have eg : (fun j => if j < 0 then some (ad' (130 + j)) else none) = (fun _ => none : Nat → Option Nat) := by
          funext j
          exact if_neg (by omega)
        dsimp only
        rw [eg]
        exact h1⟩
  obtain ⟨s3, e3, h3⟩ := z_set4A g2 (p := nI ls) (k := ls) (d := 130 + ls) rfl (by omega) (by omega) (z_s hl hm hs)
  rw [a14] at e3
  have eg : va_up (fun j => if j < ls then some (ad' (130 + j)) else none) ls (some (ad' (130 + ls))) = fun j => if j < ls + 1 then some (ad' (130 + j)) else none := by
    funext j
    by_cases j1 : j = ls
    · rw [j1, va_up_s, if_pos (by omega)]
    · rw [va_up_n _ _ j1]
      by_cases j2 : j < ls
      · rw [if_pos j2, if_pos (by omega)]
      · rw [if_neg j2, if_neg (by omega)]
  rw [eg] at h3
  refine ⟨s3, ad', ?_, hA, h3⟩
  unfold fX6_with
  have n2 := z_n2 g2
  rw [hA 12 (by omega)] at n2
  rw [hA (130 + ls) (by omega)] at e3
  rw [ob_of _ (z_n2 h), ob_of _ (nQ_ok (m := ls + 1) (nI_1 _) (by omega) (by omega)), ob_of _ g1, ob_of _ n2, ob_of _ e3, a14]
theorem z_withX (h : NH st ad (CT ad day nb ns nx gB wB cB sS bX f6 f7 g8 g9 ((SQ ad dy lb ls lx mb ms mx hB vB dB tS yX none e5)))) (hb : nb ≤ 5) (hs : ns ≤ 8) (hx : nx ≤ 6) (hl : lx < mx) (hm : mx ≤ 6) : ∃ st' ad', fX6_with st (some (ad 13)) (some (ad (120 + lx))) = some (some (ad' 14), st') ∧ (∀ c, c ≠ 14 → ad' c = ad c) ∧ NH st' ad' (CT (ad') day nb ns nx gB wB cB sS bX f6 f7 g8 g9 ((SQ (ad') dy lb ls lx mb ms mx hB vB dB tS yX (some (ARO 6 (lx + 1) (fun j => if j < lx + 1 then some (ad' (120 + j)) else none))) e5))) := by
  obtain ⟨ad', hA, a14, h1⟩ := z_new4 h hb hs hx (ARO 6 (lx + 1) (fun _ => none))
  obtain ⟨b, g1, g2⟩ := dlp_run (fX6_with_L10 st (some (ad 13))) (fun k z => z.2 = nI k ∧ NH z.1 ad' (CT (ad') day nb ns nx gB wB cB sS bX f6 f7 g8 g9 ((SQ (ad') dy lb ls lx mb ms mx hB vB dB tS yX (some (ARO 6 (lx + 1) (fun j => if j < k then some (ad' (120 + j)) else none))) e5)))) (fun b => NH b.1 ad' (CT (ad') day nb ns nx gB wB cB sS bX f6 f7 g8 g9 ((SQ (ad') dy lb ls lx mb ms mx hB vB dB tS yX (some (ARO 6 (lx + 1) (fun j => if j < lx then some (ad' (120 + j)) else none))) e5)))) lx (fun k z hk hz => by
    obtain ⟨z1, z2⟩ := z
    obtain ⟨rfl, hz⟩ := hz
    dsimp only at hz
    unfold fX6_with_L10
    dsimp only
    rw [← hA 13 (by omega), ob_of _ (z_n3 hz)]
    by_cases h5 : k = lx
    · subst h5
      rw [if_pos (Int32.le_refl _)]
      exact Or.inr ⟨_, rfl, hz⟩
    · refine Or.inl ?_
      obtain ⟨s2, e2, h2⟩ := z_set4A hz (p := nI k) (k := k) (d := 120 + k) rfl (by omega) (by omega) (z_x (by omega) hm hs)
      rw [a14] at e2
      rw [if_neg (nI_ge (by omega) (by omega)), ob_of _ (z_a3 hz rfl (by omega) (by omega)), ob_of _ e2]
      refine ⟨_, rfl, by omega, nI_1 _, ?_⟩
      have eg : va_up (fun j => if j < k then some (ad' (120 + j)) else none) k (some (ad' (120 + k))) = fun j => if j < k + 1 then some (ad' (120 + j)) else none := by
        funext j
        by_cases j1 : j = k
        · rw [j1, va_up_s, if_pos (by omega)]
        · rw [va_up_n _ _ j1]
          by_cases j2 : j < k
          · rw [if_pos j2, if_pos (by omega)]
          · rw [if_neg j2, if_neg (by omega)]
      rw [eg] at h2
      exact h2) (nC st (ARO 6 (lx + 1) (fun _ => none)), 0) ⟨rfl, by
        have eg : (fun j => if j < 0 then some (ad' (120 + j)) else none) = (fun _ => none : Nat → Option Nat) := by
          funext j
          exact if_neg (by omega)
        dsimp only
        rw [eg]
        exact h1⟩
  obtain ⟨s3, e3, h3⟩ := z_set4A g2 (p := nI lx) (k := lx) (d := 120 + lx) rfl (by omega) (by omega) (z_x hl hm hs)
  rw [a14] at e3
  have eg : va_up (fun j => if j < lx then some (ad' (120 + j)) else none) lx (some (ad' (120 + lx))) = fun j => if j < lx + 1 then some (ad' (120 + j)) else none := by
    funext j
    by_cases j1 : j = lx
    · rw [j1, va_up_s, if_pos (by omega)]
    · rw [va_up_n _ _ j1]
      by_cases j2 : j < lx
      · rw [if_pos j2, if_pos (by omega)]
      · rw [if_neg j2, if_neg (by omega)]
  rw [eg] at h3
  refine ⟨s3, ad', ?_, hA, h3⟩
  unfold fX6_with
  have n2 := z_n3 g2
  rw [hA 13 (by omega)] at n2
  rw [hA (120 + lx) (by omega)] at e3
  rw [ob_of _ (z_n3 h), ob_of _ (nQ_ok (m := lx + 1) (nI_1 _) (by omega) (by omega)), ob_of _ g1, ob_of _ n2, ob_of _ e3, a14]
theorem z_without (h : NH st ad (CT ad day nb ns nx gB wB cB sS bX f6 f7 g8 g9 ((SQ ad dy lb ls lx mb ms mx hB vB dB tS yX none e5)))) (hb : nb ≤ 5) (hs : ns ≤ 8) (hx : nx ≤ 6) (hl : ls ≤ ms) (hm : ms ≤ 8) (hi : i < ls) : ∃ st' ad', fX6_without st (some (ad 12)) (nI i) = some (some (ad' 14), st') ∧ (∀ c, c ≠ 14 → ad' c = ad c) ∧ NH st' ad' (CT (ad') day nb ns nx gB wB cB sS bX f6 f7 g8 g9 ((SQ (ad') dy lb ls lx mb ms mx hB vB dB tS yX (some (ARO 6 (ls - 1) (fun j => if j < ls - 1 then some (ad' (130 + (if j < i then j else j + 1))) else none))) e5))) := by
  obtain ⟨ad', hA, a14, h1⟩ := z_new4 h hb hs hx (ARO 6 (ls - 1) (fun _ => none))
  obtain ⟨b, g1, g2⟩ := dlp_run (fX6_without_L10 st (some (ad 12)) (nI i)) (fun k z => z.2 = nI k ∧ NH z.1 ad' (CT (ad') day nb ns nx gB wB cB sS bX f6 f7 g8 g9 ((SQ (ad') dy lb ls lx mb ms mx hB vB dB tS yX (some (ARO 6 (ls - 1) (fun j => if j < k then some (ad' (130 + (if j < i then j else j + 1))) else none))) e5)))) (fun b => NH b.1 ad' (CT (ad') day nb ns nx gB wB cB sS bX f6 f7 g8 g9 ((SQ (ad') dy lb ls lx mb ms mx hB vB dB tS yX (some (ARO 6 (ls - 1) (fun j => if j < ls - 1 then some (ad' (130 + (if j < i then j else j + 1))) else none))) e5)))) (ls - 1) (fun k z hk hz => by
    obtain ⟨z1, z2⟩ := z
    obtain ⟨rfl, hz⟩ := hz
    dsimp only at hz
    unfold fX6_without_L10
    dsimp only
    have n4 := z_len4 hz
    rw [a14] at n4
    rw [ob_of _ n4]
    by_cases h5 : k = ls - 1
    · subst h5
      rw [if_pos (Int32.le_refl _)]
      exact Or.inr ⟨_, rfl, hz⟩
    · refine Or.inl ?_
      have ej : (if nI i ≤ nI k then some (nI k + 1) else some (nI k)) = some (nI (if k < i then k else k + 1)) := by
        by_cases z : k < i
        · rw [if_neg (nI_ge (by omega) (by omega)), if_pos z]
        · rw [if_pos (by rw [i_le, i_nI (by omega), i_nI (by omega)]; omega), if_neg z, nI_1]
      have hlt : (if k < i then k else k + 1) < ls := by split <;> omega
      obtain ⟨s2, e2, h2⟩ := z_set4A hz (p := nI k) (k := k) (d := 130 + (if k < i then k else k + 1)) rfl (by omega) (by omega) (z_s (by omega) hm hs)
      rw [a14] at e2
      have e3 := z_a2 hz (p := nI (if k < i then k else k + 1)) rfl hlt (by omega)
      rw [hA 12 (by omega)] at e3
      rw [if_neg (nI_ge (by omega) (by omega)), ob_of _ ej, ob_of _ e3, ob_of _ e2]
      refine ⟨_, rfl, by omega, nI_1 _, ?_⟩
      have eg : va_up (fun j => if j < k then some (ad' (130 + (if j < i then j else j + 1))) else none) k (some (ad' (130 + (if k < i then k else k + 1)))) = fun j => if j < k + 1 then some (ad' (130 + (if j < i then j else j + 1))) else none := by
        funext j
        by_cases j1 : j = k
        · rw [j1, va_up_s, if_pos (show k < k + 1 by omega)]
        · rw [va_up_n _ _ j1]
          by_cases j2 : j < k
          · rw [if_pos j2, if_pos (show j < k + 1 by omega)]
          · rw [if_neg j2, if_neg (show ¬ j < k + 1 by omega)]
      rw [eg] at h2
      exact h2) (nC st (ARO 6 (ls - 1) (fun _ => none)), 0) ⟨rfl, by
        have eg : (fun j => if j < 0 then some (ad' (130 + (if j < i then j else j + 1))) else none) = (fun _ => none : Nat → Option Nat) := by
          funext j
          exact if_neg (by omega)
        dsimp only
        rw [eg]
        exact h1⟩
  refine ⟨b.1, ad', ?_, hA, g2⟩
  unfold fX6_without
  rw [ob_of _ (z_n2 h), ob_of _ (nQ_ok (m := ls - 1) (by obtain ⟨l, rfl⟩ : ∃ l, ls = l + 1 := ⟨ls - 1, by omega⟩; exact nI_pred l) (by omega) (by omega)), ob_of _ g1, a14]
end SNEW
