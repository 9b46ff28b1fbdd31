/-! THE LAW'S OWN PICTURE, in the free codes -/
def zN : Nat → Option DCel := fun _ => none
abbrev OSim (ad : Nat → Nat) (dy : Int32) : DCel := .inr (6, [DI dy, DR (some (ad 11)), DR (some (ad 12)), DR (some (ad 13))])
abbrev OLB (ad : Nat → Nat) (g w : Int32) (i : Nat) : DCel := .inr (5, [DI g, DI w, DR (some (ad (110 + i)))])
def SB (ad : Nat → Nat) (mb : Nat) (hB vB : Nat → Int32) (i : Nat) : Option DCel := if i < mb then some (OLB ad (hB i) (vB i) i) else none
def S5 (n : Nat) (f : Nat → Nat → Int32) (i : Nat) : Option DCel := if i < n then some (ARR 5 (f i)) else none
def S0 (ad : Nat → Nat) (dy : Int32) (lb ls lx : Nat) (e4 e5 : Option DCel) : Nat → Option DCel := R10 (some (OSim ad dy)) (some (ARO 5 lb (nR ad 100 lb))) (some (ARO 6 ls (nR ad 130 ls))) (some (ARO 6 lx (nR ad 120 lx))) e4 e5 none none none none
def SQ (ad : Nat → Nat) (dy : Int32) (lb ls lx mb ms mx : Nat) (hB vB : Nat → Int32) (dB tS yX : Nat → Nat → Int32) (e4 e5 : Option DCel) : Nat → Option DCel := reg (S0 ad dy lb ls lx e4 e5) (SB ad mb hB vB) (T4 mb dB) (S5 mx yX) (S5 ms tS) zN zN
theorem reg_qc {r0 q q' r2 r3 r4 r5 r6 : Nat → Option DCel} (h : ∀ k, k < 10 → q k = q' k) : reg r0 q r2 r3 r4 r5 r6 = reg r0 q' r2 r3 r4 r5 r6 := by
  funext d
  unfold reg
  exact ite_congr rfl (fun _ => rfl) fun h1 => ite_congr rfl (fun h2 => h _ (by omega)) fun _ => rfl
theorem T6_qc {ns : Nat} {sS : Nat → Nat → Int32} {Q Q' : Nat → Option DCel} (h : ∀ k, 10 ≤ k → Q k = Q' k) : T6 ns sS Q = T6 ns sS Q' := by
  funext j
  unfold T6
  exact ite_congr rfl (fun _ => rfl) fun _ => ite_congr rfl (fun _ => rfl) fun h2 => h _ (by omega)
def cdQ (k : Nat) : Nat := if k < 10 then 10 + k else 90 + k
theorem cdQ_in (k : Nat) : (10 ≤ cdQ k ∧ cdQ k < 20) ∨ 100 ≤ cdQ k := by
  unfold cdQ
  split <;> omega
theorem cdQ_inj {k l : Nat} (h : cdQ k = cdQ l) : k = l := by
  unfold cdQ at h
  split at h <;> split at h <;> omega
section QREAD
variable {st : DSt} {ad : Nat → Nat} {day : Int32} {nb ns nx : Nat} {gB wB : Nat → Int32} {cB sS bX : Nat → Nat → Int32} {f6 f7 g8 g9 : Nat → Int32} {Q : Nat → Option DCel} {k : Nat} {v : Option DCel}
theorem cQ_lo (hk : k < 10) : (CT ad day nb ns nx gB wB cB sS bX f6 f7 g8 g9 Q) (10 + k) = Q k := reg_1 hk
theorem cQ_hi (hs : ns ≤ 8) : (CT ad day nb ns nx gB wB cB sS bX f6 f7 g8 g9 Q) (100 + k) = Q (10 + k) := by
  unfold CT
  rw [show 100 + k = 60 + (40 + k) by omega, reg_6]
  unfold T6
  rw [if_neg (by omega), if_neg (by omega)]
  congr 1
  omega
theorem uQ_lo (hk : k < 10) : va_up (CT ad day nb ns nx gB wB cB sS bX f6 f7 g8 g9 Q) (10 + k) v = (CT ad day nb ns nx gB wB cB sS bX f6 f7 g8 g9 (va_up Q k v)) := by
  unfold CT
  rw [reg_u1 hk, T6_qc (Q := Q) (Q' := va_up Q k v) fun j hj => (va_up_n _ _ (by omega)).symm]
theorem uQ_hi (hs : ns ≤ 8) : va_up (CT ad day nb ns nx gB wB cB sS bX f6 f7 g8 g9 Q) (100 + k) v = (CT ad day nb ns nx gB wB cB sS bX f6 f7 g8 g9 (va_up Q (10 + k) v)) := by
  unfold CT
  rw [show 100 + k = 60 + (40 + k) by omega, reg_u6, reg_qc (q := Q) (q' := va_up Q (10 + k) v) fun j hj => (va_up_n _ _ (by omega)).symm]
  congr 1
  funext j
  by_cases hj : j = 40 + k
  · rw [hj, va_up_s]
    unfold T6
    rw [if_neg (by omega), if_neg (by omega), show 40 + k - 30 = 10 + k by omega, va_up_s]
  · rw [va_up_n _ _ hj]
    unfold T6
    exact ite_congr rfl (fun _ => rfl) fun h1 => ite_congr rfl (fun _ => rfl) fun h2 => (va_up_n _ _ (by omega)).symm
theorem cQ (hs : ns ≤ 8) (k : Nat) : (CT ad day nb ns nx gB wB cB sS bX f6 f7 g8 g9 Q) (cdQ k) = Q k := by
  unfold cdQ
  by_cases h : k < 10
  · rw [if_pos h, cQ_lo h]
  · rw [if_neg h, show 90 + k = 100 + (k - 10) by omega, cQ_hi hs]
    congr 1
    omega
theorem noQ {Q' : Nat → Option DCel} {c : Nat} (h : ¬ ((10 ≤ c ∧ c < 20) ∨ 100 ≤ c)) : (CT ad day nb ns nx gB wB cB sS bX f6 f7 g8 g9 Q) c = (CT ad day nb ns nx gB wB cB sS bX f6 f7 g8 g9 (Q')) c := by
  unfold CT reg
  refine ite_congr rfl (fun _ => rfl) fun h1 => ite_congr rfl (fun h2 => absurd (Or.inl ⟨by omega, h2⟩) h) fun _ => ite_congr rfl (fun _ => rfl) fun _ => ite_congr rfl (fun _ => rfl) fun _ => ite_congr rfl (fun _ => rfl) fun _ => ite_congr rfl (fun _ => rfl) fun _ => ?_
  unfold T6
  exact ite_congr rfl (fun _ => rfl) fun _ => ite_congr rfl (fun _ => rfl) fun h2 => absurd (Or.inr (by omega)) h
theorem CT_ad {ad' : Nat → Nat} (h : ∀ c, c < 10 ∨ (20 ≤ c ∧ c < 100) → ad' c = ad c) (hb : nb ≤ 5) (hs : ns ≤ 8) (hx : nx ≤ 6) : (CT (ad') day nb ns nx gB wB cB sS bX f6 f7 g8 g9 Q) = (CT ad day nb ns nx gB wB cB sS bX f6 f7 g8 g9 Q) := by
  unfold CT
  have e0 : T0 ad' day nb ns nx f6 f7 g8 g9 = T0 ad day nb ns nx f6 f7 g8 g9 := by
    unfold T0 O4 OC
    rw [h 1 (by omega), h 2 (by omega), h 3 (by omega), h 4 (by omega), h 5 (by omega), h 6 (by omega), h 7 (by omega), h 8 (by omega), h 9 (by omega), nR_same (ad := ad) (ad' := ad') (b := 20) fun i hi => h _ (by omega), nR_same (ad := ad) (ad' := ad') (b := 60) fun i hi => h _ (by omega), nR_same (ad := ad) (ad' := ad') (b := 50) fun i hi => h _ (by omega)]
  rw [e0, T2_same (ad := ad) (ad' := ad') fun i hi => h _ (by omega), T3_same (ad := ad) (ad' := ad') fun i hi => h _ (by omega)]
theorem NH.renQ {ad' : Nat → Nat} {Q1 Q2 : Nat → Option DCel} (h : NH st ad (CT ad day nb ns nx gB wB cB sS bX f6 f7 g8 g9 Q1)) (hb : nb ≤ 5) (hs : ns ≤ 8) (hx : nx ≤ 6) (hl : ∀ c, c < 10 ∨ (20 ≤ c ∧ c < 100) → ad' c = ad c) (ρ : Nat → Nat) (hct : ∀ k e, Q2 k = some e → Q1 (ρ k) = some e ∧ ad' (cdQ k) = ad (cdQ (ρ k))) (hinj : ∀ k l e e', Q2 k = some e → Q2 l = some e' → ρ k = ρ l → k = l) : NH st ad' (CT (ad') day nb ns nx gB wB cB sS bX f6 f7 g8 g9 Q2) := by
  rw [CT_ad hl hb hs hx]
  have inQ : ∀ c, (10 ≤ c ∧ c < 20) ∨ 100 ≤ c → cdQ (if c < 20 then c - 10 else c - 90) = c := fun c hc => by
    unfold cdQ
    split <;> split <;> omega
  refine h.ren (fun c => if (10 ≤ c ∧ c < 20) ∨ 100 ≤ c then cdQ (ρ (if c < 20 then c - 10 else c - 90)) else c) (fun c e hc => ?_) (fun c d e e' hc hd q => ?_)
  · by_cases z : (10 ≤ c ∧ c < 20) ∨ 100 ≤ c
    · rw [if_pos z, cQ hs]
      rw [← inQ c z, cQ hs] at hc
      have := hct _ e hc
      rw [inQ c z] at this
      exact this
    · rw [if_neg z]
      exact ⟨(noQ z).trans hc, hl c (by omega)⟩
  · by_cases z : (10 ≤ c ∧ c < 20) ∨ 100 ≤ c <;> by_cases y : (10 ≤ d ∧ d < 20) ∨ 100 ≤ d
    · rw [if_pos z, if_pos y] at q
      rw [← inQ c z, cQ hs] at hc
      rw [← inQ d y, cQ hs] at hd
      have := hinj _ _ e e' hc hd (cdQ_inj q)
      rw [← inQ c z, ← inQ d y, this]
    · rw [if_pos z, if_neg y] at q
      have := cdQ_in (ρ (if c < 20 then c - 10 else c - 90))
      rw [q] at this
      exact absurd this y
    · rw [if_neg z, if_pos y] at q
      have := cdQ_in (ρ (if d < 20 then d - 10 else d - 90))
      rw [← q] at this
      exact absurd this z
    · rw [if_neg z, if_neg y] at q
      exact q
/-- what was made at the spare code comes into the slot -/
theorem NH.move {Q1 : Nat → Option DCel} (h : NH st ad (CT ad day nb ns nx gB wB cB sS bX f6 f7 g8 g9 Q1)) (hb : nb ≤ 5) (hs : ns ≤ 8) (hx : nx ≤ 6) {s0 : Nat} (h1 : s0 < 4) : NH st (va_up ad (10 + s0) (ad 14)) (CT (va_up ad (10 + s0) (ad 14)) day nb ns nx gB wB cB sS bX f6 f7 g8 g9 (va_up (va_up Q1 s0 (Q1 4)) 4 none)) := by
  refine h.renQ hb hs hx (fun c hc => va_up_n _ _ (by omega)) (fun k => if k = s0 then 4 else k) (fun k e hk => ?_) (fun k l e e' hk hl q => ?_)
  · by_cases z : k = s0
    · subst z
      rw [va_up_n _ _ (by omega), va_up_s] at hk
      rw [if_pos rfl]
      refine ⟨hk, ?_⟩
      unfold cdQ
      rw [if_pos (by omega), va_up_s]
      rfl
    · have z4 : k ≠ 4 := fun z4 => by rw [z4, va_up_s] at hk; cases hk
      rw [va_up_n _ _ z4, va_up_n _ _ z] at hk
      rw [if_neg z]
      refine ⟨hk, va_up_n _ _ (fun y => z (cdQ_inj (y.trans ?_)))⟩
      unfold cdQ
      rw [if_pos (by omega)]
  · have z4 : ∀ k e, va_up (va_up Q1 s0 (Q1 4)) 4 none k = some e → k ≠ 4 := fun k e hk z4 => by rw [z4, va_up_s] at hk; cases hk
    have a1 := z4 k e hk
    have a2 := z4 l e' hl
    split at q <;> split at q <;> omega
def rnS (ad : Nat → Nat) (e : Nat → Nat) : Nat → Nat := fun c => if 130 ≤ c ∧ c < 140 then ad (130 + e (c - 130)) else ad c
theorem rnS_o {ad : Nat → Nat} {e : Nat → Nat} {c : Nat} (h : c < 130 ∨ 140 ≤ c) : rnS ad e c = ad c := if_neg (by omega)
theorem rnS_i {ad : Nat → Nat} {e : Nat → Nat} {t : Nat} (h : t < 10) : rnS ad e (130 + t) = ad (130 + e t) := by
  unfold rnS
  rw [if_pos (by omega), Nat.add_sub_cancel_left]
theorem NH.permS {r0 r1 r2 r3 : Nat → Option DCel} {ms m : Nat} {tS : Nat → Nat → Int32} {e : Nat → Nat} (h : NH st ad (CT ad day nb ns nx gB wB cB sS bX f6 f7 g8 g9 (reg r0 r1 r2 r3 (S5 ms tS) zN zN))) (hb : nb ≤ 5) (hs : ns ≤ 8) (hx : nx ≤ 6) (hm : ms ≤ 8) (hm2 : m ≤ 8) (he : ∀ t, t < m → e t < ms) (hi : ∀ t t', t < m → t' < m → e t = e t' → t = t') : NH st (rnS ad e) (CT (rnS ad e) day nb ns nx gB wB cB sS bX f6 f7 g8 g9 (reg r0 r1 r2 r3 (S5 m (fun t => tS (e t))) zN zN)) := by
  have inS : ∀ k e', reg r0 r1 r2 r3 (S5 m (fun t => tS (e t))) zN zN k = some e' → 40 ≤ k → k - 40 < m ∧ e' = ARR 5 (tS (e (k - 40))) := fun k e' hk h4 => by
    by_cases h5 : k < 50
    · obtain ⟨t, rfl⟩ : ∃ t, k = 40 + t := ⟨k - 40, by omega⟩
      rw [reg_4 (by omega)] at hk
      unfold S5 at hk
      by_cases ht : t < m
      · rw [if_pos ht] at hk
        rw [Nat.add_sub_cancel_left]
        exact ⟨ht, (Option.some.inj hk).symm⟩
      · rw [if_neg ht] at hk
        cases hk
    · unfold reg at hk
      rw [if_neg (by omega), if_neg (by omega), if_neg (by omega), if_neg (by omega), if_neg (by omega)] at hk
      split at hk <;> cases hk
  have lo : ∀ k, k < 40 → reg r0 r1 r2 r3 (S5 m (fun t => tS (e t))) zN zN k = reg r0 r1 r2 r3 (S5 ms tS) zN zN k := fun k hk => by
    unfold reg
    exact ite_congr rfl (fun _ => rfl) fun _ => ite_congr rfl (fun _ => rfl) fun _ => ite_congr rfl (fun _ => rfl) fun _ => (if_pos hk).trans (if_pos hk).symm
  refine h.renQ hb hs hx (fun c hc => rnS_o (by omega)) (fun k => if k < 40 then k else 40 + e (k - 40)) (fun k e' hk => ?_) (fun k l e1 e2 hk hl q => ?_)
  · by_cases z : k < 40
    · rw [if_pos z]
      refine ⟨by rw [← lo k z]; exact hk, rnS_o ?_⟩
      unfold cdQ
      split <;> omega
    · rw [if_neg z]
      obtain ⟨z1, z2⟩ := inS k e' hk (by omega)
      have := he _ z1
      refine ⟨?_, ?_⟩
      · rw [reg_4 (by omega), z2]
        exact if_pos this
      · unfold cdQ
        rw [if_neg (by omega), if_neg (by omega)]
        obtain ⟨t, rfl⟩ : ∃ t, k = 40 + t := ⟨k - 40, by omega⟩
        rw [show 90 + (40 + t) = 130 + t by omega, rnS_i (by omega), Nat.add_sub_cancel_left]
        congr 1
        omega
  · by_cases z : k < 40 <;> by_cases y : l < 40
    · rw [if_pos z, if_pos y] at q
      exact q
    · rw [if_pos z, if_neg y] at q
      omega
    · rw [if_neg z, if_pos y] at q
      omega
    · rw [if_neg z, if_neg y] at q
      have := hi _ _ (inS k e1 hk (by omega)).1 (inS l e2 hl (by omega)).1 (by omega)
      omega
end QREAD
theorem SB_same {ad ad' : Nat → Nat} {mb : Nat} {hB vB : Nat → Int32} (h : ∀ i, i < mb → ad' (110 + i) = ad (110 + i)) : SB ad' mb hB vB = SB ad mb hB vB := by
  funext i
  unfold SB
  by_cases hi : i < mb
  · rw [if_pos hi, if_pos hi]
    unfold OLB
    rw [h i hi]
  · rw [if_neg hi, if_neg hi]
theorem SQ_ad {ad ad' : Nat → Nat} {dy : Int32} {lb ls lx mb ms mx : Nat} {hB vB : Nat → Int32} {dB tS yX : Nat → Nat → Int32} {e4 e5 : Option DCel} (h : ∀ c, (11 ≤ c ∧ c ≤ 13) ∨ 100 ≤ c → ad' c = ad c) : (SQ (ad') dy lb ls lx mb ms mx hB vB dB tS yX e4 e5) = (SQ ad dy lb ls lx mb ms mx hB vB dB tS yX e4 e5) := by
  unfold SQ S0 OSim
  rw [h 11 (by omega), h 12 (by omega), h 13 (by omega), nR_same (ad := ad) (ad' := ad') (b := 100) fun i hi => h _ (by omega), nR_same (ad := ad) (ad' := ad') (b := 130) fun i hi => h _ (by omega), nR_same (ad := ad) (ad' := ad') (b := 120) fun i hi => h _ (by omega), SB_same (ad := ad) (ad' := ad') fun i hi => h _ (by omega)]
section SREAD
variable {st : DSt} {ad : Nat → Nat} {day : Int32} {nb ns nx : Nat} {gB wB : Nat → Int32} {cB sS bX : Nat → Nat → Int32} {f6 f7 g8 g9 : Nat → Int32} {Q : Nat → Option DCel} {dy : Int32} {lb ls lx mb ms mx : Nat} {hB vB : Nat → Int32} {dB tS yX : Nat → Nat → Int32} {e4 e5 : Option DCel} {i k : Nat} {p : Int32}
theorem z_0 : (CT ad day nb ns nx gB wB cB sS bX f6 f7 g8 g9 ((SQ ad dy lb ls lx mb ms mx hB vB dB tS yX e4 e5))) 10 = some (OSim ad dy) := rfl
theorem z_1 : (CT ad day nb ns nx gB wB cB sS bX f6 f7 g8 g9 ((SQ ad dy lb ls lx mb ms mx hB vB dB tS yX e4 e5))) 11 = some (ARO 5 lb (nR ad 100 lb)) := rfl
theorem z_2 : (CT ad day nb ns nx gB wB cB sS bX f6 f7 g8 g9 ((SQ ad dy lb ls lx mb ms mx hB vB dB tS yX e4 e5))) 12 = some (ARO 6 ls (nR ad 130 ls)) := rfl
theorem z_3 : (CT ad day nb ns nx gB wB cB sS bX f6 f7 g8 g9 ((SQ ad dy lb ls lx mb ms mx hB vB dB tS yX e4 e5))) 13 = some (ARO 6 lx (nR ad 120 lx)) := rfl
theorem z_14 : (CT ad day nb ns nx gB wB cB sS bX f6 f7 g8 g9 ((SQ ad dy lb ls lx mb ms mx hB vB dB tS yX e4 e5))) 14 = e4 := rfl
theorem z_15 : (CT ad day nb ns nx gB wB cB sS bX f6 f7 g8 g9 ((SQ ad dy lb ls lx mb ms mx hB vB dB tS yX e4 e5))) 15 = e5 := rfl
theorem z_up4 {v : Option DCel} : va_up (CT ad day nb ns nx gB wB cB sS bX f6 f7 g8 g9 ((SQ ad dy lb ls lx mb ms mx hB vB dB tS yX e4 e5))) 14 v = (CT ad day nb ns nx gB wB cB sS bX f6 f7 g8 g9 ((SQ ad dy lb ls lx mb ms mx hB vB dB tS yX v e5))) := by
  rw [show (14 : Nat) = 10 + 4 from rfl, uQ_lo (by omega)]
  unfold SQ
  rw [reg_u0 (by omega)]
  unfold S0
  rw [R10_u4]
theorem z_up5 {v : Option DCel} : va_up (CT ad day nb ns nx gB wB cB sS bX f6 f7 g8 g9 ((SQ ad dy lb ls lx mb ms mx hB vB dB tS yX e4 e5))) 15 v = (CT ad day nb ns nx gB wB cB sS bX f6 f7 g8 g9 ((SQ ad dy lb ls lx mb ms mx hB vB dB tS yX e4 v))) := by
  rw [show (15 : Nat) = 10 + 5 from rfl, uQ_lo (by omega)]
  unfold SQ
  rw [reg_u0 (by omega)]
  unfold S0
  rw [R10_u5]
theorem z_new4 (h : NH st ad (CT ad day nb ns nx gB wB cB sS bX f6 f7 g8 g9 ((SQ ad dy lb ls lx mb ms mx hB vB dB tS yX none e5)))) (hb : nb ≤ 5) (hs : ns ≤ 8) (hx : nx ≤ 6) (e : DCel) : ∃ ad', (∀ c, c ≠ 14 → ad' c = ad c) ∧ ad' 14 = st.1 ∧ NH (nC st e) ad' (CT (ad') day nb ns nx gB wB cB sS bX f6 f7 g8 g9 ((SQ (ad') dy lb ls lx mb ms mx hB vB dB tS yX (some e) e5))) := by
  have q := h.new (c := 14) z_14 e
  rw [z_up4] at q
  have hA : ∀ c, c ≠ 14 → va_up ad 14 st.1 c = ad c := fun c hc => va_up_n _ _ hc
  refine ⟨_, hA, va_up_s _ _ _, ?_⟩
  rw [CT_ad (ad := ad) (fun c hc => hA c (by omega)) hb hs hx, SQ_ad (ad := ad) (fun c hc => hA c (by omega))]
  exact q
theorem z_new5 (h : NH st ad (CT ad day nb ns nx gB wB cB sS bX f6 f7 g8 g9 ((SQ ad dy lb ls lx mb ms mx hB vB dB tS yX e4 none)))) (hb : nb ≤ 5) (hs : ns ≤ 8) (hx : nx ≤ 6) (e : DCel) : ∃ ad', (∀ c, c ≠ 15 → ad' c = ad c) ∧ ad' 15 = st.1 ∧ NH (nC st e) ad' (CT (ad') day nb ns nx gB wB cB sS bX f6 f7 g8 g9 ((SQ (ad') dy lb ls lx mb ms mx hB vB dB tS yX e4 (some e)))) := by
  have q := h.new (c := 15) z_15 e
  rw [z_up5] at q
  have hA : ∀ c, c ≠ 15 → va_up ad 15 st.1 c = ad c := fun c hc => va_up_n _ _ hc
  refine ⟨_, hA, va_up_s _ _ _, ?_⟩
  rw [CT_ad (ad := ad) (fun c hc => hA c (by omega)) hb hs hx, SQ_ad (ad := ad) (fun c hc => hA c (by omega))]
  exact q
theorem z_drop4 (h : NH st ad (CT ad day nb ns nx gB wB cB sS bX f6 f7 g8 g9 ((SQ ad dy lb ls lx mb ms mx hB vB dB tS yX e4 e5)))) : NH st ad (CT ad day nb ns nx gB wB cB sS bX f6 f7 g8 g9 ((SQ ad dy lb ls lx mb ms mx hB vB dB tS yX none e5))) := by
  rw [← z_up4 (e4 := e4)]
  exact h.drop fun d e hd => by
    by_cases z : d = 14
    · rw [z, va_up_s] at hd; cases hd
    · rw [va_up_n _ _ z] at hd; exact hd
theorem z_drop5 (h : NH st ad (CT ad day nb ns nx gB wB cB sS bX f6 f7 g8 g9 ((SQ ad dy lb ls lx mb ms mx hB vB dB tS yX e4 e5)))) : NH st ad (CT ad day nb ns nx gB wB cB sS bX f6 f7 g8 g9 ((SQ ad dy lb ls lx mb ms mx hB vB dB tS yX e4 none))) := by
  rw [← z_up5 (e5 := e5)]
  exact h.drop fun d e hd => by
    by_cases z : d = 15
    · rw [z, va_up_s] at hd; cases hd
    · rw [va_up_n _ _ z] at hd; exact hd
theorem z_b (hi : i < mb) (hm : mb ≤ 5) (hs : ns ≤ 8) : (CT ad day nb ns nx gB wB cB sS bX f6 f7 g8 g9 ((SQ ad dy lb ls lx mb ms mx hB vB dB tS yX e4 e5))) (100 + i) = some (OLB ad (hB i) (vB i) i) := (cQ_hi hs).trans ((reg_1 (by omega)).trans (if_pos hi))
theorem z_b0 (hi : mb ≤ i) (h10 : i < 10) (hs : ns ≤ 8) : (CT ad day nb ns nx gB wB cB sS bX f6 f7 g8 g9 ((SQ ad dy lb ls lx mb ms mx hB vB dB tS yX e4 e5))) (100 + i) = none := (cQ_hi hs).trans ((reg_1 (by omega)).trans (if_neg (by omega)))
theorem z_c (hi : i < mb) (hm : mb ≤ 5) (hs : ns ≤ 8) : (CT ad day nb ns nx gB wB cB sS bX f6 f7 g8 g9 ((SQ ad dy lb ls lx mb ms mx hB vB dB tS yX e4 e5))) (110 + i) = some (ARR 6 (dB i)) := by
  rw [show 110 + i = 100 + (10 + i) by omega, cQ_hi hs, show 10 + (10 + i) = 20 + i by omega]
  exact (reg_2 (by omega)).trans (if_pos hi)
theorem z_c0 (hi : mb ≤ i) (h10 : i < 10) (hs : ns ≤ 8) : (CT ad day nb ns nx gB wB cB sS bX f6 f7 g8 g9 ((SQ ad dy lb ls lx mb ms mx hB vB dB tS yX e4 e5))) (110 + i) = none := by
  rw [show 110 + i = 100 + (10 + i) by omega, cQ_hi hs, show 10 + (10 + i) = 20 + i by omega]
  exact (reg_2 (by omega)).trans (if_neg (by omega))
theorem z_x (hi : i < mx) (hm : mx ≤ 6) (hs : ns ≤ 8) : (CT ad day nb ns nx gB wB cB sS bX f6 f7 g8 g9 ((SQ ad dy lb ls lx mb ms mx hB vB dB tS yX e4 e5))) (120 + i) = some (ARR 5 (yX i)) := by
  rw [show 120 + i = 100 + (20 + i) by omega, cQ_hi hs, show 10 + (20 + i) = 30 + i by omega]
  exact (reg_3 (by omega)).trans (if_pos hi)
theorem z_x0 (hi : mx ≤ i) (h10 : i < 10) (hs : ns ≤ 8) : (CT ad day nb ns nx gB wB cB sS bX f6 f7 g8 g9 ((SQ ad dy lb ls lx mb ms mx hB vB dB tS yX e4 e5))) (120 + i) = none := by
  rw [show 120 + i = 100 + (20 + i) by omega, cQ_hi hs, show 10 + (20 + i) = 30 + i by omega]
  exact (reg_3 (by omega)).trans (if_neg (by omega))
theorem z_s (hi : i < ms) (hm : ms ≤ 8) (hs : ns ≤ 8) : (CT ad day nb ns nx gB wB cB sS bX f6 f7 g8 g9 ((SQ ad dy lb ls lx mb ms mx hB vB dB tS yX e4 e5))) (130 + i) = some (ARR 5 (tS i)) := by
  rw [show 130 + i = 100 + (30 + i) by omega, cQ_hi hs, show 10 + (30 + i) = 40 + i by omega]
  exact (reg_4 (by omega)).trans (if_pos hi)
theorem z_s0 (hi : ms ≤ i) (h10 : i < 10) (hs : ns ≤ 8) : (CT ad day nb ns nx gB wB cB sS bX f6 f7 g8 g9 ((SQ ad dy lb ls lx mb ms mx hB vB dB tS yX e4 e5))) (130 + i) = none := by
  rw [show 130 + i = 100 + (30 + i) by omega, cQ_hi hs, show 10 + (30 + i) = 40 + i by omega]
  exact (reg_4 (by omega)).trans (if_neg (by omega))
theorem z_oR (h : NH st ad (CT ad day nb ns nx gB wB cB sS bX f6 f7 g8 g9 ((SQ ad dy lb ls lx mb ms mx hB vB dB tS yX e4 e5)))) : oR st (some (ad 10)) 6 = some (ad 10) := l_oR (c := 10) h rfl
theorem z_day (h : NH st ad (CT ad day nb ns nx gB wB cB sS bX f6 f7 g8 g9 ((SQ ad dy lb ls lx mb ms mx hB vB dB tS yX e4 e5)))) : gI st (some (ad 10)) 6 0 = some dy := l_gI (c := 10) h rfl 0 rfl
theorem z_r1 (h : NH st ad (CT ad day nb ns nx gB wB cB sS bX f6 f7 g8 g9 ((SQ ad dy lb ls lx mb ms mx hB vB dB tS yX e4 e5)))) : gR st (some (ad 10)) 6 1 = some (some (ad 11)) := l_gR (c := 10) h rfl 1 rfl
theorem z_r2 (h : NH st ad (CT ad day nb ns nx gB wB cB sS bX f6 f7 g8 g9 ((SQ ad dy lb ls lx mb ms mx hB vB dB tS yX e4 e5)))) : gR st (some (ad 10)) 6 2 = some (some (ad 12)) := l_gR (c := 10) h rfl 2 rfl
theorem z_r3 (h : NH st ad (CT ad day nb ns nx gB wB cB sS bX f6 f7 g8 g9 ((SQ ad dy lb ls lx mb ms mx hB vB dB tS yX e4 e5)))) : gR st (some (ad 10)) 6 3 = some (some (ad 13)) := l_gR (c := 10) h rfl 3 rfl
theorem z_n1 (h : NH st ad (CT ad day nb ns nx gB wB cB sS bX f6 f7 g8 g9 ((SQ ad dy lb ls lx mb ms mx hB vB dB tS yX e4 e5)))) : aN st (some (ad 11)) 5 = some (nI lb) := l_aN (c := 11) h rfl
theorem z_n2 (h : NH st ad (CT ad day nb ns nx gB wB cB sS bX f6 f7 g8 g9 ((SQ ad dy lb ls lx mb ms mx hB vB dB tS yX e4 e5)))) : aN st (some (ad 12)) 6 = some (nI ls) := l_aN (c := 12) h rfl
theorem z_n3 (h : NH st ad (CT ad day nb ns nx gB wB cB sS bX f6 f7 g8 g9 ((SQ ad dy lb ls lx mb ms mx hB vB dB tS yX e4 e5)))) : aN st (some (ad 13)) 6 = some (nI lx) := l_aN (c := 13) h rfl
theorem z_a1 (h : NH st ad (CT ad day nb ns nx gB wB cB sS bX f6 f7 g8 g9 ((SQ ad dy lb ls lx mb ms mx hB vB dB tS yX e4 e5)))) (hp : p = nI i) (hi : i < lb) (hm : lb ≤ 5) : aR st (some (ad 11)) 5 p = some (some (ad (100 + i))) := (l_aR (c := 11) (n := lb) (g := nR ad 100 lb) h rfl i hp hi (by omega)).trans (congrArg some (if_pos hi))
theorem z_a2 (h : NH st ad (CT ad day nb ns nx gB wB cB sS bX f6 f7 g8 g9 ((SQ ad dy lb ls lx mb ms mx hB vB dB tS yX e4 e5)))) (hp : p = nI i) (hi : i < ls) (hm : ls ≤ 8) : aR st (some (ad 12)) 6 p = some (some (ad (130 + i))) := (l_aR (c := 12) (n := ls) (g := nR ad 130 ls) h rfl i hp hi (by omega)).trans (congrArg some (if_pos hi))
theorem z_a3 (h : NH st ad (CT ad day nb ns nx gB wB cB sS bX f6 f7 g8 g9 ((SQ ad dy lb ls lx mb ms mx hB vB dB tS yX e4 e5)))) (hp : p = nI i) (hi : i < lx) (hm : lx ≤ 6) : aR st (some (ad 13)) 6 p = some (some (ad (120 + i))) := (l_aR (c := 13) (n := lx) (g := nR ad 120 lx) h rfl i hp hi (by omega)).trans (congrArg some (if_pos hi))
theorem z_bo (h : NH st ad (CT ad day nb ns nx gB wB cB sS bX f6 f7 g8 g9 ((SQ ad dy lb ls lx mb ms mx hB vB dB tS yX e4 e5)))) (hi : i < mb) (hm : mb ≤ 5) (hs : ns ≤ 8) : oR st (some (ad (100 + i))) 5 = some (ad (100 + i)) := l_oR h (z_b hi hm hs)
theorem z_bg (h : NH st ad (CT ad day nb ns nx gB wB cB sS bX f6 f7 g8 g9 ((SQ ad dy lb ls lx mb ms mx hB vB dB tS yX e4 e5)))) (hi : i < mb) (hm : mb ≤ 5) (hs : ns ≤ 8) : gI st (some (ad (100 + i))) 5 0 = some (hB i) := l_gI h (z_b hi hm hs) 0 rfl
theorem z_bw (h : NH st ad (CT ad day nb ns nx gB wB cB sS bX f6 f7 g8 g9 ((SQ ad dy lb ls lx mb ms mx hB vB dB tS yX e4 e5)))) (hi : i < mb) (hm : mb ≤ 5) (hs : ns ≤ 8) : gI st (some (ad (100 + i))) 5 1 = some (vB i) := l_gI h (z_b hi hm hs) 1 rfl
theorem z_bc (h : NH st ad (CT ad day nb ns nx gB wB cB sS bX f6 f7 g8 g9 ((SQ ad dy lb ls lx mb ms mx hB vB dB tS yX e4 e5)))) (hi : i < mb) (hm : mb ≤ 5) (hs : ns ≤ 8) : gR st (some (ad (100 + i))) 5 2 = some (some (ad (110 + i))) := l_gR h (z_b hi hm hs) 2 rfl
theorem z_ca (h : NH st ad (CT ad day nb ns nx gB wB cB sS bX f6 f7 g8 g9 ((SQ ad dy lb ls lx mb ms mx hB vB dB tS yX e4 e5)))) (hi : i < mb) (hm : mb ≤ 5) (hs : ns ≤ 8) (hp : p = nI k) (hk : k < 6) : aI st (some (ad (110 + i))) 0 p = some (dB i k) := l_aI h (z_c hi hm hs) k hp hk (by omega)
theorem z_xa (h : NH st ad (CT ad day nb ns nx gB wB cB sS bX f6 f7 g8 g9 ((SQ ad dy lb ls lx mb ms mx hB vB dB tS yX e4 e5)))) (hi : i < mx) (hm : mx ≤ 6) (hs : ns ≤ 8) (hp : p = nI k) (hk : k < 5) : aI st (some (ad (120 + i))) 0 p = some (yX i k) := l_aI h (z_x hi hm hs) k hp hk (by omega)
theorem z_sa (h : NH st ad (CT ad day nb ns nx gB wB cB sS bX f6 f7 g8 g9 ((SQ ad dy lb ls lx mb ms mx hB vB dB tS yX e4 e5)))) (hi : i < ms) (hm : ms ≤ 8) (hs : ns ≤ 8) (hp : p = nI k) (hk : k < 5) : aI st (some (ad (130 + i))) 0 p = some (tS i k) := l_aI h (z_s hi hm hs) k hp hk (by omega)
/-! writing -/
theorem zw_day (h : NH st ad (CT ad day nb ns nx gB wB cB sS bX f6 f7 g8 g9 ((SQ ad dy lb ls lx mb ms mx hB vB dB tS yX e4 e5)))) (v : Int32) : ∃ st', pV st (some (ad 10)) 6 0 (DI v) = some st' ∧ NH st' ad (CT ad day nb ns nx gB wB cB sS bX f6 f7 g8 g9 ((SQ ad v lb ls lx mb ms mx hB vB dB tS yX e4 e5))) := ⟨_, l_pV (c := 10) h rfl 0 (DI v) (show (0 : Nat) < 4 by decide), by
  have q := h.set (c := 10) rfl (OSim ad v)
  rw [show (10 : Nat) = 10 + 0 from rfl, uQ_lo (by omega)] at q
  unfold SQ at q
  rw [reg_u0 (by omega)] at q
  unfold S0 at q
  rw [R10_u0] at q
  exact q⟩
theorem zw_g (h : NH st ad (CT ad day nb ns nx gB wB cB sS bX f6 f7 g8 g9 ((SQ ad dy lb ls lx mb ms mx hB vB dB tS yX e4 e5)))) (hi : i < mb) (hm : mb ≤ 5) (hs : ns ≤ 8) (v : Int32) : ∃ st', pV st (some (ad (100 + i))) 5 0 (DI v) = some st' ∧ NH st' ad (CT ad day nb ns nx gB wB cB sS bX f6 f7 g8 g9 ((SQ ad dy lb ls lx mb ms mx (upd hB i v) vB dB tS yX e4 e5))) := ⟨_, l_pV h (z_b hi hm hs) 0 (DI v) (show (0 : Nat) < 3 by decide), by
  have q := h.set (z_b hi hm hs) (OLB ad v (vB i) i)
  rw [uQ_hi hs] at q
  unfold SQ at q
  rw [reg_u1 (by omega), up2_eq _ (SB ad mb (upd hB i v) vB) i _ (by unfold SB; rw [if_pos hi, upd_s]) (fun j hj => by unfold SB; rw [upd_n _ _ hj])] at q
  exact q⟩
theorem zw_w (h : NH st ad (CT ad day nb ns nx gB wB cB sS bX f6 f7 g8 g9 ((SQ ad dy lb ls lx mb ms mx hB vB dB tS yX e4 e5)))) (hi : i < mb) (hm : mb ≤ 5) (hs : ns ≤ 8) (v : Int32) : ∃ st', pV st (some (ad (100 + i))) 5 1 (DI v) = some st' ∧ NH st' ad (CT ad day nb ns nx gB wB cB sS bX f6 f7 g8 g9 ((SQ ad dy lb ls lx mb ms mx hB (upd vB i v) dB tS yX e4 e5))) := ⟨_, l_pV h (z_b hi hm hs) 1 (DI v) (show (1 : Nat) < 3 by decide), by
  have q := h.set (z_b hi hm hs) (OLB ad (hB i) v i)
  rw [uQ_hi hs] at q
  unfold SQ at q
  rw [reg_u1 (by omega), up2_eq _ (SB ad mb hB (upd vB i v)) i _ (by unfold SB; rw [if_pos hi, upd_s]) (fun j hj => by unfold SB; rw [upd_n _ _ hj])] at q
  exact q⟩
theorem zw_c (f : Nat → Int32) (h : NH st ad (va_up (CT ad day nb ns nx gB wB cB sS bX f6 f7 g8 g9 ((SQ ad dy lb ls lx mb ms mx hB vB dB tS yX e4 e5))) (110 + i) (some (ARR 6 f)))) (hi : i < mb) (hm : mb ≤ 5) (hs : ns ≤ 8) : NH st ad (CT ad day nb ns nx gB wB cB sS bX f6 f7 g8 g9 ((SQ ad dy lb ls lx mb ms mx hB vB (va_up dB i f) tS yX e4 e5))) := by
  have q := h
  rw [show 110 + i = 100 + (10 + i) by omega, uQ_hi hs, show 10 + (10 + i) = 20 + i by omega] at q
  unfold SQ at q
  rw [reg_u2 (by omega), up2_eq _ (T4 mb (va_up dB i f)) i _ (by unfold T4; rw [if_pos hi, va_up_s]) (fun j hj => by unfold T4; rw [va_up_n _ _ hj])] at q
  exact q
theorem zw_x (f : Nat → Int32) (h : NH st ad (va_up (CT ad day nb ns nx gB wB cB sS bX f6 f7 g8 g9 ((SQ ad dy lb ls lx mb ms mx hB vB dB tS yX e4 e5))) (120 + i) (some (ARR 5 f)))) (hi : i < mx) (hm : mx ≤ 6) (hs : ns ≤ 8) : NH st ad (CT ad day nb ns nx gB wB cB sS bX f6 f7 g8 g9 ((SQ ad dy lb ls lx mb ms mx hB vB dB tS (va_up yX i f) e4 e5))) := by
  have q := h
  rw [show 120 + i = 100 + (20 + i) by omega, uQ_hi hs, show 10 + (20 + i) = 30 + i by omega] at q
  unfold SQ at q
  rw [reg_u3 (by omega), up2_eq _ (S5 mx (va_up yX i f)) i _ (by unfold S5; rw [if_pos hi, va_up_s]) (fun j hj => by unfold S5; rw [va_up_n _ _ hj])] at q
  exact q
theorem zw_s (f : Nat → Int32) (h : NH st ad (va_up (CT ad day nb ns nx gB wB cB sS bX f6 f7 g8 g9 ((SQ ad dy lb ls lx mb ms mx hB vB dB tS yX e4 e5))) (130 + i) (some (ARR 5 f)))) (hi : i < ms) (hm : ms ≤ 8) (hs : ns ≤ 8) : NH st ad (CT ad day nb ns nx gB wB cB sS bX f6 f7 g8 g9 ((SQ ad dy lb ls lx mb ms mx hB vB dB (va_up tS i f) yX e4 e5))) := by
  have q := h
  rw [show 130 + i = 100 + (30 + i) by omega, uQ_hi hs, show 10 + (30 + i) = 40 + i by omega] at q
  unfold SQ at q
  rw [reg_u4 (by omega), up2_eq _ (S5 ms (va_up tS i f)) i _ (by unfold S5; rw [if_pos hi, va_up_s]) (fun j hj => by unfold S5; rw [va_up_n _ _ hj])] at q
  exact q
theorem zs_c (h : NH st ad (CT ad day nb ns nx gB wB cB sS bX f6 f7 g8 g9 ((SQ ad dy lb ls lx mb ms mx hB vB dB tS yX e4 e5)))) (hi : i < mb) (hm : mb ≤ 5) (hs : ns ≤ 8) (hp : p = nI k) (hk : k < 6) (v : Int32) : ∃ st', sI st (some (ad (110 + i))) 0 p v = some st' ∧ NH st' ad (CT ad day nb ns nx gB wB cB sS bX f6 f7 g8 g9 ((SQ ad dy lb ls lx mb ms mx hB vB (va_up dB i (upd (dB i) k v)) tS yX e4 e5))) := ⟨_, l_sI h (z_c hi hm hs) k hp hk (by omega) v, zw_c _ (h.set (z_c hi hm hs) _) hi hm hs⟩
theorem zs_x (h : NH st ad (CT ad day nb ns nx gB wB cB sS bX f6 f7 g8 g9 ((SQ ad dy lb ls lx mb ms mx hB vB dB tS yX e4 e5)))) (hi : i < mx) (hm : mx ≤ 6) (hs : ns ≤ 8) (hp : p = nI k) (hk : k < 5) (v : Int32) : ∃ st', sI st (some (ad (120 + i))) 0 p v = some st' ∧ NH st' ad (CT ad day nb ns nx gB wB cB sS bX f6 f7 g8 g9 ((SQ ad dy lb ls lx mb ms mx hB vB dB tS (va_up yX i (upd (yX i) k v)) e4 e5))) := ⟨_, l_sI h (z_x hi hm hs) k hp hk (by omega) v, zw_x _ (h.set (z_x hi hm hs) _) hi hm hs⟩
theorem zs_s (h : NH st ad (CT ad day nb ns nx gB wB cB sS bX f6 f7 g8 g9 ((SQ ad dy lb ls lx mb ms mx hB vB dB tS yX e4 e5)))) (hi : i < ms) (hm : ms ≤ 8) (hs : ns ≤ 8) (hp : p = nI k) (hk : k < 5) (v : Int32) : ∃ st', sI st (some (ad (130 + i))) 0 p v = some st' ∧ NH st' ad (CT ad day nb ns nx gB wB cB sS bX f6 f7 g8 g9 ((SQ ad dy lb ls lx mb ms mx hB vB dB (va_up tS i (upd (tS i) k v)) yX e4 e5))) := ⟨_, l_sI h (z_s hi hm hs) k hp hk (by omega) v, zw_s _ (h.set (z_s hi hm hs) _) hi hm hs⟩
end SREAD
