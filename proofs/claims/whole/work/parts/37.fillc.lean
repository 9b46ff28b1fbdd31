/-! FILL: the class -/
theorem filX_s {A : Nat → Option Nat} {bX sS : Nat → Nat → Int32} {b : Nat} : filX A bX sS (b + 1) = (match A b with | none => filX A bX sS b | some j => va_up (filX A bX sS b) b (takX (bX b) (sS j))) := by
  funext c
  rcases h : A b with _ | j
  · show (if c < b + 1 then _ else _) = (if c < b then _ else _)
    by_cases e : c = b
    · rw [e, if_pos (by omega), if_neg (by omega), h]
    · by_cases q : c < b
      · rw [if_pos q, if_pos (by omega)]
      · rw [if_neg q, if_neg (by omega)]
  · show _ = va_up (filX A bX sS b) b (takX (bX b) (sS j)) c
    by_cases e : c = b
    · rw [e, va_up_s]
      refine (if_pos (by omega)).trans ?_
      rw [h]
    · rw [va_up_n _ _ e]
      by_cases q : c < b
      · exact (if_pos (by omega)).trans (if_pos q).symm
      · exact (if_neg (by omega)).trans (if_neg q).symm
theorem filX_b {A : Nat → Option Nat} {bX sS : Nat → Nat → Int32} {b : Nat} : filX A bX sS b b = bX b := if_neg (by omega)
theorem filX_0 {A : Nat → Option Nat} {bX sS : Nat → Nat → Int32} : filX A bX sS 0 = bX := by
  funext c
  exact if_neg (by omega)
section CFILL
variable {st : DSt} {ad : Nat → Nat} {day : Int32} {nb ns nx : Nat} {gB wB : Nat → Int32} {cB sS bX : Nat → Nat → Int32} {f6 f7 g8 g9 : Nat → Int32} {Q : Nat → Option DCel} {g : Nat → Option Nat} {i b : Nat}
theorem cX_up (hi : i < nx) (hx : nx ≤ 6) (x : Nat → Int32) : va_up (CT ad day nb ns nx gB wB cB sS bX f6 f7 g8 g9 Q) (50 + i) (some (OX x)) = (CT ad day nb ns nx gB wB cB sS (va_up bX i x) f6 f7 g8 g9 Q) := by
  unfold CT
  rw [reg_u5 (by omega), up2_eq _ (T5 nx (va_up bX i x)) i _ (by unfold T5; rw [if_pos hi, va_up_s]) (fun j hj => by unfold T5; rw [va_up_n _ _ hj])]
theorem y_r8 (h : NH st ad (va_up (CT ad day nb ns nx gB wB cB sS bX f6 f7 g8 g9 Q) 2 (some (ARO 3 8 g)))) : gR st (some (ad 0)) 4 9 = some (some (ad 8)) := l_gR (c := 0) h ((va_up_n _ _ (by decide)).trans rfl) 9 rfl
theorem y_rx (h : NH st ad (va_up (CT ad day nb ns nx gB wB cB sS bX f6 f7 g8 g9 Q) 2 (some (ARO 3 8 g)))) : gR st (some (ad 0)) 4 2 = some (some (ad 3)) := l_gR (c := 0) h ((va_up_n _ _ (by decide)).trans rfl) 2 rfl
theorem y_a8 (h : NH st ad (va_up (CT ad day nb ns nx gB wB cB sS bX f6 f7 g8 g9 Q) 2 (some (ARO 3 8 g)))) {p : Int32} (hp : p = nI i) (hi : i < 6) : aI st (some (ad 8)) 0 p = some (g8 i) := l_aI (c := 8) (n := 6) (f := g8) h ((va_up_n _ _ (by decide)).trans rfl) i hp hi (by omega)
theorem y_aRx (h : NH st ad (va_up (CT ad day nb ns nx gB wB cB sS bX f6 f7 g8 g9 Q) 2 (some (ARO 3 8 g)))) {p : Int32} (hp : p = nI i) (hi : i < 6) : aR st (some (ad 3)) 4 p = some (if i < nx then some (ad (50 + i)) else none) := l_aR (c := 3) (n := 6) (g := nR ad 50 nx) h ((va_up_n _ _ (by decide)).trans rfl) i hp hi (by omega)
/-- one slab moved into its box -/
theorem y_move (h : NH st ad (va_up (CT ad day nb ns nx gB wB cB sS bX f6 f7 g8 g9 Q) 2 (some (ARO 3 8 g)))) {j : Nat} (hj : j < ns) (hs : ns ≤ 8) (hb : b < nx) (hx : nx ≤ 6) (hg : g j = some (ad (60 + j))) : ∃ st', fX4_moveIntoBox st (ad 0) (nI j) (some (ad (50 + b))) = some st' ∧ NH st' ad (va_up (CT ad day nb ns nx gB wB cB sS (va_up bX b (takX (bX b) (sS j))) f6 f7 g8 g9 Q) 2 (some (ARO 3 8 (va_up g j none)))) := by
  have f2 : fX4_findSlab st (ad 0) (nI j) = some (some (ad (60 + j))) := by
    unfold fX4_findSlab
    rw [if_neg (nI_pos (by omega)), if_pos (show nI j < 8 from nI_lt (b := 8) (by omega) (by omega)), ob_of _ (y_rs h), ob_of _ (y_aRs h rfl (by omega)), hg]
  have lb : va_up (CT ad day nb ns nx gB wB cB sS bX f6 f7 g8 g9 Q) 2 (some (ARO 3 8 g)) (50 + b) = some (OX (bX b)) := (va_up_n _ _ (by omega)).trans (c_x hb hx)
  have ls : ∀ X, va_up (va_up (CT ad day nb ns nx gB wB cB sS bX f6 f7 g8 g9 Q) 2 (some (ARO 3 8 g))) (50 + b) X (60 + j) = some (OS (sS j)) := fun X => (va_up_n _ _ (by omega)).trans ((va_up_n _ _ (by omega)).trans (c_s hj))
  have ff7 := l_oR h lb
  obtain ⟨s1, e1, h1⟩ := pV_ex h lb rfl 2 (DI 1) (by show 2 < 5; decide)
  have f3 := l_gI (k := 0) h1 (ls _) rfl
  obtain ⟨s2, e2, h2⟩ := pV_ex h1 (va_up_s _ _ _) rfl 3 (DI (sS j 2)) (by show 3 < 5; decide)
  rw [bx_uu] at h2
  have f4 := l_gI (k := 3) h2 (ls _) rfl
  obtain ⟨s3, e3, h3⟩ := pV_ex h2 (va_up_s _ _ _) rfl 4 (DI (sS j 3)) (by show 4 < 5; decide)
  rw [bx_uu] at h3
  have h3 : NH s3 ad (va_up (va_up (CT ad day nb ns nx gB wB cB sS bX f6 f7 g8 g9 Q) 2 (some (ARO 3 8 g))) (50 + b) (some (OX (takX (bX b) (sS j))))) := h3
  have et : fX1_take st (ad (50 + b)) (some (ad (60 + j))) = some s3 := by
    unfold fX1_take
    rw [ob_of _ e1, ob_of _ f3, ob_of _ e2, ob_of _ f4, ob_of _ e3]
  have h4 : NH s3 ad (va_up (CT ad day nb ns nx gB wB cB sS (va_up bX b (takX (bX b) (sS j))) f6 f7 g8 g9 Q) 2 (some (ARO 3 8 g))) := h3.cong fun d => by
    rw [← cX_up hb hx]
    by_cases d1 : d = 2
    · rw [d1, va_up_s, va_up_n _ _ (by omega), va_up_s]
    · rw [va_up_n _ _ d1]
      by_cases d2 : d = 50 + b
      · rw [d2, va_up_s, va_up_s]
      · rw [va_up_n _ _ d2, va_up_n _ _ d2, va_up_n _ _ d1]
  obtain ⟨s5, e5, h5⟩ := y_sRs h4 (p := nI j) (i := j) rfl (by omega) (v := none) (Or.inl rfl)
  refine ⟨s5, ?_, h5⟩
  unfold fX4_moveIntoBox
  rw [ob_of _ (y_oR h), ob_of _ f2]
  show (oB (oR st (some (ad (50 + b))) 1) _) = _
  rw [ob_of _ ff7, ob_of _ et, ob_of _ (y_rs h4), ob_of _ e5]
theorem y_stay (h : NH st ad (va_up (CT ad day nb ns nx gB wB cB sS bX f6 f7 g8 g9 Q) 2 (some (ARO 3 8 g)))) (o : Option Nat) : fX4_moveIntoBox st (ad 0) (-1) o = some st := by
  unfold fX4_moveIntoBox
  rw [ob_of _ (y_oR h), ob_of _ (show fX4_findSlab st (ad 0) (-1) = some none from if_pos (by decide))]
  rfl
theorem c_fill (h : NH st ad (CT ad day nb ns nx gB wB cB sS bX f6 f7 g8 g9 Q)) (hb : nb ≤ 5) (hx : nx ≤ 6) (hs : ns ≤ 8) : ∃ st' g8' g9', fX4_fill st (ad 0) = some ((PL (pF nx bX sS (-1)) ns 6).2.2.1, st') ∧ NH st' (rnA ad (PL (pF nx bX sS (-1)) ns 6).2.2.2.2) (CT (rnA ad (PL (pF nx bX sS (-1)) ns 6).2.2.2.2) day nb ((PL (pF nx bX sS (-1)) ns 6).2.2.2.1) nx gB wB cB (fun t => sS ((PL (pF nx bX sS (-1)) ns 6).2.2.2.2 t)) (filX (PL (pF nx bX sS (-1)) ns 6).2.1 bX sS 6) f6 f7 (g8') (g9') Q) := by
  obtain ⟨s2, g8', g9', e2, h2, ha⟩ := c_planFilling h hx hs (-1)
  have hF := PL_fit (p := pF nx bX sS (-1)) (ns := ns) 6
  have hM := PL_mark (p := pF nx bX sS (-1)) (ns := ns) 6
  have hE := PL_EN (pF nx bX sS (-1)) ns 6
  have hL := PL_later (p := pF nx bX sS (-1)) (ns := ns) 6
  have hP : ∀ b j, (PL (pF nx bX sS (-1)) ns 6).2.1 b = some j → b < nx := fun b j q => by
    have := (hF b j q).2.1
    unfold pF at this
    rw [Bool.and_eq_true] at this
    exact of_decide_eq_true this.1
  obtain ⟨A, hA⟩ : ∃ A, A = (PL (pF nx bX sS (-1)) ns 6).2.1 := ⟨_, rfl⟩
  rw [← hA] at ha hF hM hL hP ⊢
  have h2' : NH s2 ad (va_up (CT ad day nb ns nx gB wB cB sS bX f6 f7 (g8') (g9') Q) 2 (some (ARO 3 8 (nR ad 60 ns)))) := h2.start (a := 2) rfl
  obtain ⟨b3, f3, G, h3, q1, q2⟩ := dlp_run (fX4_fill_L8 (ad 0)) (fun b z => z.2 = nI b ∧ ∃ G, NH z.1 ad (va_up (CT ad day nb ns nx gB wB cB sS (filX A bX sS b) f6 f7 (g8') (g9') Q) 2 (some (ARO 3 8 G))) ∧ (∀ j c, c < b → A c = some j → G j = none) ∧ ∀ j, (∀ c, c < b → A c ≠ some j) → G j = nR ad 60 ns j) (fun y => ∃ G, NH y.1 ad (va_up (CT ad day nb ns nx gB wB cB sS (filX A bX sS 6) f6 f7 (g8') (g9') Q) 2 (some (ARO 3 8 G))) ∧ (∀ j c, c < 6 → A c = some j → G j = none) ∧ ∀ j, (∀ c, c < 6 → A c ≠ some j) → G j = nR ad 60 ns j) 6 (fun b z hk hz => by
    obtain ⟨z1, z2⟩ := z
    obtain ⟨e2, G, hz, q1, q2⟩ := hz
    dsimp only at e2 hz
    subst e2
    unfold fX4_fill_L8
    dsimp only
    by_cases h6 : b = 6
    · subst h6
      exact Or.inr ⟨_, if_pos (show (6 : Int32) ≤ nI 6 by decide), G, hz, q1, q2⟩
    rw [if_neg (show ¬ (6 : Int32) ≤ nI b from nI_ge (b := 6) (by omega) (by omega)), ob_of _ (y_r8 hz), ob_of _ (y_a8 hz rfl (by omega)), ob_of _ (y_rx hz), ob_of _ (y_aRx hz rfl (by omega)), ob_of _ (y_oR hz), ha b (by omega)]
    refine Or.inl ?_
    rcases hb : A b with _ | j
    · rw [show ansN none = -1 from rfl, ob_of _ (y_stay hz _)]
      refine ⟨_, rfl, by omega, nI_1 _, G, ?_, fun j c hc hcj => ?_, fun j hj => q2 j fun c hc => hj c (by omega)⟩
      · rw [filX_s, hb]
        exact hz
      · by_cases e : c = b
        · rw [e, hb] at hcj
          cases hcj
        · exact q1 j c (by omega) hcj
    · have hj := (hF b j hb).1
      have hbx := hP b j hb
      have hGj : G j = some (ad (60 + j)) := by
        rw [q2 j fun c hc q => by have := (hF b j hb).2.2 c q; omega]
        exact if_pos hj
      obtain ⟨s9, e9, h9⟩ := y_move hz hj hs hbx hx hGj
      rw [filX_b] at h9
      rw [if_pos hbx, show ansN (some j) = nI j from rfl, ob_of _ e9]
      refine ⟨_, rfl, by omega, nI_1 _, va_up G j none, ?_, fun j' c hc hcj => ?_, fun j' hj' => ?_⟩
      · rw [filX_s, hb]
        exact h9
      · by_cases e : j' = j
        · rw [e, va_up_s]
        · rw [va_up_n _ _ e]
          refine q1 j' c ?_ hcj
          by_cases e2 : c = b
          · rw [e2, hb] at hcj
            exact absurd (Option.some.inj hcj).symm e
          · omega
      · have e : j' ≠ j := fun q => hj' b (by omega) (by rw [q]; exact hb)
        rw [va_up_n _ _ e]
        exact q2 j' fun c hc => hj' c (by omega)) (s2, 0) ⟨rfl, _, by rw [filX_0]; exact h2', fun j c hc => by omega, fun j _ => rfl⟩
  obtain ⟨s12, e12, h12⟩ := c_close h3 hb hs hx hE (fun j => by
    cases hm : (PL (pF nx bX sS (-1)) ns 6).1 j with
    | true =>
      obtain ⟨c, c1, c2⟩ := (hM j).mp hm
      rw [q1 j c c1 c2, if_neg (fun q => by cases q.2)]
    | false =>
      rw [q2 j fun c hc q => by
        have := (hM j).mpr ⟨c, hc, q⟩
        rw [hm] at this
        cases this]
      unfold nR
      by_cases q : j < ns
      · rw [if_pos q, if_pos ⟨q, rfl⟩]
      · rw [if_neg q, if_neg (fun z => q z.1)])
  refine ⟨s12, g8', g9', ?_, h12⟩
  unfold fX4_fill
  rw [ob_of _ (q_oR h), ob_of _ e2, ob_of _ f3, ob_of _ (y_oR h3), ob_of _ e12]
end CFILL
