/-! FILL AND ADVISE -/
def blo (a1 : Int32) (sS : Nat → Nat → Int32) (j : Nat) : Int32 := if nI j = a1 then jmax 0 (sS j 3 - 15) else sS j 3
def pF (nx : Nat) (bX sS : Nat → Nat → Int32) (a1 : Int32) (b j : Nat) : Bool := decide (b < nx) && fitB (bX b) (sS j) (blo a1 sS j)
def takX (x s : Nat → Int32) : Nat → Int32 := upd (upd (upd x 2 1) 3 (s 2)) 4 (s 3)
def filX (p : Nat → Option Nat) (bX sS : Nat → Nat → Int32) (b : Nat) : Nat → Nat → Int32 := fun c => if c < b then (match p c with | none => bX c | some j => takX (bX c) (sS j)) else bX c
theorem bI_1 : bI true = 1 := rfl
section CPLAN
variable {st : DSt} {ad : Nat → Nat} {day : Int32} {nb ns nx : Nat} {gB wB : Nat → Int32} {cB sS bX : Nat → Nat → Int32} {f6 f7 g8 g9 : Nat → Int32} {Q : Nat → Option DCel} {i b : Nat} {mk : Nat → Bool}
theorem c_planSlab (h : NH st ad (CT ad day nb ns nx gB wB cB sS bX f6 f7 g8 g9 Q)) (hj : b < nx) (hx : nx ≤ 6) (hs : ns ≤ 8) (hmk : ∀ j, j < 8 → g9 j = bI (mk j)) (a1 : Int32) : ∃ r, fX4_planSlab st (ad 0) (some (ad (50 + b))) a1 = some r ∧ (match firstN (fun j => !(mk j) && suitB (bX b) (sS j) (blo a1 sS j)) ns with
    | none => r = (-1, st)
    | some j => r.1 = nI j ∧ NH r.2 ad (CT ad day nb ns nx gB wB cB sS bX f6 f7 g8 (upd g9 j 1) Q)) := by
  obtain ⟨y, g1, g2⟩ := dlp_run (fX4_planSlab_L2 (ad 0) (some (ad (50 + b))) a1) (fun k z => z = (st, nI k) ∧ ∀ j, j < k → j < ns → (!(mk j) && suitB (bX b) (sS j) (blo a1 sS j)) = false) (fun y => match y with
    | .inl z => z.1 = st ∧ firstN (fun j => !(mk j) && suitB (bX b) (sS j) (blo a1 sS j)) ns = none
    | .inr r => ∃ j, firstN (fun j => !(mk j) && suitB (bX b) (sS j) (blo a1 sS j)) ns = some j ∧ r.1 = nI j ∧ NH r.2 ad (CT ad day nb ns nx gB wB cB sS bX f6 f7 g8 (upd g9 j 1) Q)) 8 (fun k z hk hz => by
    obtain ⟨rfl, hz⟩ := hz
    unfold fX4_planSlab_L2
    dsimp only
    by_cases h8 : k = 8
    · subst h8
      refine Or.inr ⟨_, if_pos (show (8 : Int32) ≤ nI 8 by decide), rfl, firstN_none.mpr fun j hj => hz j (by omega) hj⟩
    · rw [if_neg (show ¬ (8 : Int32) ≤ nI k from nI_ge (b := 8) (by omega) (by omega)), ob_of _ (q_rs h), ob_of _ (q_aRs h rfl (by omega))]
      by_cases hi : k < ns
      · rw [if_pos hi]
        show (∃ s', (oB (gR st (some (ad 0)) 4 10) _) = _ ∧ _) ∨ ∃ y, (oB (gR st (some (ad 0)) 4 10) _) = _ ∧ _
        rw [ob_of _ (q_r9 h), ob_of _ (q_a9 h rfl (by omega)), hmk k (by omega)]
        have step : (!(mk k) && suitB (bX b) (sS k) (blo a1 sS k)) = false → ∀ j, j < k + 1 → j < ns → (!(mk j) && suitB (bX b) (sS j) (blo a1 sS j)) = false := fun q j j1 j2 => by
          by_cases e : j = k
          · rw [e]; exact q
          · exact hz j (by omega) j2
        have found : (!(mk k) && suitB (bX b) (sS k) (blo a1 sS k)) = true → firstN (fun j => !(mk j) && suitB (bX b) (sS j) (blo a1 sS j)) ns = some k := fun q => firstN_is hi q fun j j1 => hz j j1 (by omega)
        have hw : ∃ st', sI st (some (ad 9)) 1 (nI k) (vp_nar .boolean 1) = some st' ∧ NH st' ad (CT ad day nb ns nx gB wB cB sS bX f6 f7 g8 (upd g9 k 1) Q) := w_9 h rfl (by omega) 1
        obtain ⟨s9, e9, h9⟩ := hw
        cases hm : mk k with
        | true =>
          rw [hm] at step
          rw [if_neg (show ¬ bI true = 0 by decide)]
          exact Or.inl ⟨_, rfl, by omega, by rw [nI_1], step rfl⟩
        | false =>
          rw [hm] at step found
          rw [if_pos (show bI false = 0 from rfl)]
          by_cases ha : nI k = a1
          · have eb : blo a1 sS k = jmax 0 (sS k 3 - 15) := if_pos ha
            rw [eb] at step found
            rw [if_pos ha, ob_of _ (q_so h hi), ob_of _ (show fX3_bloomBehindPolish st (ad (60 + k)) = some (jmax 0 (sS k 3 - 15)) by unfold fX3_bloomBehindPolish; rw [ob_of _ (q_s3 h hi)]), ob_of _ (q_xo h hj hx), ob_of _ (c_suits h hi hj hx _)]
            cases hsu : suitB (bX b) (sS k) (jmax 0 (sS k 3 - 15)) with
            | true =>
              rw [hsu] at found
              rw [if_neg (show ¬ bI true = 0 by decide), ob_of _ (q_r9 h), ob_of _ e9]
              exact Or.inr ⟨_, rfl, k, found rfl, rfl, h9⟩
            | false =>
              rw [hsu] at step
              rw [if_pos (show bI false = 0 from rfl)]
              exact Or.inl ⟨_, rfl, by omega, by rw [nI_1], step rfl⟩
          · have eb : blo a1 sS k = sS k 3 := if_neg ha
            rw [eb] at step found
            rw [if_neg ha, ob_of _ (q_s3 h hi), ob_of _ (q_xo h hj hx), ob_of _ (c_suits h hi hj hx _)]
            cases hsu : suitB (bX b) (sS k) (sS k 3) with
            | true =>
              rw [hsu] at found
              rw [if_neg (show ¬ bI true = 0 by decide), ob_of _ (q_r9 h), ob_of _ e9]
              exact Or.inr ⟨_, rfl, k, found rfl, rfl, h9⟩
            | false =>
              rw [hsu] at step
              rw [if_pos (show bI false = 0 from rfl)]
              exact Or.inl ⟨_, rfl, by omega, by rw [nI_1], step rfl⟩
      · rw [if_neg hi]
        exact Or.inl ⟨_, rfl, by omega, by rw [nI_1], fun j j1 j2 => hz j (by omega) j2⟩) (st, 0) ⟨rfl, fun j hj => by omega⟩
  unfold fX4_planSlab
  rw [ob_of _ g1]
  rcases y with y | r
  · obtain ⟨q1, q2⟩ := g2
    refine ⟨_, rfl, ?_⟩
    rw [q2]
    show (-1, y.1) = (-1, st)
    rw [q1]
  · obtain ⟨j, q1, q2, q3⟩ := g2
    refine ⟨_, rfl, ?_⟩
    rw [q1]
    exact ⟨q2, q3⟩
theorem c_planFilling (h : NH st ad (CT ad day nb ns nx gB wB cB sS bX f6 f7 g8 g9 Q)) (hx : nx ≤ 6) (hs : ns ≤ 8) (a1 : Int32) : ∃ st' g8' g9', fX4_planFilling st (ad 0) a1 = some ((PL (pF nx bX sS a1) ns 6).2.2.1, st') ∧ NH st' ad (CT ad day nb ns nx gB wB cB sS bX f6 f7 (g8') (g9') Q) ∧ ∀ b, b < 6 → g8' b = ansN ((PL (pF nx bX sS a1) ns 6).2.1 b) := by
  obtain ⟨b1, g1, ga, h1, g2⟩ := dlp_run (fX4_planFilling_L2 (ad 0)) (fun k z => z.2 = nI k ∧ ∃ g9', NH z.1 ad (CT ad day nb ns nx gB wB cB sS bX f6 f7 g8 (g9') Q) ∧ ∀ j, j < k → g9' j = 0) (fun b => ∃ g9', NH b.1 ad (CT ad day nb ns nx gB wB cB sS bX f6 f7 g8 (g9') Q) ∧ ∀ j, j < 8 → g9' j = 0) 8 (fun k z hk hz => by
    obtain ⟨z1, z2⟩ := z
    obtain ⟨e2, ga, hz, hg⟩ := hz
    dsimp only at e2 hz
    subst e2
    unfold fX4_planFilling_L2
    dsimp only
    by_cases h8 : k = 8
    · subst h8
      exact Or.inr ⟨_, if_pos (show (8 : Int32) ≤ nI 8 by decide), ga, hz, hg⟩
    · have hw : ∃ st', sI z1 (some (ad 9)) 1 (nI k) (vp_nar .boolean 0) = some st' ∧ NH st' ad (CT ad day nb ns nx gB wB cB sS bX f6 f7 g8 (upd ga k 0) Q) := w_9 hz rfl (by omega) 0
      obtain ⟨s9, e9, h9⟩ := hw
      rw [if_neg (show ¬ (8 : Int32) ≤ nI k from nI_ge (b := 8) (by omega) (by omega)), ob_of _ (q_r9 hz), ob_of _ e9]
      refine Or.inl ⟨_, rfl, by omega, nI_1 _, _, h9, fun j hj => ?_⟩
      by_cases e : j = k
      · rw [e, upd_s]
      · rw [upd_n _ _ e]; exact hg j (by omega)) (st, 0) ⟨rfl, g9, h, fun j hj => by omega⟩
  obtain ⟨b5, f1, fc, gb, gc, h5, f2⟩ := dlp_run (fX4_planFilling_L25 (ad 0) a1) (fun b z => z.2.2 = nI b ∧ z.2.1 = (PL (pF nx bX sS a1) ns b).2.2.1 ∧ ∃ g8' g9', NH z.1 ad (CT ad day nb ns nx gB wB cB sS bX f6 f7 (g8') (g9') Q) ∧ (∀ j, j < 8 → g9' j = bI ((PL (pF nx bX sS a1) ns b).1 j)) ∧ ∀ c, c < b → g8' c = ansN ((PL (pF nx bX sS a1) ns b).2.1 c)) (fun y => y.2.1 = (PL (pF nx bX sS a1) ns 6).2.2.1 ∧ ∃ g8' g9', NH y.1 ad (CT ad day nb ns nx gB wB cB sS bX f6 f7 (g8') (g9') Q) ∧ ∀ c, c < 6 → g8' c = ansN ((PL (pF nx bX sS a1) ns 6).2.1 c)) 6 (fun b z hk hz => by
    obtain ⟨z1, z2, z3⟩ := z
    obtain ⟨e3, e2, gb, gc, hz, hm, ha⟩ := hz
    dsimp only at e3 e2 hz
    subst e3
    unfold fX4_planFilling_L25
    dsimp only
    by_cases h6 : b = 6
    · subst h6
      exact Or.inr ⟨_, if_pos (show (6 : Int32) ≤ nI 6 by decide), e2, gb, gc, hz, ha⟩
    rw [if_neg (show ¬ (6 : Int32) ≤ nI b from nI_ge (b := 6) (by omega) (by omega)), ob_of _ (q_rx hz), ob_of _ (q_aRx hz rfl (by omega)), ob_of _ (q_r8 hz)]
    refine Or.inl ?_
    have skip : (∀ j, pF nx bX sS a1 b j = false) → ∀ s8, NH s8 ad (CT ad day nb ns nx gB wB cB sS bX f6 f7 (upd gb b (-1)) gc Q) → (s8, z2, nI b + 1).2.2 = nI (b + 1) ∧ (s8, z2, nI b + 1).2.1 = (PL (pF nx bX sS a1) ns (b + 1)).2.2.1 ∧ ∃ g8' g9', NH (s8, z2, nI b + 1).1 ad (CT ad day nb ns nx gB wB cB sS bX f6 f7 (g8') (g9') Q) ∧ (∀ j, j < 8 → g9' j = bI ((PL (pF nx bX sS a1) ns (b + 1)).1 j)) ∧ ∀ c, c < b + 1 → g8' c = ansN ((PL (pF nx bX sS a1) ns (b + 1)).2.1 c) := fun hp s8 h8 => by
      rw [PL_n (firstN_none.mpr fun j hj => by rw [hp j, Bool.and_false])]
      refine ⟨nI_1 _, e2, _, _, h8, hm, fun c hc => ?_⟩
      by_cases e : c = b
      · rw [e, upd_s, PL_later b b (Nat.le_refl _)]; rfl
      · rw [upd_n _ _ e]; exact ha c (by omega)
    by_cases hb : b < nx
    · rw [if_pos hb]
      show ∃ s', (oB (gI z1 (some (ad (50 + b))) 1 2) _) = _ ∧ _
      rw [ob_of _ (q_x2 hz hb hx)]
      by_cases h0 : bX b 2 = 0
      · rw [if_pos h0, ob_of _ (q_oR hz)]
        have ep : ∀ j, pF nx bX sS a1 b j = suitB (bX b) (sS j) (blo a1 sS j) := fun j => by
          unfold pF fitB
          rw [decide_eq_true hb, decide_eq_true h0, Bool.true_and, Bool.true_and]
        have ef : firstN (fun j => !((PL (pF nx bX sS a1) ns b).1 j) && suitB (bX b) (sS j) (blo a1 sS j)) ns = firstN (fun j => !((PL (pF nx bX sS a1) ns b).1 j) && pF nx bX sS a1 b j) ns := firstN_ext fun j hj => by rw [ep j]
        obtain ⟨r, q1, q2⟩ := c_planSlab hz hb hx hs hm a1
        rw [ef] at q2
        rcases hf : firstN (fun j => !((PL (pF nx bX sS a1) ns b).1 j) && pF nx bX sS a1 b j) ns with _ | j
        · rw [hf] at q2
          have q2 : r = (-1, z1) := q2
          subst q2
          obtain ⟨s8, e8, h8⟩ := w_8 hz (p := nI b) (i := b) rfl (by omega) (-1)
          rw [ob_of _ q1, ob_of _ e8, ob_of _ (q_r8 h8), ob_of _ (q_a8 h8 rfl (by omega)), upd_s, if_pos rfl]
          refine ⟨_, rfl, by omega, ?_⟩
          rw [PL_n hf]
          refine ⟨nI_1 _, e2, _, _, h8, hm, fun c hc => ?_⟩
          by_cases e : c = b
          · rw [e, upd_s, PL_later b b (Nat.le_refl _)]; rfl
          · rw [upd_n _ _ e]; exact ha c (by omega)
        · rw [hf] at q2
          obtain ⟨q2, q3⟩ : r.1 = nI j ∧ NH r.2 ad (CT ad day nb ns nx gB wB cB sS bX f6 f7 gb (upd gc j 1) Q) := q2
          obtain ⟨k1, -, -⟩ := firstN_some hf
          obtain ⟨s8, e8, h8⟩ := w_8 q3 (p := nI b) (i := b) rfl (by omega) r.1
          rw [ob_of _ q1, ob_of _ e8, ob_of _ (q_r8 h8), ob_of _ (q_a8 h8 rfl (by omega)), upd_s, q2, if_neg (show ¬ nI j = -1 from fun z => by rw [i_eq, i_nI (by omega), show (-1 : Int32).toInt = -1 by decide] at z; omega)]
          rw [q2] at h8
          refine ⟨_, rfl, by omega, ?_⟩
          rw [PL_s hf]
          refine ⟨nI_1 _, by show z2 + 1 = _; rw [e2], _, _, h8, fun j' hj' => ?_, fun c hc => ?_⟩
          · show upd gc j 1 j' = bI (va_up (PL (pF nx bX sS a1) ns b).1 j true j')
            by_cases e : j' = j
            · rw [e, upd_s, va_up_s]; rfl
            · rw [upd_n _ _ e, va_up_n _ _ e]; exact hm j' hj'
          · show upd gb b (nI j) c = ansN (va_up (PL (pF nx bX sS a1) ns b).2.1 b (some j) c)
            by_cases e : c = b
            · rw [e, upd_s, va_up_s]; rfl
            · rw [upd_n _ _ e, va_up_n _ _ e]; exact ha c (by omega)
      · obtain ⟨s8, e8, h8⟩ := w_8 hz (p := nI b) (i := b) rfl (by omega) (-1)
        rw [if_neg h0, ob_of _ e8, ob_of _ (q_r8 h8), ob_of _ (q_a8 h8 rfl (by omega)), upd_s, if_pos rfl]
        exact ⟨_, rfl, by omega, skip (fun j => by unfold pF fitB; rw [decide_eq_false h0, Bool.false_and, Bool.and_false]) _ h8⟩
    · obtain ⟨s8, e8, h8⟩ := w_8 hz (p := nI b) (i := b) rfl (by omega) (-1)
      rw [if_neg hb]
      show ∃ s', (oB (sI z1 (some (ad 8)) 0 (nI b) (-1)) _) = _ ∧ _
      rw [ob_of _ e8, ob_of _ (q_r8 h8), ob_of _ (q_a8 h8 rfl (by omega)), upd_s, if_pos rfl]
      exact ⟨_, rfl, by omega, skip (fun j => by unfold pF; rw [decide_eq_false hb, Bool.false_and]) _ h8⟩) (b1.1, 0, 0) ⟨rfl, rfl, g8, ga, h1, fun j hj => g2 j hj, fun c hc => by omega⟩
  refine ⟨b5.1, gb, gc, ?_, h5, f2⟩
  unfold fX4_planFilling
  rw [ob_of _ g1, ob_of _ f1, fc]
end CPLAN
