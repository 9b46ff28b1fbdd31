/-! FILL: the model -/
def pM (nx : Nat) (mX mS : Nat → Int32) (b j : Nat) : Bool := decide (b < nx) && fitB (rowS mX b) (rowS mS j) (mS (5 * j + 3))
theorem PL_stop {p : Nat → Nat → Bool} {ns nx : Nat} (h : ∀ b, nx ≤ b → ∀ j, p b j = false) : ∀ {B : Nat}, nx ≤ B → PL p ns B = PL p ns nx
  | 0, hB => by rw [show nx = 0 by omega]
  | B + 1, hB => by
    by_cases e : nx = B + 1
    · rw [e]
    · rw [PL_n (firstN_none.mpr fun j hj => by rw [h B (by omega) j, Bool.and_false]), PL_stop h (by omega)]
theorem filX_keep {p : Nat → Nat → Bool} {ns b : Nat} {bX sS : Nat → Nat → Int32} : filX (PL p ns (b + 1)).2.1 bX sS b = filX (PL p ns b).2.1 bX sS b := by
  funext c
  by_cases q : c < b
  · refine (if_pos q).trans (Eq.trans ?_ (if_pos q).symm)
    rw [PL_keep (p := p) (ns := ns) q (b + 1) (by omega)]
  · exact (if_neg q).trans (if_neg q).symm
section MFILL
variable {st : DSt} {ad : Nat → Nat} {l : Nat → Int64} {thr day : Int32} {nb ns nx : Nat} {mB mS mX k15 k16 t17 t18 : Nat → Int32} {r0 r2 r3 r4 r5 r6 : Nat → Option DCel} {i b : Nat} {p : Int32}
theorem m_fillOne (h : NH st ad (MT ad l thr day nb ns nx mB mS mX k15 k16 t17 t18 r0 r2 r3 r4 r5 r6)) (hs : ns ≤ 8) (hb : b < nx) (hx : nx ≤ 6) : ∃ r, fX5_fillOne st (ad 11) (nI b) = some r ∧ (match firstN (fun i => fitB (rowS mX b) (rowS mS i) (mS (5 * i + 3))) ns with
    | none => r = (0, st)
    | some i => r.1 = 1 ∧ NH r.2 ad (MT ad l thr day nb (ns - 1) nx mB (va_cpy mS mS (5 * (i + 1)) (5 * i) (5 * (ns - 1 - i))) (upd (upd (upd mX (5 * b + 2) 1) (5 * b + 3) (mS (5 * i + 2))) (5 * b + 4) (mS (5 * i + 3))) k15 k16 t17 t18 r0 r2 r3 r4 r5 r6)) := by
  obtain ⟨y, g1, g2⟩ := dlp_run (fX5_fillOne_L2 (ad 11) (nI b)) (fun k z => z = (st, nI k) ∧ ∀ j, j < k → fitB (rowS mX b) (rowS mS j) (mS (5 * j + 3)) = false) (fun y => match y with
    | .inl z => z.1 = st ∧ firstN (fun i => fitB (rowS mX b) (rowS mS i) (mS (5 * i + 3))) ns = none
    | .inr r => ∃ i, firstN (fun i => fitB (rowS mX b) (rowS mS i) (mS (5 * i + 3))) ns = some i ∧ r.1 = 1 ∧ NH r.2 ad (MT ad l thr day nb (ns - 1) nx mB (va_cpy mS mS (5 * (i + 1)) (5 * i) (5 * (ns - 1 - i))) (upd (upd (upd mX (5 * b + 2) 1) (5 * b + 3) (mS (5 * i + 2))) (5 * b + 4) (mS (5 * i + 3))) k15 k16 t17 t18 r0 r2 r3 r4 r5 r6)) ns (fun k z hk hz => by
    obtain ⟨rfl, hz⟩ := hz
    unfold fX5_fillOne_L2
    dsimp only
    rw [ob_of _ (m_ns h)]
    by_cases hn : k = ns
    · rw [if_pos (show nI ns ≤ nI k by rw [hn]; exact Int32.le_refl _)]
      exact Or.inr ⟨_, rfl, rfl, firstN_none.mpr fun j hj => hz j (by omega)⟩
    · rw [if_neg (nI_ge (by omega) (by omega)), ob_of _ (m_oR h), ob_of _ (m_fits h rfl (by omega) rfl (by omega))]
      cases hf : fitB (rowS mX b) (rowS mS k) (mS (5 * k + 3)) with
      | false =>
        rw [if_pos (show bI false = 0 from rfl)]
        refine Or.inl ⟨_, rfl, by omega, by rw [nI_1], fun j hj => ?_⟩
        by_cases e : j = k
        · rw [e]; exact hf
        · exact hz j (by omega)
      | true =>
        rw [if_neg (show ¬ bI true = 0 by decide), ob_of _ (m_r7 h)]
        obtain ⟨s1, e1, h1⟩ := sI_ex h (c := 14) m_c14 rfl (i := (5 * nI b) + 2) (5 * b + 2) (nI_m5 b 2) (by omega) (by omega) 1
        have h1 := x_14 _ h1
        obtain ⟨s2, e2, h2⟩ := sI_ex h1 (c := 14) m_c14 rfl (i := (5 * nI b) + 3) (5 * b + 3) (nI_m5 b 3) (by omega) (by omega) (mS (5 * k + 2))
        have h2 := x_14 _ h2
        obtain ⟨s3, e3, h3⟩ := sI_ex h2 (c := 14) m_c14 rfl (i := (5 * nI b) + 4) (5 * b + 4) (nI_m5 b 4) (by omega) (by omega) (mS (5 * k + 3))
        have h3 := x_14 _ h3
        obtain ⟨s4, e4, h4⟩ := x_away h3 (p := nI k) (i := k) rfl (by omega) hs
        rw [ob_of _ e1, ob_of _ (m_r7 h1), ob_of _ (m_oR h1), ob_of _ (m_sl (q := 2) (k := 2) h1 rfl rfl (by omega) (by omega)), ob_of _ e2, ob_of _ (m_r7 h2), ob_of _ (m_oR h2), ob_of _ (m_sl (q := 3) (k := 3) h2 rfl rfl (by omega) (by omega)), ob_of _ e3, ob_of _ (m_oR h3), ob_of _ e4, ob_of _ oz1]
        exact Or.inr ⟨_, rfl, k, firstN_is (by omega) hf hz, rfl, h4⟩) (st, 0) ⟨rfl, fun j hj => by omega⟩
  unfold fX5_fillOne
  rw [ob_of _ g1]
  rcases y with y | r
  · obtain ⟨q1, q2⟩ := g2
    refine ⟨(0, y.1), rfl, ?_⟩
    rw [q2]
    show (0, y.1) = (0, st)
    rw [q1]
  · obtain ⟨j, q1, q2, q3⟩ := g2
    refine ⟨_, rfl, ?_⟩
    rw [q1]
    exact ⟨q2, q3⟩
theorem m_fillAll (h : NH st ad (MT ad l thr day nb ns nx mB mS mX k15 k16 t17 t18 r0 r2 r3 r4 r5 r6)) (hs : ns ≤ 8) (hx : nx ≤ 6) : ∃ st' mS' mX', fX5_fillAll st (ad 11) = some ((PL (pM nx mX mS) ns 6).2.2.1, st') ∧ NH st' ad (MT ad l thr day nb ((PL (pM nx mX mS) ns 6).2.2.2.1) nx mB (mS') (mX') k15 k16 t17 t18 r0 r2 r3 r4 r5 r6) ∧ (∀ t, t < (PL (pM nx mX mS) ns 6).2.2.2.1 → ∀ k, k < 5 → mS' (5 * t + k) = mS (5 * (PL (pM nx mX mS) ns 6).2.2.2.2 t + k)) ∧ ∀ c k, k < 5 → mX' (5 * c + k) = filX (PL (pM nx mX mS) ns 6).2.1 (rowS mX) (rowS mS) 6 c k := by
  have hfe : ∀ c k, k < 5 → filX (PL (pM nx mX mS) ns 6).2.1 (rowS mX) (rowS mS) nx c k = filX (PL (pM nx mX mS) ns 6).2.1 (rowS mX) (rowS mS) 6 c k := fun c k hk => by
    rw [PL_stop (p := pM nx mX mS) (ns := ns) (fun b hb j => by unfold pM; rw [decide_eq_false (by omega), Bool.false_and]) hx]
    by_cases q : c < nx
    · rw [show filX (PL (pM nx mX mS) ns nx).2.1 (rowS mX) (rowS mS) nx c = _ from if_pos q, show filX (PL (pM nx mX mS) ns nx).2.1 (rowS mX) (rowS mS) 6 c = _ from if_pos (by omega)]
    · rw [show filX (PL (pM nx mX mS) ns nx).2.1 (rowS mX) (rowS mS) nx c = _ from if_neg q]
      by_cases q6 : c < 6
      · rw [show filX (PL (pM nx mX mS) ns nx).2.1 (rowS mX) (rowS mS) 6 c = _ from if_pos q6, PL_later (p := pM nx mX mS) (ns := ns) nx c (by omega)]
      · rw [show filX (PL (pM nx mX mS) ns nx).2.1 (rowS mX) (rowS mS) 6 c = _ from if_neg q6]
  have hst := PL_stop (p := pM nx mX mS) (ns := ns) (nx := nx) (fun b hb j => by unfold pM; rw [decide_eq_false (by omega), Bool.false_and]) hx
  obtain ⟨y, g1, g2, mS', mX', g3, g4, g5⟩ := dlp_run (fX5_fillAll_L4 (ad 11)) (fun b z => z.2.2 = nI b ∧ z.2.1 = (PL (pM nx mX mS) ns b).2.2.1 ∧ ∃ mS' mX', NH z.1 ad (MT ad l thr day nb ((PL (pM nx mX mS) ns b).2.2.2.1) nx mB (mS') (mX') k15 k16 t17 t18 r0 r2 r3 r4 r5 r6) ∧ (∀ t, t < (PL (pM nx mX mS) ns b).2.2.2.1 → ∀ k, k < 5 → mS' (5 * t + k) = mS (5 * (PL (pM nx mX mS) ns b).2.2.2.2 t + k)) ∧ ∀ c k, k < 5 → mX' (5 * c + k) = filX (PL (pM nx mX mS) ns b).2.1 (rowS mX) (rowS mS) b c k) (fun z => z.2.1 = (PL (pM nx mX mS) ns nx).2.2.1 ∧ ∃ mS' mX', NH z.1 ad (MT ad l thr day nb ((PL (pM nx mX mS) ns nx).2.2.2.1) nx mB (mS') (mX') k15 k16 t17 t18 r0 r2 r3 r4 r5 r6) ∧ (∀ t, t < (PL (pM nx mX mS) ns nx).2.2.2.1 → ∀ k, k < 5 → mS' (5 * t + k) = mS (5 * (PL (pM nx mX mS) ns nx).2.2.2.2 t + k)) ∧ ∀ c k, k < 5 → mX' (5 * c + k) = filX (PL (pM nx mX mS) ns nx).2.1 (rowS mX) (rowS mS) nx c k) nx (fun b z hk hz => by
    obtain ⟨z1, z2, z3⟩ := z
    obtain ⟨e3, e2, mS', mX', hz, k1, k2⟩ := hz
    dsimp only at e3 e2 hz
    subst e3
    unfold fX5_fillAll_L4
    dsimp only
    rw [ob_of _ (m_nx hz)]
    by_cases hn : b = nx
    · rw [if_pos (show nI nx ≤ nI b by rw [hn]; exact Int32.le_refl _)]
      subst hn
      exact Or.inr ⟨_, rfl, e2, mS', mX', hz, k1, k2⟩
    rw [if_neg (nI_ge (by omega) (by omega)), ob_of _ (m_oR hz)]
    refine Or.inl ?_
    have hE := PL_EN (pM nx mX mS) ns b
    have hm8 : (PL (pM nx mX mS) ns b).2.2.2.1 ≤ 8 := by have := hE.1; omega
    obtain ⟨r, q1, q2⟩ := m_fillOne hz hm8 (b := b) (by omega) hx
    have rowb : ∀ k, k < 5 → rowS mX' b k = rowS mX b k := fun k hk => by
      refine (k2 b k hk).trans ?_
      rw [filX_b]
    have ef : firstN (fun i => fitB (rowS mX' b) (rowS mS' i) (mS' (5 * i + 3))) (PL (pM nx mX mS) ns b).2.2.2.1 = firstN (fun i => pM nx mX mS b ((PL (pM nx mX mS) ns b).2.2.2.2 i)) (PL (pM nx mX mS) ns b).2.2.2.1 := firstN_ext fun i hi => by
      unfold pM
      rw [decide_eq_true (show b < nx by omega), Bool.true_and]
      exact fitB_eq rowb (fun k hk => k1 i hi k hk) (k1 i hi 3 (by omega))
    rw [ef] at q2
    rcases hf : firstN (fun i => pM nx mX mS b ((PL (pM nx mX mS) ns b).2.2.2.2 i)) (PL (pM nx mX mS) ns b).2.2.2.1 with _ | i
    · rw [hf] at q2
      have q2 : r = (0, z1) := q2
      subst q2
      have hnone := hE.find.1 hf
      rw [ob_of _ q1, if_pos rfl]
      refine ⟨_, rfl, by omega, nI_1 _, ?_, mS', mX', ?_⟩
      · rw [PL_n hnone, ← e2]
        exact Int32.add_zero _
      · rw [PL_n hnone]
        refine ⟨hz, k1, fun c k hk => ?_⟩
        rw [filX_s, PL_later (p := pM nx mX mS) (ns := ns) b b (Nat.le_refl _)]
        exact k2 c k hk
    · rw [hf] at q2
      obtain ⟨q2, q3⟩ := q2
      have hsome := hE.find.2 i hf
      obtain ⟨i1, -, -⟩ := firstN_some hf
      have hD := hE.drop i1
      rw [ob_of _ q1, q2, if_neg n10]
      refine ⟨_, rfl, by omega, nI_1 _, ?_, va_cpy mS' mS' (5 * (i + 1)) (5 * i) (5 * ((PL (pM nx mX mS) ns b).2.2.2.1 - 1 - i)), upd (upd (upd mX' (5 * b + 2) 1) (5 * b + 3) (mS' (5 * i + 2))) (5 * b + 4) (mS' (5 * i + 3)), ?_⟩
      · rw [PL_s hsome, ← e2]
      · rw [filX_s, filX_keep, PL_s hsome]
        refine ⟨q3, fun t ht k hk => ?_, fun c k hk => ?_⟩
        · dsimp only at ht ⊢
          rw [awF_i i1 ht hk, k1 _ (by split <;> omega) k hk, hD.2 t ht]
        · dsimp only
          rw [va_up_s]
          dsimp only
          by_cases e : c = b
          · rw [e, va_up_s]
            unfold takX
            have r2 : mS' (5 * i + 2) = rowS mS ((PL (pM nx mX mS) ns b).2.2.2.2 i) 2 := k1 i i1 2 (by omega)
            have r3 : mS' (5 * i + 3) = rowS mS ((PL (pM nx mX mS) ns b).2.2.2.2 i) 3 := k1 i i1 3 (by omega)
            rcases (show k = 0 ∨ k = 1 ∨ k = 2 ∨ k = 3 ∨ k = 4 by omega) with rfl | rfl | rfl | rfl | rfl
            · rw [upd_n _ _ (by omega), upd_n _ _ (by omega), upd_n _ _ (by omega), upd_n _ _ (by omega), upd_n _ _ (by omega), upd_n _ _ (by omega)]
              exact rowb 0 (by omega)
            · rw [upd_n _ _ (by omega), upd_n _ _ (by omega), upd_n _ _ (by omega), upd_n _ _ (by omega), upd_n _ _ (by omega), upd_n _ _ (by omega)]
              exact rowb 1 (by omega)
            · rw [upd_n _ _ (by omega), upd_n _ _ (by omega), upd_s, upd_n _ _ (by omega), upd_n _ _ (by omega), upd_s]
            · rw [upd_n _ _ (by omega), upd_s, upd_n _ _ (by omega), upd_s, r2]
            · rw [upd_s, upd_s, r3]
          · rw [va_up_n _ _ e, upd_n _ _ (by omega), upd_n _ _ (by omega), upd_n _ _ (by omega)]
            exact k2 c k hk) (st, 0, 0) ⟨rfl, rfl, mS, mX, h, fun t _ k _ => rfl, fun c k _ => by rw [filX_0]; rfl⟩
  refine ⟨y.1, mS', mX', ?_, ?_, ?_, ?_⟩
  · unfold fX5_fillAll
    rw [ob_of _ g1, g2, hst]
  · rw [hst]; exact g3
  · rw [hst]; exact g4
  · intro c k hk
    rw [← hfe c k hk, hst]
    exact g5 c k hk
end MFILL
