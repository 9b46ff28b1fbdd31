/-! MEAN AND DIGEST -/
theorem mean_nn : ∀ b, b < 9 → 0 < b → ∀ a, a < 801 → FP.ddiv (FP.i2d (nI a)) (FP.i2d (nI b)) &&& 0x7fffffffffffffff ≤ 0x7ff0000000000000 := by decide +kernel
theorem oDD_ok {a b : Nat} (hb : b < 9) (h0 : 0 < b) (ha : a < 801) : oDD (FP.i2d (nI a)) (FP.i2d (nI b)) = some (FP.ddiv (FP.i2d (nI a)) (FP.i2d (nI b))) := by
  unfold oDD
  exact if_pos (mean_nn b hb h0 a ha)
theorem cntM_in {sS : Nat → Nat → Int32} {ns : Nat} : ∀ {n : Nat}, n ≤ ns → ns ≤ 8 → (∀ i, i < ns → 0 ≤ (sS i 3).toInt ∧ (sS i 3).toInt ≤ 100) → 0 ≤ (foldN (cntM sS) n 0).toInt ∧ (foldN (cntM sS) n 0).toInt ≤ 100 * (n : Int)
  | 0, _, _, _ => by
    show 0 ≤ (0 : Int32).toInt ∧ (0 : Int32).toInt ≤ 0
    decide
  | n + 1, h1, h2, h => by
    have ih := cntM_in (sS := sS) (n := n) (by omega) h2 h
    have hn := h n (by omega)
    rw [foldN_s]
    unfold cntM
    rw [i_add] <;> (have ih := ih; unfold cntM at ih; omega)
def meanV (s : Int32) (ns : Nat) : UInt64 := if ns = 0 then FP.dconst0 else FP.ddiv (FP.i2d s) (FP.i2d (nI ns))
def dgF (v : Nat → Int32) (k : Nat) (a : Int64) : Int64 := (a * 31) + (v k).toInt64
def digV (day : Int32) (nb ns nx : Nat) (gB wB : Nat → Int32) (cB sS bX : Nat → Nat → Int32) : Int64 :=
  foldN (fun i a => foldN (dgF (bX i)) 5 a) nx (foldN (fun i a => foldN (dgF (aboutV (sS i) bX nx)) 7 a) ns (foldN (fun i a => foldN (dgF (toldV (gB i) (wB i) (cB i))) 8 a) nb (foldN (dgF (countV day nb ns nx gB sS bX)) 8 1789)))
section CDIG
variable {st : DSt} {ad : Nat → Nat} {day : Int32} {nb ns nx : Nat} {gB wB : Nat → Int32} {cB sS bX : Nat → Nat → Int32} {f6 f7 g8 g9 : Nat → Int32} {Q : Nat → Option DCel}
theorem c_mean (h : NH st ad (CT ad day nb ns nx gB wB cB sS bX f6 f7 g8 g9 Q)) (hs : ns ≤ 8) (hB : ∀ i, i < ns → 0 ≤ (sS i 3).toInt ∧ (sS i 3).toInt ≤ 100) : fX4_mean st (ad 0) = some (meanV (foldN (cntM sS) ns 0) ns) := by
  unfold fX4_mean meanV
  rw [ob_of _ (q_rs h), ob_of _ (q_aNs h), ob_of _ (c_sumBloom h hs), ob_of _ (q_ns h)]
  by_cases h0 : ns = 0
  · rw [if_neg (show ¬ 0 < nI ns by rw [h0]; decide), if_pos h0]
  · have hb := cntM_in (sS := sS) (ns := ns) (n := ns) (Nat.le_refl _) hs hB
    obtain ⟨a, ha, e, -⟩ := toN (x := foldN (cntM sS) ns 0) 800 hb.1 (by omega) (by omega)
    rw [if_pos (show 0 < nI ns from nI_lt (a := 0) (by omega) (by omega)), if_neg h0, ob_of _ (q_ns h), e, ob_of _ (oDD_ok (by omega) (by omega) (by omega))]
theorem c_digest (h : NH st ad (CT ad day nb ns nx gB wB cB sS bX f6 f7 g8 g9 Q)) (hb : nb ≤ 5) (hs : ns ≤ 8) (hx : nx ≤ 6) (h01 : ∀ i, i < nx → bX i 2 = 0 ∨ bX i 2 = 1) : fX4_digest st (ad 0) = some (digV day nb ns nx gB wB cB sS bX) := by
  have g1 := dlp_fold (fX4_digest_L6 st (ad 0)) (dgF (countV day nb ns nx gB sS bX)) 8 1789 (fun k a hk => by
    unfold fX4_digest_L6
    dsimp only
    rw [if_neg (show ¬ (7 : Int32) < nI k from nI_nlt (a := 7) (by omega) (by omega)), ob_of _ (q_oR h), c_count h hb hs hx (by omega)]
    rfl) (fun a => if_pos (show (7 : Int32) < nI 8 by decide))
  have g2 := dlp_fold (fX4_digest_L33 st (ad 0)) (fun i a => foldN (dgF (toldV (gB i) (wB i) (cB i))) 8 a) nb (foldN (dgF (countV day nb ns nx gB sS bX)) 8 1789) (fun i a hi => by
    unfold fX4_digest_L33
    dsimp only
    rw [ob_of _ (q_nb h), if_neg (nI_ge hi (by omega)), ob_of _ (dlp_fold (fX4_digest_L44 st (ad 0) (a, nI i)) (dgF (toldV (gB i) (wB i) (cB i))) 8 a (fun k a' hk => by
      unfold fX4_digest_L44
      dsimp only
      rw [if_neg (show ¬ (7 : Int32) < nI k from nI_nlt (a := 7) (by omega) (by omega)), ob_of _ (q_oR h), c_told h (ixO_nI hi (by omega)) hb (by omega)]
      rfl) (fun a => if_pos (show (7 : Int32) < nI 8 by decide)))]) (fun a => by
    unfold fX4_digest_L33
    dsimp only
    rw [ob_of _ (q_nb h), if_pos (Int32.le_refl _)])
  have g3 := dlp_fold (fX4_digest_L80 st (ad 0)) (fun i a => foldN (dgF (aboutV (sS i) bX nx)) 7 a) ns (foldN (fun i a => foldN (dgF (toldV (gB i) (wB i) (cB i))) 8 a) nb (foldN (dgF (countV day nb ns nx gB sS bX)) 8 1789)) (fun i a hi => by
    unfold fX4_digest_L80
    dsimp only
    rw [ob_of _ (q_ns h), if_neg (nI_ge hi (by omega)), ob_of _ (dlp_fold (fX4_digest_L91 st (ad 0) (a, nI i)) (dgF (aboutV (sS i) bX nx)) 7 a (fun k a' hk => by
      unfold fX4_digest_L91
      dsimp only
      rw [if_neg (show ¬ (6 : Int32) < nI k from nI_nlt (a := 6) (by omega) (by omega)), ob_of _ (q_oR h), c_about h (ixO_nI hi (by omega)) hs hx (by omega)]
      rfl) (fun a => if_pos (show (6 : Int32) < nI 7 by decide)))]) (fun a => by
    unfold fX4_digest_L80
    dsimp only
    rw [ob_of _ (q_ns h), if_pos (Int32.le_refl _)])
  have g4 := dlp_fold (fX4_digest_L127 st (ad 0)) (fun i a => foldN (dgF (bX i)) 5 a) nx (foldN (fun i a => foldN (dgF (aboutV (sS i) bX nx)) 7 a) ns (foldN (fun i a => foldN (dgF (toldV (gB i) (wB i) (cB i))) 8 a) nb (foldN (dgF (countV day nb ns nx gB sS bX)) 8 1789))) (fun i a hi => by
    unfold fX4_digest_L127
    dsimp only
    rw [ob_of _ (q_nx h), if_neg (nI_ge hi (by omega)), ob_of _ (dlp_fold (fX4_digest_L138 st (ad 0) (a, nI i)) (dgF (bX i)) 5 a (fun k a' hk => by
      unfold fX4_digest_L138
      dsimp only
      rw [if_neg (show ¬ (4 : Int32) < nI k from nI_nlt (a := 4) (by omega) (by omega)), ob_of _ (q_oR h), c_order h (ixO_nI hi (by omega)) hx (h01 i hi) (by omega)]
      rfl) (fun a => if_pos (show (4 : Int32) < nI 5 by decide)))]) (fun a => by
    unfold fX4_digest_L127
    dsimp only
    rw [ob_of _ (q_nx h), if_pos (Int32.le_refl _)])
  unfold fX4_digest
  rw [ob_of _ g1, ob_of _ g2, ob_of _ g3, ob_of _ g4]
  rfl
end CDIG
section MDIG
variable {st : DSt} {ad : Nat → Nat} {l : Nat → Int64} {thr day : Int32} {nb ns nx : Nat} {mB mS mX k15 k16 t17 t18 : Nat → Int32} {r0 r2 r3 r4 r5 r6 : Nat → Option DCel}
theorem m_mean (h : NH st ad (MT ad l thr day nb ns nx mB mS mX k15 k16 t17 t18 r0 r2 r3 r4 r5 r6)) (hs : ns ≤ 8) (hB : ∀ i, i < ns → 0 ≤ (rowS mS i 3).toInt ∧ (rowS mS i 3).toInt ≤ 100) : ∃ s', fX5_mean st (ad 11) = some (meanV (foldN (cntM (rowS mS)) ns 0) ns, s') ∧ NH s' ad (MT ad l (0) day nb ns nx mB mS mX k15 k16 t17 t18 r0 r2 r3 r4 r5 r6) := by
  obtain ⟨s1, e1, h1⟩ := x_thr h 0
  unfold fX5_mean meanV
  rw [ob_of _ e1, ob_of _ (m_sumBloom h1 hs), ob_of _ (m_ns h1)]
  by_cases h0 : ns = 0
  · rw [if_pos (show nI ns = 0 by rw [h0]; rfl), if_pos h0]
    exact ⟨_, rfl, h1⟩
  · have hb := cntM_in (sS := rowS mS) (ns := ns) (n := ns) (Nat.le_refl _) hs hB
    obtain ⟨a, ha, e, -⟩ := toN (x := foldN (cntM (rowS mS)) ns 0) 800 hb.1 (by omega) (by omega)
    rw [if_neg (nI_ne0 (by omega) (by omega)), if_neg h0, ob_of _ (m_ns h1), e, ob_of _ (oDD_ok (by omega) (by omega) (by omega))]
    exact ⟨_, rfl, h1⟩
theorem m_digIn (h : NH st ad (MT ad l thr day nb ns nx mB mS mX k15 k16 t17 t18 r0 r2 r3 r4 r5 r6)) {i : Nat} (hi : i < 5) (a : Int64) (z6 : DSt × Int64 × Int32) (hz : z6.2.2 = nI i) : ∃ b, dlp (fX5_digest_L49 (ad 11) z6) (st, a, 0) = some b ∧ b.2.1 = foldN (dgF (toldV (mB (7 * i)) (mB (7 * i + 6)) (rowB mB i))) 8 a ∧ ∃ t, NH b.1 ad (MT ad l thr day nb ns nx mB mS mX k15 k16 t t18 r0 r2 r3 r4 r5 r6) := by
  refine dlp_run (fX5_digest_L49 (ad 11) z6) (fun k z => z.2.2 = nI k ∧ z.2.1 = foldN (dgF (toldV (mB (7 * i)) (mB (7 * i + 6)) (rowB mB i))) k a ∧ ∃ t, NH z.1 ad (MT ad l thr day nb ns nx mB mS mX k15 k16 t t18 r0 r2 r3 r4 r5 r6)) (fun b => b.2.1 = foldN (dgF (toldV (mB (7 * i)) (mB (7 * i + 6)) (rowB mB i))) 8 a ∧ ∃ t, NH b.1 ad (MT ad l thr day nb ns nx mB mS mX k15 k16 t t18 r0 r2 r3 r4 r5 r6)) 8 (fun k z hk hz' => ?_) _ ⟨rfl, rfl, t17, h⟩
  obtain ⟨z1, z2, z3⟩ := z
  obtain ⟨e3, e2, t, hz1⟩ := hz'
  dsimp only at e3 e2 hz1
  subst e3; subst e2
  unfold fX5_digest_L49
  dsimp only
  by_cases h8 : k = 8
  · subst h8
    exact Or.inr ⟨_, if_pos (by decide), rfl, t, hz1⟩
  · obtain ⟨s2, t2, e2, h2⟩ := m_bowlTold hz1 hz hi (k := k) (by omega)
    rw [if_neg (show ¬ (8 : Int32) ≤ nI k from nI_ge (b := 8) (by omega) (by omega)), ob_of _ (m_oR hz1), ob_of _ e2]
    exact Or.inl ⟨_, rfl, by omega, nI_1 _, rfl, t2, h2⟩
theorem m_digest (h : NH st ad (MT ad l thr day nb ns nx mB mS mX k15 k16 t17 t18 r0 r2 r3 r4 r5 r6)) (hb : nb ≤ 5) (hs : ns ≤ 8) (hx : nx ≤ 6) (h01 : ∀ i, i < nx → mX (5 * i + 2) = 0 ∨ mX (5 * i + 2) = 1) : ∃ s' t, fX5_digest st (ad 11) = some (digV day nb ns nx (fun i => mB (7 * i)) (fun i => mB (7 * i + 6)) (rowB mB) (rowS mS) (rowS mX), s') ∧ NH s' ad (MT ad l (0) day nb ns nx mB mS mX k15 k16 t t18 r0 r2 r3 r4 r5 r6) := by
  obtain ⟨s1, e1, h1⟩ := x_thr h 0
  have g1 := dlp_fold (fX5_digest_L11 (ad 11) s1) (dgF (countV day nb ns nx (fun i => mB (7 * i)) (rowS mS) (rowS mX))) 8 1789 (fun k a hk => by
    unfold fX5_digest_L11
    dsimp only
    rw [if_neg (show ¬ (8 : Int32) ≤ nI k from nI_ge (b := 8) (by omega) (by omega)), ob_of _ (m_oR h1), ob_of _ (m_counted h1 hb hs hx h01 (by omega))]
    rfl) (fun a => if_pos (show (8 : Int32) ≤ nI 8 by decide))
  obtain ⟨A0, hA0⟩ : ∃ A, A = foldN (dgF (countV day nb ns nx (fun i => mB (7 * i)) (rowS mS) (rowS mX))) 8 1789 := ⟨_, rfl⟩
  rw [← hA0] at g1
  have g2 : ∃ b, dlp (fX5_digest_L38 (ad 11)) (s1, A0, 0) = some b ∧ b.2.1 = foldN (fun i a => foldN (dgF (toldV (mB (7 * i)) (mB (7 * i + 6)) (rowB mB i))) 8 a) nb A0 ∧ ∃ t, NH b.1 ad (MT ad l (0) day nb ns nx mB mS mX k15 k16 t t18 r0 r2 r3 r4 r5 r6) := by
    refine dlp_run (fX5_digest_L38 (ad 11)) (fun i z => z.2.2 = nI i ∧ z.2.1 = foldN (fun i a => foldN (dgF (toldV (mB (7 * i)) (mB (7 * i + 6)) (rowB mB i))) 8 a) i A0 ∧ ∃ t, NH z.1 ad (MT ad l (0) day nb ns nx mB mS mX k15 k16 t t18 r0 r2 r3 r4 r5 r6)) (fun b => b.2.1 = foldN (fun i a => foldN (dgF (toldV (mB (7 * i)) (mB (7 * i + 6)) (rowB mB i))) 8 a) nb A0 ∧ ∃ t, NH b.1 ad (MT ad l (0) day nb ns nx mB mS mX k15 k16 t t18 r0 r2 r3 r4 r5 r6)) nb (fun i z hk hz' => ?_) _ ⟨rfl, rfl, t17, h1⟩
    obtain ⟨z1, z2, z3⟩ := z
    obtain ⟨e3, e2, t, hz1⟩ := hz'
    dsimp only at e3 e2 hz1
    subst e3
    unfold fX5_digest_L38
    dsimp only
    rw [ob_of _ (m_nb hz1)]
    by_cases h8 : i = nb
    · rw [if_pos (by rw [h8]; exact Int32.le_refl _)]
      rw [h8] at e2
      exact Or.inr ⟨_, rfl, e2, t, hz1⟩
    · obtain ⟨b, f1, f2, t2, f3⟩ := m_digIn hz1 (i := i) (by omega) z2 (z1, z2, nI i) rfl
      rw [if_neg (nI_ge (by omega) (by omega)), ob_of _ f1]
      refine Or.inl ⟨_, rfl, by omega, nI_1 _, ?_, t2, f3⟩
      rw [foldN_s, ← e2]
      exact f2
  obtain ⟨b6, f6, f7, t, f8⟩ := g2
  obtain ⟨A1, hA1⟩ : ∃ A, A = foldN (fun i a => foldN (dgF (toldV (mB (7 * i)) (mB (7 * i + 6)) (rowB mB i))) 8 a) nb A0 := ⟨_, rfl⟩
  rw [← hA1] at f7
  have g3 := dlp_fold (fX5_digest_L85 (ad 11) b6) (fun i a => foldN (dgF (aboutV (rowS mS i) (rowS mX) nx)) 7 a) ns A1 (fun i a hi => by
    unfold fX5_digest_L85
    dsimp only
    rw [ob_of _ (m_ns f8), if_neg (nI_ge hi (by omega)), ob_of _ (dlp_fold (fX5_digest_L96 (ad 11) b6 (a, nI i)) (dgF (aboutV (rowS mS i) (rowS mX) nx)) 7 a (fun k a' hk => by
      unfold fX5_digest_L96
      dsimp only
      rw [if_neg (show ¬ (7 : Int32) ≤ nI k from nI_ge (b := 7) (by omega) (by omega)), ob_of _ (m_oR f8), ob_of _ (m_slabTold f8 rfl (by omega) hx (by omega))]
      rfl) (fun a => if_pos (show (7 : Int32) ≤ nI 7 by decide)))]) (fun a => by
    unfold fX5_digest_L85
    dsimp only
    rw [ob_of _ (m_ns f8), if_pos (Int32.le_refl _)])
  obtain ⟨A2, hA2⟩ : ∃ A, A = foldN (fun i a => foldN (dgF (aboutV (rowS mS i) (rowS mX) nx)) 7 a) ns A1 := ⟨_, rfl⟩
  rw [← hA2] at g3
  have g4 := dlp_fold (fX5_digest_L132 (ad 11) b6) (fun i a => foldN (dgF (rowS mX i)) 5 a) nx A2 (fun i a hi => by
    unfold fX5_digest_L132
    dsimp only
    rw [ob_of _ (m_nx f8), if_neg (nI_ge hi (by omega)), ob_of _ (dlp_fold (fX5_digest_L143 (ad 11) b6 (a, nI i)) (dgF (rowS mX i)) 5 a (fun k a' hk => by
      unfold fX5_digest_L143
      dsimp only
      rw [if_neg (show ¬ (5 : Int32) ≤ nI k from nI_ge (b := 5) (by omega) (by omega)), ob_of _ (m_oR f8), ob_of _ (m_bx f8 rfl rfl (by omega) (by omega))]
      rfl) (fun a => if_pos (show (5 : Int32) ≤ nI 5 by decide)))]) (fun a => by
    unfold fX5_digest_L132
    dsimp only
    rw [ob_of _ (m_nx f8), if_pos (Int32.le_refl _)])
  refine ⟨b6.1, t, ?_, f8⟩
  unfold fX5_digest
  rw [ob_of _ e1, ob_of _ g1, ob_of _ f6, f7, ob_of _ g3, ob_of _ g4]
  unfold digV
  rw [← hA0, ← hA1, ← hA2]
end MDIG
theorem digV_eq {day : Int32} {nb ns nx : Nat} {gB wB : Nat → Int32} {cB sS bX : Nat → Nat → Int32} {mB mS mX : Nat → Int32} (h : RELS nb ns nx gB wB cB sS bX mB mS mX) : digV day nb ns nx gB wB cB sS bX = digV day nb ns nx (fun i => mB (7 * i)) (fun i => mB (7 * i + 6)) (rowB mB) (rowS mS) (rowS mX) := by
  obtain ⟨h1, h2, h3, h4, h5, h6, -⟩ := id h
  unfold digV
  rw [foldN_congr (g := dgF (countV day nb ns nx gB sS bX)) (g' := dgF (countV day nb ns nx (fun i => mB (7 * i)) (rowS mS) (rowS mX))) fun k hk a => by unfold dgF; rw [countV_eq h]]
  rw [foldN_congr (g := fun i a => foldN (dgF (toldV (gB i) (wB i) (cB i))) 8 a) (g' := fun i a => foldN (dgF (toldV (mB (7 * i)) (mB (7 * i + 6)) (rowB mB i))) 8 a) fun i hi a => foldN_congr fun k hk a => by unfold dgF; rw [toldV_eq (h4 i hi)]]
  rw [foldN_congr (g := fun i a => foldN (dgF (aboutV (sS i) bX nx)) 7 a) (g' := fun i a => foldN (dgF (aboutV (rowS mS i) (rowS mX) nx)) 7 a) fun i hi a => foldN_congr fun k hk a => by unfold dgF; rw [aboutV_eq (h5 i hi) h6]]
  exact foldN_congr fun i hi a => foldN_congr fun k hk a => by unfold dgF; rw [(h6 i hi).1 k hk]; rfl
