/-! THE LAW'S LOOP -/
theorem lgc_same (x : Int64) : lg_cmp x x = 0 := by
  unfold lg_cmp
  rw [if_neg (show ¬ x > x from Int64.lt_irrefl), if_pos rfl]
theorem oR_pV {st s : DSt} {a ci k : Nat} {v : DV} (h : pV st (some a) ci k v = some s) : oR st (some a) ci = some a := by
  obtain ⟨⟨a', fs⟩, hq, -⟩ := ob h
  have := (gO_spec hq).1
  cases this
  unfold oR
  rw [hq]
  rfl
theorem INV.o0 {a0 a10 a11 : Nat} {t : Int32} {v : Int64} {st : DSt} (h : INV a0 a10 a11 t v st) : oR st (some a0) 4 = some a0 := by
  obtain ⟨ad, day, nb, ns, nx, gB, wB, cB, sS, bX, f6, f7, g8, g9, l, mB, mS, mX, k15, k16, t17, t18, e0, e10, e11, hv, h, hR⟩ := h
  rw [← e0]
  exact q_oR h
theorem tail_JOr {cd : String → Option Int32} {a0 a10 a11 : Nat} {r : (String × DHp) ⊕ (Int32 × DSt)} {G : DSt → Option (Int32 × DSt)} (hJ : JOr cd a0 a10 a11 r G) (hG : ∀ u, ∃ κ, G u = oB (pV u (some a11) 5 0 (DI 0)) κ) (K : DSt → Prop) (hK : ∀ t v u, INV a0 a10 a11 t v u → K u) : wrOK cd (some a10) r ∧ ∀ (k : Int32) (u : DSt), wrF cd (some a10) r (some (DI k)) u → (∀ q e, u.2 q = some e → q < u.1) → oR u (some a11) 5 = some a11 ∧ pB (G u) fun q => pB (oR q.2 (some a11) 5) fun b => pB (fX5_thrown q.2 b) fun t => if t = k then (if k = 0 then pB (aL q.2 (some a10) 5 0) fun v => if (lg_cmp v (q.1).toInt64) = 0 then K q.2 else ((0 : Int32) = 1) else K q.2) else ((0 : Int32) = 1) := by
  refine ⟨hJ.1, fun k u hw hd => ?_⟩
  obtain ⟨y, s', g1, v, hI, hv⟩ := hJ.2 k u hw hd
  refine ⟨?_, (y, s'), g1, ?_⟩
  · obtain ⟨κ, hκ⟩ := hG u
    rw [hκ] at g1
    obtain ⟨s, e, -⟩ := ob g1
    exact oR_pV e
  · have hKs := hK _ _ _ hI
    obtain ⟨ad, day, nb, ns, nx, gB, wB, cB, sS, bX, f6, f7, g8, g9, l, mB, mS, mX, k15, k16, t17, t18, e0, e10, e11, hl, h, hR⟩ := hI
    have hm : NH s' ad (MT ad l k day nb ns nx mB mS mX k15 k16 t17 t18 (T0 ad day nb ns nx f6 f7 g8 g9) (T2 ad nb gB wB) (T3 ad nb) (T4 nb cB) (T5 nx bX) (T6 ns sS)) := h
    have m1 := m_oR hm
    have m2 := m_thrown hm
    have m3 := l_aL (c := 10) (n := 1) (l := l) (kd := 5) (i := 0) h rfl 0 rfl (by omega) (by omega)
    rw [e11] at m1 m2
    rw [e10] at m3
    refine ⟨_, m1, _, m2, ?_⟩
    dsimp only
    rw [if_pos rfl]
    by_cases k0 : k = 0
    · rw [if_pos k0]
      refine ⟨_, m3, ?_⟩
      dsimp only
      rw [hl, hv k0, lgc_same, if_pos rfl]
      exact hKs
    · rw [if_neg k0]
      exact hKs
theorem sld_ok {xs : Nat → Int32} {L d : Nat} {i : Int32} (hi : i = nI d) (hd : d < L) (hL : L ≤ 2048) : sldO xs L i = some (xs d) := by
  subst hi
  unfold sldO
  rw [if_pos (inA_nI hd (by omega)), nI_clamp (by omega)]
theorem law_step {st q2 q4 z1 : DSt} {xs : Nat → Int32} {L k : Nat} {t : Int32} {v : Int64} (hI : INV st.1 q4.1 q2.1 t v z1) (hk : 4 * k + 4 ≤ L) (hL : L ≤ 2048) (K : DSt × Int32 → Prop) (hK : ∀ t v u, INV st.1 q4.1 q2.1 t v u → K (u, nI (4 * k) + 4)) : fL_law_L23 st xs L q2 q4 (z1, nI (4 * k)) K := by
  have o0 := hI.o0
  obtain ⟨ad, day, nb, ns, nx, gB, wB, cB, sS, bX, f6, f7, g8, g9, l, mB, mS, mX, k15, k16, t17, t18, e0, e10, e11, hl, h, hR⟩ := hI
  have hK' := hK
  rw [← e0, ← e10, ← e11] at hK
  have l0 : sldO xs L (nI (4 * k)) = some (xs (4 * k)) := sld_ok rfl (by omega) hL
  have l1 : sldO xs L (nI (4 * k) + 1) = some (xs (4 * k + 1)) := sld_ok (nI_add (4 * k) 1) (by omega) hL
  have l2 : sldO xs L (nI (4 * k) + 2) = some (xs (4 * k + 2)) := sld_ok (nI_add (4 * k) 2) (by omega) hL
  have l3 : sldO xs L (nI (4 * k) + 3) = some (xs (4 * k + 3)) := sld_ok (nI_add (4 * k) 3) (by omega) hL
  have hx : ¬ Int32.ofNat L - 4 < nI (4 * k) := by
    have eL : (Int32.ofNat L).toInt = (L : Int) := nI_toInt (n := L) (by omega)
    have e4 : (Int32.ofNat L - 4).toInt = (L : Int) - 4 := by rw [i_sub] <;> rw [eL, toInt_4] <;> omega
    rw [i_lt, e4, i_nI (by omega)]
    omega
  unfold fL_law_L23
  dsimp only
  rw [if_neg hx]
  refine ⟨_, l0, ?_⟩
  dsimp only
  by_cases c0 : xs (4 * k) &&& 31 = 0
  · rw [if_pos c0]
    obtain ⟨r, hr, hJ⟩ := op_bowl h hR (xs (4 * k + 1))
    obtain ⟨w1, w2⟩ := tail_JOr hJ (fun u => ⟨_, rfl⟩) (fun u => K (u, nI (4 * k) + 4)) hK
    rw [e0] at hr
    rw [e10] at w1 w2
    rw [e11] at w2
    refine ⟨_, l1, _, o0, r, hr, w1, fun k' u hw hd => ?_⟩
    obtain ⟨w3, w4⟩ := w2 k' u hw hd
    exact ⟨_, l1, _, w3, w4⟩
  rw [if_neg c0]
  by_cases c1 : xs (4 * k) &&& 31 = 1
  · rw [if_pos c1]
    obtain ⟨r, hr, hJ⟩ := op_warm h hR (xs (4 * k + 1)) (xs (4 * k + 2)) (xs (4 * k + 3))
    obtain ⟨w1, w2⟩ := tail_JOr hJ (fun u => ⟨_, rfl⟩) (fun u => K (u, nI (4 * k) + 4)) hK
    rw [e0] at hr
    rw [e10] at w1 w2
    rw [e11] at w2
    refine ⟨_, l1, _, l2, _, l3, _, o0, r, hr, w1, fun k' u hw hd => ?_⟩
    obtain ⟨w3, w4⟩ := w2 k' u hw hd
    exact ⟨_, l1, _, l2, _, l3, _, w3, w4⟩
  rw [if_neg c1]
  by_cases c2 : xs (4 * k) &&& 31 = 2
  · rw [if_pos c2]
    obtain ⟨r, hr, hJ⟩ := op_seed h hR (xs (4 * k + 1)) (xs (4 * k + 2))
    obtain ⟨w1, w2⟩ := tail_JOr hJ (fun u => ⟨_, rfl⟩) (fun u => K (u, nI (4 * k) + 4)) hK
    rw [e0] at hr
    rw [e10] at w1 w2
    rw [e11] at w2
    refine ⟨_, l1, _, l2, _, o0, r, hr, w1, fun k' u hw hd => ?_⟩
    obtain ⟨w3, w4⟩ := w2 k' u hw hd
    exact ⟨_, l1, _, l2, _, w3, w4⟩
  rw [if_neg c2]
  by_cases c3 : xs (4 * k) &&& 31 = 3
  · rw [if_pos c3]
    obtain ⟨r, hr, hJ⟩ := op_pour h hR (xs (4 * k + 1)) (xs (4 * k + 2))
    obtain ⟨w1, w2⟩ := tail_JOr hJ (fun u => ⟨_, rfl⟩) (fun u => K (u, nI (4 * k) + 4)) hK
    rw [e0] at hr
    rw [e10] at w1 w2
    rw [e11] at w2
    refine ⟨_, l1, _, l2, _, o0, r, hr, w1, fun k' u hw hd => ?_⟩
    obtain ⟨w3, w4⟩ := w2 k' u hw hd
    exact ⟨_, l1, _, l2, _, w3, w4⟩
  rw [if_neg c3]
  by_cases c4 : xs (4 * k) &&& 31 = 4
  · rw [if_pos c4]
    obtain ⟨r, hr, hJ⟩ := op_cast h hR (xs (4 * k + 1)) (xs (4 * k + 2)) (xs (4 * k + 3))
    obtain ⟨w1, w2⟩ := tail_JOr hJ (fun u => ⟨_, rfl⟩) (fun u => K (u, nI (4 * k) + 4)) hK
    rw [e0] at hr
    rw [e10] at w1 w2
    rw [e11] at w2
    refine ⟨_, l1, _, l2, _, l3, _, o0, r, hr, w1, fun k' u hw hd => ?_⟩
    obtain ⟨w3, w4⟩ := w2 k' u hw hd
    exact ⟨_, l1, _, l2, _, l3, _, w3, w4⟩
  rw [if_neg c4]
  by_cases c5 : xs (4 * k) &&& 31 = 5
  · rw [if_pos c5]
    obtain ⟨r, hr, hJ⟩ := op_polish h hR (xs (4 * k + 1))
    obtain ⟨w1, w2⟩ := tail_JOr hJ (fun u => ⟨_, rfl⟩) (fun u => K (u, nI (4 * k) + 4)) hK
    rw [e0] at hr
    rw [e10] at w1 w2
    rw [e11] at w2
    refine ⟨_, l1, _, o0, r, hr, w1, fun k' u hw hd => ?_⟩
    obtain ⟨w3, w4⟩ := w2 k' u hw hd
    exact ⟨_, l1, _, w3, w4⟩
  rw [if_neg c5]
  by_cases c6 : xs (4 * k) &&& 31 = 6
  · rw [if_pos c6]
    refine ⟨_, l1, _, l2, _, l3, ?_⟩
    dsimp only
    by_cases d0 : xs (4 * k + 3) = 0
    · rw [if_pos d0]
      obtain ⟨r, hr, hJ⟩ := op_split0 h hR (xs (4 * k + 1)) (xs (4 * k + 2))
      obtain ⟨w1, w2⟩ := tail_JOr hJ (fun u => ⟨_, rfl⟩) (fun u => K (u, nI (4 * k) + 4)) hK
      rw [e0] at hr
      rw [e10] at w1 w2
      rw [e11] at w2
      refine ⟨_, o0, r, hr, w1, fun k' u hw hd => ?_⟩
      obtain ⟨w3, w4⟩ := w2 k' u hw hd
      refine ⟨_, l1, _, l2, _, l3, ?_⟩
      dsimp only
      rw [if_pos d0]
      exact ⟨_, w3, w4⟩
    · rw [if_neg d0]
      obtain ⟨r, hr, hJ⟩ := op_split1 h hR (xs (4 * k + 1)) (xs (4 * k + 2))
      obtain ⟨w1, w2⟩ := tail_JOr hJ (fun u => ⟨_, rfl⟩) (fun u => K (u, nI (4 * k) + 4)) hK
      rw [e0] at hr
      rw [e10] at w1 w2
      rw [e11] at w2
      refine ⟨_, o0, r, hr, w1, fun k' u hw hd => ?_⟩
      obtain ⟨w3, w4⟩ := w2 k' u hw hd
      refine ⟨_, l1, _, l2, _, l3, ?_⟩
      dsimp only
      rw [if_neg d0]
      exact ⟨_, w3, w4⟩
  rw [if_neg c6]
  by_cases c7 : xs (4 * k) &&& 31 = 7
  · rw [if_pos c7]
    obtain ⟨r, hr, hJ⟩ := op_melt h hR (xs (4 * k + 1)) (xs (4 * k + 2))
    obtain ⟨w1, w2⟩ := tail_JOr hJ (fun u => ⟨_, rfl⟩) (fun u => K (u, nI (4 * k) + 4)) hK
    rw [e0] at hr
    rw [e10] at w1 w2
    rw [e11] at w2
    refine ⟨_, l1, _, l2, _, o0, r, hr, w1, fun k' u hw hd => ?_⟩
    obtain ⟨w3, w4⟩ := w2 k' u hw hd
    exact ⟨_, l1, _, l2, _, w3, w4⟩
  rw [if_neg c7]
  by_cases c8 : xs (4 * k) &&& 31 = 8
  · rw [if_pos c8]
    obtain ⟨r, hr, hJ⟩ := op_box h hR (xs (4 * k + 1)) (xs (4 * k + 2))
    obtain ⟨w1, w2⟩ := tail_JOr hJ (fun u => ⟨_, rfl⟩) (fun u => K (u, nI (4 * k) + 4)) hK
    rw [e0] at hr
    rw [e10] at w1 w2
    rw [e11] at w2
    refine ⟨_, l1, _, l2, _, o0, r, hr, w1, fun k' u hw hd => ?_⟩
    obtain ⟨w3, w4⟩ := w2 k' u hw hd
    exact ⟨_, l1, _, l2, _, w3, w4⟩
  rw [if_neg c8]
  by_cases c9 : xs (4 * k) &&& 31 = 9
  · rw [if_pos c9]
    obtain ⟨y, s1, s2, f1, f2, f3, t', v', f4⟩ := op_fill h hR
    rw [e0] at f1
    rw [e11] at f2 f3
    refine ⟨_, o0, _, f1, _, f2, _, f3, ?_⟩
    dsimp only
    rw [if_pos rfl]
    exact hK _ _ _ f4
  rw [if_neg c9]
  by_cases c10 : xs (4 * k) &&& 31 = 10
  · rw [if_pos c10]
    obtain ⟨r, hr, hJ⟩ := op_pass h hR (xs (4 * k + 1)) (xs (4 * k + 2))
    obtain ⟨w1, w2⟩ := tail_JOr hJ (fun u => ⟨_, rfl⟩) (fun u => K (u, nI (4 * k) + 4)) hK
    rw [e0] at hr
    rw [e10] at w1 w2
    rw [e11] at w2
    refine ⟨_, l1, _, l2, _, o0, r, hr, w1, fun k' u hw hd => ?_⟩
    obtain ⟨w3, w4⟩ := w2 k' u hw hd
    exact ⟨_, l1, _, l2, _, w3, w4⟩
  rw [if_neg c10]
  by_cases c11 : xs (4 * k) &&& 31 = 11
  · rw [if_pos c11]
    obtain ⟨r, hr, hJ⟩ := op_told h hR (xs (4 * k + 1)) (xs (4 * k + 2))
    obtain ⟨w1, w2⟩ := tail_JOr hJ (fun u => ⟨_, rfl⟩) (fun u => K (u, nI (4 * k) + 4)) hK
    rw [e0] at hr
    rw [e10] at w1 w2
    rw [e11] at w2
    refine ⟨_, l1, _, l2, _, o0, r, hr, w1, fun k' u hw hd => ?_⟩
    obtain ⟨w3, w4⟩ := w2 k' u hw hd
    exact ⟨_, l1, _, l2, _, w3, w4⟩
  rw [if_neg c11]
  by_cases c12 : xs (4 * k) &&& 31 = 12
  · rw [if_pos c12]
    obtain ⟨r, hr, hJ⟩ := op_about h hR (xs (4 * k + 1)) (xs (4 * k + 2))
    obtain ⟨w1, w2⟩ := tail_JOr hJ (fun u => ⟨_, rfl⟩) (fun u => K (u, nI (4 * k) + 4)) hK
    rw [e0] at hr
    rw [e10] at w1 w2
    rw [e11] at w2
    refine ⟨_, l1, _, l2, _, o0, r, hr, w1, fun k' u hw hd => ?_⟩
    obtain ⟨w3, w4⟩ := w2 k' u hw hd
    exact ⟨_, l1, _, l2, _, w3, w4⟩
  rw [if_neg c12]
  by_cases c13 : xs (4 * k) &&& 31 = 13
  · rw [if_pos c13]
    obtain ⟨r, hr, hJ⟩ := op_order h hR (xs (4 * k + 1)) (xs (4 * k + 2))
    obtain ⟨w1, w2⟩ := tail_JOr hJ (fun u => ⟨_, rfl⟩) (fun u => K (u, nI (4 * k) + 4)) hK
    rw [e0] at hr
    rw [e10] at w1 w2
    rw [e11] at w2
    refine ⟨_, l1, _, l2, _, o0, r, hr, w1, fun k' u hw hd => ?_⟩
    obtain ⟨w3, w4⟩ := w2 k' u hw hd
    exact ⟨_, l1, _, l2, _, w3, w4⟩
  rw [if_neg c13]
  by_cases c14 : xs (4 * k) &&& 31 = 14
  · rw [if_pos c14]
    obtain ⟨r, hr, hJ⟩ := op_count h hR (xs (4 * k + 1))
    obtain ⟨w1, w2⟩ := tail_JOr hJ (fun u => ⟨_, rfl⟩) (fun u => K (u, nI (4 * k) + 4)) hK
    rw [e0] at hr
    rw [e10] at w1 w2
    rw [e11] at w2
    refine ⟨_, l1, _, o0, r, hr, w1, fun k' u hw hd => ?_⟩
    obtain ⟨w3, w4⟩ := w2 k' u hw hd
    exact ⟨_, l1, _, w3, w4⟩
  rw [if_neg c14]
  by_cases c15 : xs (4 * k) &&& 31 = 15
  · rw [if_pos c15]
    obtain ⟨r, hr, hJ⟩ := op_would h hR (xs (4 * k + 1)) (xs (4 * k + 2)) (xs (4 * k + 3))
    obtain ⟨w1, w2⟩ := tail_JOr hJ (fun u => ⟨_, rfl⟩) (fun u => K (u, nI (4 * k) + 4)) hK
    rw [e0] at hr
    rw [e10] at w1 w2
    rw [e11] at w2
    refine ⟨_, l1, _, l2, _, l3, _, o0, r, hr, w1, fun k' u hw hd => ?_⟩
    obtain ⟨w3, w4⟩ := w2 k' u hw hd
    exact ⟨_, l1, _, l2, _, l3, _, w3, w4⟩
  rw [if_neg c15]
  by_cases c16 : xs (4 * k) &&& 31 = 16
  · rw [if_pos c16]
    obtain ⟨r, hr, hJ⟩ := op_best h hR (xs (4 * k + 1)) (xs (4 * k + 2)) (xs (4 * k + 3))
    obtain ⟨w1, w2⟩ := tail_JOr hJ (fun u => ⟨_, rfl⟩) (fun u => K (u, nI (4 * k) + 4)) hK
    rw [e0] at hr
    rw [e10] at w1 w2
    rw [e11] at w2
    refine ⟨_, l1, _, l2, _, l3, _, o0, r, hr, w1, fun k' u hw hd => ?_⟩
    obtain ⟨w3, w4⟩ := w2 k' u hw hd
    exact ⟨_, l1, _, l2, _, l3, _, w3, w4⟩
  rw [if_neg c16]
  by_cases c17 : xs (4 * k) &&& 31 = 17
  · rw [if_pos c17]
    obtain ⟨r, hr, hJ⟩ := op_until h hR (xs (4 * k + 1)) (xs (4 * k + 2))
    obtain ⟨w1, w2⟩ := tail_JOr hJ (fun u => ⟨_, rfl⟩) (fun u => K (u, nI (4 * k) + 4)) hK
    rw [e0] at hr
    rw [e10] at w1 w2
    rw [e11] at w2
    refine ⟨_, l1, _, l2, _, o0, r, hr, w1, fun k' u hw hd => ?_⟩
    obtain ⟨w3, w4⟩ := w2 k' u hw hd
    exact ⟨_, l1, _, l2, _, w3, w4⟩
  rw [if_neg c17]
  by_cases c18 : xs (4 * k) &&& 31 = 18
  · rw [if_pos c18]
    obtain ⟨y, s1, s2, f1, f2, f3, t', v', f4⟩ := op_advise h hR
    rw [e0] at f1
    rw [e11] at f2 f3
    refine ⟨_, o0, _, f1, _, f2, _, f3, ?_⟩
    dsimp only
    rw [if_pos rfl]
    exact hK _ _ _ f4
  rw [if_neg c18]
  by_cases c19 : xs (4 * k) &&& 31 = 19
  · rw [if_pos c19]
    obtain ⟨y, s2, f1, f2, f3, t', v', f4⟩ := op_mean h hR
    rw [e0] at f1
    rw [e11] at f2 f3
    refine ⟨_, o0, _, f1, _, f2, _, f3, ?_⟩
    dsimp only
    have hKs := hK _ _ _ f4
    by_cases q : Op.cmpValue (FP.dcmp y y) .l = 0
    · rw [if_pos q]; exact hKs
    · rw [if_neg q, if_neg q, if_neg q]; exact hKs
  rw [if_neg c19]
  by_cases c20 : xs (4 * k) &&& 31 = 20
  · rw [if_pos c20]
    obtain ⟨y, s2, f1, f2, f3, t', v', f4⟩ := op_digest h hR
    rw [e0] at f1
    rw [e11] at f2 f3
    refine ⟨_, o0, _, f1, _, f2, _, f3, ?_⟩
    dsimp only
    rw [lgc_same, if_pos rfl]
    exact hK _ _ _ f4
  rw [if_neg c20]
  exact hK' t v z1 ⟨ad, day, nb, ns, nx, gB, wB, cB, sS, bX, f6, f7, g8, g9, l, mB, mS, mX, k15, k16, t17, t18, e0, e10, e11, hl, h, hR⟩
theorem law_loop {st q2 q4 : DSt} {xs : Nat → Int32} {L : Nat} (hL : L ≤ 2048) : ∀ (fuel k : Nat) (z1 : DSt) (t : Int32) (v : Int64), INV st.1 q4.1 q2.1 t v z1 → 4 * k ≤ L + 0 → L < 4 * (k + fuel) → pLoop (fL_law_L23 st xs L q2 q4) fuel (z1, nI (4 * k))
  | 0, k, z1, t, v, hI, h1, h2 => by omega
  | fuel + 1, k, z1, t, v, hI, h1, h2 => by
    show fL_law_L23 st xs L q2 q4 (z1, nI (4 * k)) (pLoop (fL_law_L23 st xs L q2 q4) fuel)
    by_cases hk : 4 * k + 4 ≤ L
    · refine law_step hI hk hL _ fun t' v' u hu => ?_
      have := law_loop (xs := xs) hL fuel (k + 1) u t' v' hu (by omega) (by omega)
      rw [show nI (4 * k) + 4 = nI (4 * (k + 1)) from nI_add (4 * k) 4]
      exact this
    · unfold fL_law_L23
      dsimp only
      rw [if_pos (by
        have eL : (Int32.ofNat L).toInt = (L : Int) := nI_toInt (n := L) (by omega)
        have e4 : (Int32.ofNat L - 4).toInt = (L : Int) - 4 := by rw [i_sub] <;> rw [eL, toInt_4] <;> omega
        rw [i_lt, e4, i_nI (by omega)]
        omega)]
