/-! ONE THING DONE TO BOTH -/
def RB (g w : Int32) (c : Nat → Int32) : Prop := (0 ≤ g.toInt ∧ g.toInt ≤ 2000) ∧ (15 ≤ w.toInt ∧ w.toInt ≤ 50) ∧ BC c
def RS (day : Int32) (s : Nat → Int32) : Prop := (1 ≤ (s 0).toInt ∧ (s 0).toInt ≤ 6) ∧ (1 ≤ (s 1).toInt ∧ (s 1).toInt ≤ 6) ∧ (0 ≤ (s 2).toInt ∧ (s 2).toInt ≤ 100) ∧ (0 ≤ (s 3).toInt ∧ (s 3).toInt ≤ 100) ∧ 0 ≤ (s 4).toInt ∧ (s 4).toInt ≤ day.toInt
def RX (b : Nat → Int32) : Prop := (1 ≤ (b 0).toInt ∧ (b 0).toInt ≤ 36) ∧ (0 ≤ (b 1).toInt ∧ (b 1).toInt ≤ 100) ∧ ((b 2 = 0 ∧ b 3 = -1 ∧ b 4 = -1) ∨ (b 2 = 1 ∧ (b 1).toInt ≤ (b 3).toInt ∧ 0 ≤ (b 4).toInt ∧ (b 4).toInt ≤ 20))
def RV (D : Int) (day : Int32) (nb ns nx : Nat) (gB wB : Nat → Int32) (cB sS bX : Nat → Nat → Int32) : Prop := nb ≤ 5 ∧ ns ≤ 8 ∧ nx ≤ 6 ∧ (0 ≤ day.toInt ∧ day.toInt ≤ D) ∧ (∀ i, i < nb → RB (gB i) (wB i) (cB i)) ∧ (∀ i, i < ns → RS day (sS i)) ∧ ∀ i, i < nx → RX (bX i)
def sumI (f : Nat → Int) : Nat → Int
  | 0 => 0
  | n + 1 => sumI f n + f n
def TT (nb ns nx : Nat) (gB : Nat → Int32) (sS bX : Nat → Nat → Int32) : Int := sumI (fun i => (gB i).toInt) nb + 10 * sumI (fun i => (sS i 0).toInt * (sS i 1).toInt) ns + 10 * sumI (fun i => (bX i 2).toInt * (bX i 0).toInt) nx
def FF (nx : Nat) (bX : Nat → Nat → Int32) : Int := sumI (fun i => (bX i 2).toInt) nx
theorem sumI_congr {f g : Nat → Int} : ∀ {n : Nat}, (∀ i, i < n → f i = g i) → sumI f n = sumI g n
  | 0, _ => rfl
  | n + 1, h => by
    show sumI f n + f n = sumI g n + g n
    rw [sumI_congr fun i hi => h i (by omega), h n (by omega)]
theorem sumI_le {f g : Nat → Int} : ∀ {n : Nat}, (∀ i, i < n → f i ≤ g i) → sumI f n ≤ sumI g n
  | 0, _ => Int.le_refl _
  | n + 1, h => by
    show sumI f n + f n ≤ sumI g n + g n
    have := sumI_le (f := f) (g := g) (n := n) fun i hi => h i (by omega)
    have := h n (by omega)
    omega
theorem sumI_upd {f g : Nat → Int} {i : Nat} : ∀ {n : Nat}, i < n → (∀ j, j < n → j ≠ i → g j = f j) → sumI g n = sumI f n - f i + g i
  | 0, h, _ => by omega
  | n + 1, h, hg => by
    show sumI g n + g n = sumI f n + f n - f i + g i
    by_cases e : i = n
    · subst e
      rw [sumI_congr (f := g) (g := f) fun j hj => hg j (by omega) (by omega)]
      omega
    · rw [sumI_upd (f := f) (i := i) (n := n) (by omega) fun j hj hn => hg j (by omega) hn, hg n (by omega) (by omega)]
      omega
theorem sumI_del {f : Nat → Int} {i : Nat} : ∀ {n : Nat}, i < n + 1 → sumI (fun t => f (if t < i then t else t + 1)) n = sumI f (n + 1) - f i
  | 0, h => by
    rw [show i = 0 by omega]
    show (0 : Int) = 0 + f 0 - f 0
    omega
  | n + 1, h => by
    show sumI (fun t => f (if t < i then t else t + 1)) n + f (if n < i then n else n + 1) = sumI f (n + 1) + f (n + 1) - f i
    by_cases e : i = n + 1
    · subst e
      rw [if_pos (by omega), sumI_congr (g := f) fun t ht => by rw [if_pos (by omega)]]
      show sumI f n + f n = sumI f n + f n + f (n + 1) - f (n + 1)
      omega
    · rw [sumI_del (f := f) (i := i) (n := n) (by omega), if_neg (by omega)]
      omega
/-- what a doing leaves -/
def IV (a0 a10 : Nat) (day : Int32) (nb ns nx : Nat) (gB wB : Nat → Int32) (cB sS bX : Nat → Nat → Int32) (st : DSt) : Prop := ∃ (ad : Nat → Nat) (f6 f7 g8 g9 : Nat → Int32), ad 0 = a0 ∧ ad 10 = a10 ∧ NH st ad (CT ad day nb ns nx gB wB cB sS bX f6 f7 g8 g9 (SQ ad day nb ns nx nb ns nx gB wB cB sS bX none none))
def ACT (a0 a10 : Nat) (D : Int) (nb ns nx : Nat) (gB : Nat → Int32) (sS bX : Nat → Nat → Int32) (r : Option (Int32 × DSt)) : Prop := ∃ (st' : DSt) (day' : Int32) (nb' ns' nx' : Nat) (gB' wB' : Nat → Int32) (cB' sS' bX' : Nat → Nat → Int32), r = some (1, st') ∧ IV a0 a10 day' nb' ns' nx' gB' wB' cB' sS' bX' st' ∧ RV (D + 5) day' nb' ns' nx' gB' wB' cB' sS' bX' ∧ (nb ≤ nb' ∧ nb' ≤ nb + 1) ∧ FF nx bX ≤ FF nx' bX' ∧ TT nb' ns' nx' gB' sS' bX' = TT nb ns nx gB sS bX + (if nb' = nb then 0 else (gB' nb).toInt)
theorem nxo {α : Type} {F : Option ((String × DHp) ⊕ α)} {a : α} (h : F = some (.inr a)) : nX F = some a := by rw [h]; rfl
theorem e_ok {a b : Int32} {s : DSt} (h : a = b) : (oB (if a = b then some (1 : Int32) else some (0 : Int32)) fun j => oB (oZ j) fun v => some (v, s)) = some (1, s) := by
  rw [if_pos h]
  rfl
section ACTS
variable {st : DSt} {ad : Nat → Nat} {day : Int32} {nb ns nx : Nat} {gB wB : Nat → Int32} {cB sS bX : Nat → Nat → Int32} {f6 f7 g8 g9 : Nat → Int32} {a2 : Int32} {D : Int} {i j : Nat}
theorem RV.mono {D' : Int} (h : RV D day nb ns nx gB wB cB sS bX) (hD : D ≤ D') : RV D' day nb ns nx gB wB cB sS bX := ⟨h.1, h.2.1, h.2.2.1, ⟨h.2.2.2.1.1, by have := h.2.2.2.1.2; omega⟩, h.2.2.2.2⟩
theorem upd_id (f : Nat → Int32) (k : Nat) : upd f k (f k) = f := by
  funext j
  by_cases h : j = k
  · rw [h, upd_s]
  · rw [upd_n _ _ h]
theorem RV.bowl (h : RV D day nb ns nx gB wB cB sS bX) {g w : Int32} {c : Nat → Int32} (hn : RB g w c) : RV D day nb ns nx (upd gB i g) (upd wB i w) (va_up cB i c) sS bX := by
  obtain ⟨h1, h2, h3, h4, h5, h6⟩ := h
  refine ⟨h1, h2, h3, h4, fun j hj => ?_, h6⟩
  by_cases e : j = i
  · rw [e, upd_s, upd_s, va_up_s]
    exact hn
  · rw [upd_n _ _ e, upd_n _ _ e, va_up_n _ _ e]
    exact h5 j hj
theorem ACT_same (h : NH st ad (CT ad day nb ns nx gB wB cB sS bX f6 f7 g8 g9 (SQ ad day nb ns nx nb ns nx gB wB cB sS bX none none))) (hR : RV D day nb ns nx gB wB cB sS bX) : ACT (ad 0) (ad 10) D nb ns nx gB sS bX (oB (oZ 1) fun v => some (v, st)) := ⟨st, _, _, _, _, _, _, _, _, _, rfl, ⟨ad, _, _, _, _, rfl, rfl, h⟩, hR.mono (by omega), ⟨Nat.le_refl _, Nat.le_succ _⟩, Int.le_refl _, by rw [if_pos rfl]; omega⟩
theorem i15 : (15 : Int32).toInt = 15 := by decide
theorem i50 : (50 : Int32).toInt = 50 := by decide
theorem i2000 : (2000 : Int32).toInt = 2000 := by decide
theorem i1 : (1 : Int32).toInt = 1 := by decide
theorem i30 : (30 : Int32).toInt = 30 := by decide
theorem i10 : (10 : Int32).toInt = 10 := by decide
theorem i40 : (40 : Int32).toInt = 40 := by decide
theorem i60 : (60 : Int32).toInt = 60 := by decide
theorem i6 : (6 : Int32).toInt = 6 := by decide
theorem i36 : (36 : Int32).toInt = 36 := by decide
theorem a_warm (h : NH st ad (CT ad day nb ns nx gB wB cB sS bX f6 f7 g8 g9 (SQ ad day nb ns nx nb ns nx gB wB cB sS bX none none))) (hR : RV D day nb ns nx gB wB cB sS bX) (hi : i < nb) (q11 : Int32) : ACT (ad 0) (ad 10) D nb ns nx gB sS bX (fL_act_p180 st (some (ad 0)) a2 (nI i) q11 (some (ad (100 + i)))) := by
  obtain ⟨hb, hs, hx, hd, rB, rS, rX⟩ := id hR
  obtain ⟨g1, g2, g3⟩ := rB i hi
  have hat : ∃ m, 15 ≤ m ∧ m ≤ 50 ∧ (if q11 = 1 then oB (fL_below st (a2 >>> (3 &&& 31)) 36) fun q260 => some (15 + q260) else oB (fL_below st (a2 >>> (3 &&& 31)) 11) fun q259 => some (24 + q259)) = some (nI m) := by
    by_cases c : q11 = 1
    · obtain ⟨r, r1, r2⟩ := b_below (st := st) (a2 >>> (3 &&& 31)) (n := 36) (m := 36) rfl (by omega) (by omega)
      exact ⟨15 + r, by omega, by omega, by rw [if_pos c, ob_of _ r2]; exact congrArg some (nI_add 15 r)⟩
    · obtain ⟨r, r1, r2⟩ := b_below (st := st) (a2 >>> (3 &&& 31)) (n := 11) (m := 11) rfl (by omega) (by omega)
      exact ⟨24 + r, by omega, by omega, by rw [if_neg c, ob_of _ r2]; exact congrArg some (nI_add 24 r)⟩
  obtain ⟨m, m1, m2, em⟩ := hat
  obtain ⟨r3, r31, r32⟩ := b_below (st := st) a2 (n := 3) (m := 3) rfl (by omega) (by omega)
  have h40 : ∃ k, 1 ≤ k ∧ k ≤ 40 ∧ (if nI r3 = 0 then some (40 : Int32) else some (9 : Int32)) = some (nI k) := by
    by_cases c : nI r3 = 0
    · exact ⟨40, by omega, by omega, by rw [if_pos c]; rfl⟩
    · exact ⟨9, by omega, by omega, by rw [if_neg c]; rfl⟩
  obtain ⟨k, k1, k2, ek⟩ := h40
  obtain ⟨r5, r51, r52⟩ := b_below (st := st) (a2 >>> (5 &&& 31)) (n := nI k) (m := k) rfl (by omega) (by omega)
  have e15 : 1 + nI r5 = nI (1 + r5) := nI_add 1 r5
  obtain ⟨s1, e1, h1⟩ := t_warm h hb (ixO_nI hi (by omega)) g3 (a := nI m) (n := 1 + r5) (by rw [i_lt, i_nI (by omega), i15]; omega) (by rw [i_lt, i_nI (by omega), i50]; omega) (by omega) (by omega)
  obtain ⟨s2, e2, h2⟩ := z_kept (nI m) (n := 1 + r5) (by omega) h1 hi hb hs g3
  have et := s5_temper h2 (z_b hi hb hs) (z_c hi hb hs)
  rw [va_up_s] at et
  have er : fL_act_p180 st (some (ad 0)) a2 (nI i) q11 (some (ad (100 + i))) = some (1, s2) := by
    unfold fL_act_p180
    rw [ob_of _ em, ob_of _ r32, ob_of _ ek, ob_of _ r52, ob_of _ (q_oR h), e15, ob_of _ (nxo e1), ob_of _ (z_bo h1 hi hb hs), ob_of _ e2, ob_of _ (z_bo h2 hi hb hs), ob_of _ et]
    exact e_ok rfl
  rw [er]
  have hR' := (hR.mono (D' := D + 5) (by omega)).bowl (i := i) (g := gB i) (w := nI m) (c := turN (nI m) (cB i) (1 + r5)) ⟨g1, ⟨by rw [i_nI (by omega)]; omega, by rw [i_nI (by omega)]; omega⟩, g3.turs _⟩
  rw [upd_id] at hR'
  exact ⟨s2, _, _, _, _, _, _, _, _, _, rfl, ⟨ad, _, _, _, _, rfl, rfl, h2⟩, hR', ⟨Nat.le_refl _, Nat.le_succ _⟩, Int.le_refl _, by rw [if_pos rfl]; omega⟩
theorem a_seed (h : NH st ad (CT ad day nb ns nx gB wB cB sS bX f6 f7 g8 g9 (SQ ad day nb ns nx nb ns nx gB wB cB sS bX none none))) (hR : RV D day nb ns nx gB wB cB sS bX) (hi : i < nb) : ACT (ad 0) (ad 10) D nb ns nx gB sS bX (fL_act_p276 st (some (ad 0)) a2 (nI i) (some (ad (100 + i)))) := by
  obtain ⟨hb, hs, hx, hd, rB, rS, rX⟩ := id hR
  obtain ⟨g1, g2, g3⟩ := rB i hi
  obtain ⟨r, r1, r2⟩ := b_below (st := st) (a2 >>> (3 &&& 31)) (n := 30) (m := 30) rfl (by omega) (by omega)
  have e15 : 1 + nI r = nI (1 + r) := nI_add 1 r
  have ea := s5_all h (z_b hi hb hs) (z_c hi hb hs)
  obtain ⟨s1, e1, h1⟩ := zs_c h hi hb hs (p := 5) (k := 5) rfl (by omega) (cB i 5 + jmin (100 - sumN (cB i) 5) (nI (1 + r)))
  obtain ⟨s2, e2, h2⟩ := t_seed h1 hb (ixO_nI hi (by omega)) g3 (a := nI (1 + r)) (by rw [i_lt, i_nI (by omega), i1]; omega) (by rw [i_le, i_nI (by omega), i30]; omega)
  have c5 := z_ca h2 hi hb hs (p := 5) (k := 5) rfl (by omega)
  rw [va_up_s, upd_s] at c5
  have er : fL_act_p276 st (some (ad 0)) a2 (nI i) (some (ad (100 + i))) = some (1, s2) := by
    unfold fL_act_p276
    rw [ob_of _ r2, ob_of _ (z_bc h hi hb hs), ob_of _ (z_ca h hi hb hs (p := 5) (k := 5) rfl (by omega)), ob_of _ (z_bo h hi hb hs), ob_of _ ea, e15, jmin_comm, ob_of _ e1, ob_of _ (q_oR h1), ob_of _ (nxo e2), ob_of _ (z_bc h2 hi hb hs), ob_of _ c5]
    exact e_ok rfl
  rw [er]
  have i2 : (nI (1 + r)).toInt = 1 + r := by rw [i_nI (by omega)]; omega
  obtain ⟨q1, q2, q3⟩ := g3.inc (s := 5) (m := nI (1 + r)) (by omega) (by omega) (by omega) (by omega)
  have hR' := (hR.mono (D' := D + 5) (by omega)).bowl (i := i) (g := gB i) (w := wB i) (c := upd (cB i) 5 (cB i 5 + jmin (100 - sumN (cB i) 5) (nI (1 + r)))) ⟨g1, g2, q3⟩
  rw [upd_id, upd_id] at hR'
  exact ⟨s2, _, _, _, _, _, _, _, _, _, rfl, ⟨ad, _, _, _, _, rfl, rfl, h2⟩, hR', ⟨Nat.le_refl _, Nat.le_succ _⟩, Int.le_refl _, by rw [if_pos rfl]; omega⟩
theorem mixV_w {x y a b : Int32} (x1 : 15 ≤ x.toInt) (x2 : x.toInt ≤ 50) (y1 : 15 ≤ y.toInt) (y2 : y.toInt ≤ 50) (a1 : 0 ≤ a.toInt) (a2 : a.toInt ≤ 2000) (b1 : 0 ≤ b.toInt) (b2 : b.toInt ≤ 2000) (hs : 0 < a.toInt + b.toInt) : 15 ≤ (mixV x y a b).toInt ∧ (mixV x y a b).toInt ≤ 50 := by
  have l1 := Int.mul_le_mul_of_nonneg_right x1 a1
  have l2 := Int.mul_le_mul_of_nonneg_right y1 b1
  have u1 := Int.mul_le_mul_of_nonneg_right x2 a1
  have u2 := Int.mul_le_mul_of_nonneg_right y2 b1
  have e1 : (x * a).toInt = x.toInt * a.toInt := i_mul (by omega) (by omega)
  have e2 : (y * b).toInt = y.toInt * b.toInt := i_mul (by omega) (by omega)
  have e3 : ((x * a) + (y * b)).toInt = x.toInt * a.toInt + y.toInt * b.toInt := by rw [i_add] <;> rw [e1, e2] <;> omega
  have e4 : (a + b).toInt = a.toInt + b.toInt := i_add (by omega) (by omega)
  have e5 : (mixV x y a b).toInt = (x.toInt * a.toInt + y.toInt * b.toInt) / (a.toInt + b.toInt) := by
    unfold mixV
    rw [i_div (by rw [e3]; omega) (by rw [e4]; omega), e3, e4]
  rw [e5]
  refine ⟨?_, ?_⟩
  · rw [Int.le_ediv_iff_mul_le hs, Int.mul_add]
    omega
  · have := (Int.ediv_lt_iff_lt_mul hs (a := x.toInt * a.toInt + y.toInt * b.toInt) (b := 51)).mpr (by rw [Int.mul_add]; omega)
    omega
theorem p_loop1 (h : NH st ad (CT ad day nb ns nx gB wB cB sS bX f6 f7 g8 g9 (SQ ad day nb ns nx nb ns nx gB wB cB sS bX none none))) (hR : RV D day nb ns nx gB wB cB sS bX) (hi : i < nb) (hj : j < nb) (hij : i ≠ j) (h0 : ¬ gB i + gB j = 0) : ∃ b, dlp (fL_act_L398 (some (ad (100 + i))) (some (ad (100 + j))) (gB i) (gB j)) (st, 1) = some b ∧ NH b.1 ad (CT ad day nb ns nx gB wB cB sS bX f6 f7 g8 g9 ((SQ ad day nb ns nx nb ns nx gB wB (va_up cB i (likN (cB i) (fun m => mixV (cB i m) (cB j m) (gB i) (gB j)) 5)) sS bX none none))) := by
  obtain ⟨hb, hs, hx, hd, rB, rS, rX⟩ := id hR
  obtain ⟨b, g1, g2⟩ := dlp_run (fL_act_L398 (some (ad (100 + i))) (some (ad (100 + j))) (gB i) (gB j)) (fun k z => z.2 = nI (k + 1) ∧ NH z.1 ad (CT ad day nb ns nx gB wB cB sS bX f6 f7 g8 g9 ((SQ ad day nb ns nx nb ns nx gB wB (va_up cB i (likN (cB i) (fun m => mixV (cB i m) (cB j m) (gB i) (gB j)) k)) sS bX none none)))) (fun b => NH b.1 ad (CT ad day nb ns nx gB wB cB sS bX f6 f7 g8 g9 ((SQ ad day nb ns nx nb ns nx gB wB (va_up cB i (likN (cB i) (fun m => mixV (cB i m) (cB j m) (gB i) (gB j)) 5)) sS bX none none)))) 5 (fun k z hk hz => by
    obtain ⟨z1, z2⟩ := z
    obtain ⟨rfl, hz⟩ := hz
    dsimp only at hz
    unfold fL_act_L398
    dsimp only
    by_cases h5 : k = 5
    · subst h5
      exact Or.inr ⟨_, if_pos (show (6 : Int32) ≤ nI 6 by decide), hz⟩
    · refine Or.inl ?_
      have ci := z_ca hz hi hb hs (p := nI (k + 1)) (k := k + 1) rfl (by omega)
      rw [va_up_s, show likN (cB i) (fun m => mixV (cB i m) (cB j m) (gB i) (gB j)) k (k + 1) = cB i (k + 1) from if_neg (by omega)] at ci
      have cj := z_ca hz hj hb hs (p := nI (k + 1)) (k := k + 1) rfl (by omega)
      rw [va_up_n _ _ (Ne.symm hij)] at cj
      obtain ⟨s9, e9, h9⟩ := zs_c hz hi hb hs (p := nI (k + 1)) (k := k + 1) rfl (by omega) (mixV (cB i (k + 1)) (cB j (k + 1)) (gB i) (gB j))
      rw [bx_uu, va_up_s, show upd (likN (cB i) (fun m => mixV (cB i m) (cB j m) (gB i) (gB j)) k) (k + 1) (mixV (cB i (k + 1)) (cB j (k + 1)) (gB i) (gB j)) = likN (cB i) (fun m => mixV (cB i m) (cB j m) (gB i) (gB j)) (k + 1) from likN_s _ (fun m => mixV (cB i m) (cB j m) (gB i) (gB j)) k] at h9
      rw [if_neg (show ¬ (6 : Int32) ≤ nI (k + 1) from nI_ge (b := 6) (by omega) (by omega)), ob_of _ (z_bc hz hi hb hs), ob_of _ (z_bc hz hi hb hs), ob_of _ ci, ob_of _ (z_bg hz hi hb hs), ob_of _ (z_bc hz hj hb hs), ob_of _ cj, ob_of _ (z_bg hz hj hb hs), ob_of _ (oD_of h0)]
      show ∃ s', (oB (sI z1 (some (ad (110 + i))) 0 (nI (k + 1)) (mixV (cB i (k + 1)) (cB j (k + 1)) (gB i) (gB j))) _) = _ ∧ _
      rw [ob_of _ e9]
      exact ⟨_, rfl, by omega, nI_1 _, h9⟩) (st, 1) ⟨rfl, by
        show NH st ad (CT ad day nb ns nx gB wB cB sS bX f6 f7 g8 g9 ((SQ ad day nb ns nx nb ns nx gB wB (va_up cB i (likN (cB i) (fun m => mixV (cB i m) (cB j m) (gB i) (gB j)) 0)) sS bX none none)))
        rw [likN_0, up2_id]
        exact h⟩
  exact ⟨b, g1, g2⟩
theorem p_loop2 {dB : Nat → Nat → Int32} {hB vB : Nat → Int32} (h : NH st ad (CT ad day nb ns nx gB wB cB sS bX f6 f7 g8 g9 ((SQ ad day nb ns nx nb ns nx hB vB dB sS bX none none)))) (hb : nb ≤ 5) (hs : ns ≤ 8) (hj : j < nb) : ∃ b, dlp (fL_act_L498 (some (ad (100 + j)))) (st, 1) = some b ∧ NH b.1 ad (CT ad day nb ns nx gB wB cB sS bX f6 f7 g8 g9 ((SQ ad day nb ns nx nb ns nx hB vB (va_up dB j (likN (dB j) (fun _ => 0) 5)) sS bX none none))) := by
  obtain ⟨b, g1, g2⟩ := dlp_run (fL_act_L498 (some (ad (100 + j)))) (fun k z => z.2 = nI (k + 1) ∧ NH z.1 ad (CT ad day nb ns nx gB wB cB sS bX f6 f7 g8 g9 ((SQ ad day nb ns nx nb ns nx hB vB (va_up dB j (likN (dB j) (fun _ => 0) k)) sS bX none none)))) (fun b => NH b.1 ad (CT ad day nb ns nx gB wB cB sS bX f6 f7 g8 g9 ((SQ ad day nb ns nx nb ns nx hB vB (va_up dB j (likN (dB j) (fun _ => 0) 5)) sS bX none none)))) 5 (fun k z hk hz => by
    obtain ⟨z1, z2⟩ := z
    obtain ⟨rfl, hz⟩ := hz
    dsimp only at hz
    unfold fL_act_L498
    dsimp only
    by_cases h5 : k = 5
    · subst h5
      exact Or.inr ⟨_, if_pos (show (6 : Int32) ≤ nI 6 by decide), hz⟩
    · refine Or.inl ?_
      obtain ⟨s9, e9, h9⟩ := zs_c hz hj hb hs (p := nI (k + 1)) (k := k + 1) rfl (by omega) 0
      rw [bx_uu, va_up_s, show upd (likN (dB j) (fun _ => 0) k) (k + 1) 0 = likN (dB j) (fun _ => 0) (k + 1) from likN_s _ (fun _ => 0) k] at h9
      rw [if_neg (show ¬ (6 : Int32) ≤ nI (k + 1) from nI_ge (b := 6) (by omega) (by omega)), ob_of _ (z_bc hz hj hb hs), ob_of _ e9]
      exact ⟨_, rfl, by omega, nI_1 _, h9⟩) (st, 1) ⟨rfl, by
        show NH st ad (CT ad day nb ns nx gB wB cB sS bX f6 f7 g8 g9 ((SQ ad day nb ns nx nb ns nx hB vB (va_up dB j (likN (dB j) (fun _ => 0) 0)) sS bX none none)))
        rw [likN_0, up2_id]
        exact h⟩
  exact ⟨b, g1, g2⟩
end ACTS
