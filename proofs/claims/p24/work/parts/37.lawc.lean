/-! WHAT THE LAW LOOKS AT AFTER EACH THING -/
def cntZ (bX : Nat → Nat → Int32) (k : Nat) (a : Int32) : Int32 := a + bX k 2 * bX k 0
theorem sub3 (a x y z : Int32) : a - z - y - x = a - x - y - z := by
  have sw : ∀ a x y : Int32, a - x - y = a - y - x := fun a x y => by
    rw [Int32.sub_eq_add_neg, Int32.sub_eq_add_neg, Int32.sub_eq_add_neg, Int32.sub_eq_add_neg, Int32.add_assoc, Int32.add_assoc, Int32.add_comm (-x) (-y)]
  rw [sw a z y, sw (a - y) z x, sw a y x]
theorem fold_sum {α : Type} {g : Nat → α} {u : α → Int} {F : Nat → Int32 → Int32} {v : Nat → Int32} (hF : ∀ k a, F k a = a + v k) {m : Int} (m0 : 0 ≤ m) (mM : m ≤ 10000) : ∀ {n : Nat}, n ≤ 10 → (∀ k, k < n → 0 ≤ (v k).toInt ∧ (v k).toInt ≤ m) → (foldN F n 0).toInt = sumI (fun k => (v k).toInt) n ∧ 0 ≤ sumI (fun k => (v k).toInt) n ∧ sumI (fun k => (v k).toInt) n ≤ m * n
  | 0, _, _ => ⟨by show (0 : Int32).toInt = 0; decide, Int.le_refl _, by show (0 : Int) ≤ m * 0; omega⟩
  | n + 1, hn, h => by
    obtain ⟨e1, e2, e3⟩ := fold_sum (g := g) (u := u) hF m0 mM (n := n) (by omega) (fun k hk => h k (by omega))
    obtain ⟨h1, h2⟩ := h n (by omega)
    have q1 : m * ((n + 1 : Nat) : Int) = m * n + m := by rw [show ((n + 1 : Nat) : Int) = (n : Int) + 1 by omega, Int.mul_add, Int.mul_one]
    have q2 : m * (n : Int) ≤ 10000 * 10 := Int.mul_le_mul mM (by omega) (by omega) (by omega)
    refine ⟨?_, ?_, ?_⟩
    · show (foldN F (n + 1) 0).toInt = sumI (fun k => (v k).toInt) n + (v n).toInt
      rw [foldN_s, hF, i_add] <;> rw [e1] <;> omega
    · show 0 ≤ sumI (fun k => (v k).toInt) n + (v n).toInt
      omega
    · show sumI (fun k => (v k).toInt) n + (v n).toInt ≤ _
      omega
section LOOKS
variable {st : DSt} {ad : Nat → Nat} {day : Int32} {nb ns nx : Nat} {gB wB : Nat → Int32} {cB sS bX : Nat → Nat → Int32} {f6 f7 g8 g9 : Nat → Int32} {D : Int} {i k : Nat}
theorem RV.x01 (hR : RV D day nb ns nx gB wB cB sS bX) (hi : i < nx) : bX i 2 = 0 ∨ bX i 2 = 1 := by
  rcases (hR.2.2.2.2.2.2 i hi).2.2 with q | q
  · exact Or.inl q.1
  · exact Or.inr q.1
theorem l_cn0 (h : NH st ad (CT ad day nb ns nx gB wB cB sS bX f6 f7 g8 g9 (SQ ad day nb ns nx nb ns nx gB wB cB sS bX none none))) (hR : RV D day nb ns nx gB wB cB sS bX) : nX (fX4_count st (ad 0) 0) = some (day) := nxo (show fX4_count st (ad 0) 0 = some (.inr (countV day nb ns nx gB sS bX 0)) from c_count h hR.1 hR.2.1 hR.2.2.1 (k := 0) (by omega))
theorem l_cn1 (h : NH st ad (CT ad day nb ns nx gB wB cB sS bX f6 f7 g8 g9 (SQ ad day nb ns nx nb ns nx gB wB cB sS bX none none))) (hR : RV D day nb ns nx gB wB cB sS bX) : nX (fX4_count st (ad 0) 1) = some (nI nb) := nxo (show fX4_count st (ad 0) 1 = some (.inr (countV day nb ns nx gB sS bX 1)) from c_count h hR.1 hR.2.1 hR.2.2.1 (k := 1) (by omega))
theorem l_cn2 (h : NH st ad (CT ad day nb ns nx gB wB cB sS bX f6 f7 g8 g9 (SQ ad day nb ns nx nb ns nx gB wB cB sS bX none none))) (hR : RV D day nb ns nx gB wB cB sS bX) : nX (fX4_count st (ad 0) 2) = some (nI ns) := nxo (show fX4_count st (ad 0) 2 = some (.inr (countV day nb ns nx gB sS bX 2)) from c_count h hR.1 hR.2.1 hR.2.2.1 (k := 2) (by omega))
theorem l_cn3 (h : NH st ad (CT ad day nb ns nx gB wB cB sS bX f6 f7 g8 g9 (SQ ad day nb ns nx nb ns nx gB wB cB sS bX none none))) (hR : RV D day nb ns nx gB wB cB sS bX) : nX (fX4_count st (ad 0) 3) = some (nI nx) := nxo (show fX4_count st (ad 0) 3 = some (.inr (countV day nb ns nx gB sS bX 3)) from c_count h hR.1 hR.2.1 hR.2.2.1 (k := 3) (by omega))
theorem l_cn4 (h : NH st ad (CT ad day nb ns nx gB wB cB sS bX f6 f7 g8 g9 (SQ ad day nb ns nx nb ns nx gB wB cB sS bX none none))) (hR : RV D day nb ns nx gB wB cB sS bX) : nX (fX4_count st (ad 0) 4) = some (foldN (cntX bX) nx 0) := nxo (show fX4_count st (ad 0) 4 = some (.inr (countV day nb ns nx gB sS bX 4)) from c_count h hR.1 hR.2.1 hR.2.2.1 (k := 4) (by omega))
theorem l_cn5 (h : NH st ad (CT ad day nb ns nx gB wB cB sS bX f6 f7 g8 g9 (SQ ad day nb ns nx nb ns nx gB wB cB sS bX none none))) (hR : RV D day nb ns nx gB wB cB sS bX) : nX (fX4_count st (ad 0) 5) = some (foldN (cntG gB) nb 0) := nxo (show fX4_count st (ad 0) 5 = some (.inr (countV day nb ns nx gB sS bX 5)) from c_count h hR.1 hR.2.1 hR.2.2.1 (k := 5) (by omega))
theorem l_cn6 (h : NH st ad (CT ad day nb ns nx gB wB cB sS bX f6 f7 g8 g9 (SQ ad day nb ns nx nb ns nx gB wB cB sS bX none none))) (hR : RV D day nb ns nx gB wB cB sS bX) : nX (fX4_count st (ad 0) 6) = some (foldN (cntQ sS) ns 0) := nxo (show fX4_count st (ad 0) 6 = some (.inr (countV day nb ns nx gB sS bX 6)) from c_count h hR.1 hR.2.1 hR.2.2.1 (k := 6) (by omega))
theorem l_cn7 (h : NH st ad (CT ad day nb ns nx gB wB cB sS bX f6 f7 g8 g9 (SQ ad day nb ns nx nb ns nx gB wB cB sS bX none none))) (hR : RV D day nb ns nx gB wB cB sS bX) : nX (fX4_count st (ad 0) 7) = some (foldN (cntB sS) ns 0) := nxo (show fX4_count st (ad 0) 7 = some (.inr (countV day nb ns nx gB sS bX 7)) from c_count h hR.1 hR.2.1 hR.2.2.1 (k := 7) (by omega))
theorem l_td0 (h : NH st ad (CT ad day nb ns nx gB wB cB sS bX f6 f7 g8 g9 (SQ ad day nb ns nx nb ns nx gB wB cB sS bX none none))) (hR : RV D day nb ns nx gB wB cB sS bX) (hi : i < nb) : nX (fX4_told st (ad 0) (nI i) 0) = some (gB i) := nxo (show fX4_told st (ad 0) (nI i) 0 = some (.inr (toldV (gB i) (wB i) (cB i) 0)) from c_told h (ixO_nI hi (by have := hR.1; omega)) hR.1 (k := 0) (by omega))
theorem l_td1 (h : NH st ad (CT ad day nb ns nx gB wB cB sS bX f6 f7 g8 g9 (SQ ad day nb ns nx nb ns nx gB wB cB sS bX none none))) (hR : RV D day nb ns nx gB wB cB sS bX) (hi : i < nb) : nX (fX4_told st (ad 0) (nI i) 1) = some (cB i 1) := nxo (show fX4_told st (ad 0) (nI i) 1 = some (.inr (toldV (gB i) (wB i) (cB i) 1)) from c_told h (ixO_nI hi (by have := hR.1; omega)) hR.1 (k := 1) (by omega))
theorem l_td2 (h : NH st ad (CT ad day nb ns nx gB wB cB sS bX f6 f7 g8 g9 (SQ ad day nb ns nx nb ns nx gB wB cB sS bX none none))) (hR : RV D day nb ns nx gB wB cB sS bX) (hi : i < nb) : nX (fX4_told st (ad 0) (nI i) 2) = some (cB i 2) := nxo (show fX4_told st (ad 0) (nI i) 2 = some (.inr (toldV (gB i) (wB i) (cB i) 2)) from c_told h (ixO_nI hi (by have := hR.1; omega)) hR.1 (k := 2) (by omega))
theorem l_td3 (h : NH st ad (CT ad day nb ns nx gB wB cB sS bX f6 f7 g8 g9 (SQ ad day nb ns nx nb ns nx gB wB cB sS bX none none))) (hR : RV D day nb ns nx gB wB cB sS bX) (hi : i < nb) : nX (fX4_told st (ad 0) (nI i) 3) = some (cB i 3) := nxo (show fX4_told st (ad 0) (nI i) 3 = some (.inr (toldV (gB i) (wB i) (cB i) 3)) from c_told h (ixO_nI hi (by have := hR.1; omega)) hR.1 (k := 3) (by omega))
theorem l_td4 (h : NH st ad (CT ad day nb ns nx gB wB cB sS bX f6 f7 g8 g9 (SQ ad day nb ns nx nb ns nx gB wB cB sS bX none none))) (hR : RV D day nb ns nx gB wB cB sS bX) (hi : i < nb) : nX (fX4_told st (ad 0) (nI i) 4) = some (cB i 4) := nxo (show fX4_told st (ad 0) (nI i) 4 = some (.inr (toldV (gB i) (wB i) (cB i) 4)) from c_told h (ixO_nI hi (by have := hR.1; omega)) hR.1 (k := 4) (by omega))
theorem l_td5 (h : NH st ad (CT ad day nb ns nx gB wB cB sS bX f6 f7 g8 g9 (SQ ad day nb ns nx nb ns nx gB wB cB sS bX none none))) (hR : RV D day nb ns nx gB wB cB sS bX) (hi : i < nb) : nX (fX4_told st (ad 0) (nI i) 5) = some (cB i 5) := nxo (show fX4_told st (ad 0) (nI i) 5 = some (.inr (toldV (gB i) (wB i) (cB i) 5)) from c_told h (ixO_nI hi (by have := hR.1; omega)) hR.1 (k := 5) (by omega))
theorem l_td6 (h : NH st ad (CT ad day nb ns nx gB wB cB sS bX f6 f7 g8 g9 (SQ ad day nb ns nx nb ns nx gB wB cB sS bX none none))) (hR : RV D day nb ns nx gB wB cB sS bX) (hi : i < nb) : nX (fX4_told st (ad 0) (nI i) 6) = some (wB i) := nxo (show fX4_told st (ad 0) (nI i) 6 = some (.inr (toldV (gB i) (wB i) (cB i) 6)) from c_told h (ixO_nI hi (by have := hR.1; omega)) hR.1 (k := 6) (by omega))
theorem l_td7 (h : NH st ad (CT ad day nb ns nx gB wB cB sS bX f6 f7 g8 g9 (SQ ad day nb ns nx nb ns nx gB wB cB sS bX none none))) (hR : RV D day nb ns nx gB wB cB sS bX) (hi : i < nb) : nX (fX4_told st (ad 0) (nI i) 7) = some (temF (cB i)) := nxo (show fX4_told st (ad 0) (nI i) 7 = some (.inr (toldV (gB i) (wB i) (cB i) 7)) from c_told h (ixO_nI hi (by have := hR.1; omega)) hR.1 (k := 7) (by omega))
theorem l_ab0 (h : NH st ad (CT ad day nb ns nx gB wB cB sS bX f6 f7 g8 g9 (SQ ad day nb ns nx nb ns nx gB wB cB sS bX none none))) (hR : RV D day nb ns nx gB wB cB sS bX) (hi : i < ns) : nX (fX4_about st (ad 0) (nI i) 0) = some (sS i 0) := nxo (show fX4_about st (ad 0) (nI i) 0 = some (.inr (aboutV (sS i) bX nx 0)) from c_about h (ixO_nI hi (by have := hR.2.1; omega)) hR.2.1 hR.2.2.1 (k := 0) (by omega))
theorem l_ab1 (h : NH st ad (CT ad day nb ns nx gB wB cB sS bX f6 f7 g8 g9 (SQ ad day nb ns nx nb ns nx gB wB cB sS bX none none))) (hR : RV D day nb ns nx gB wB cB sS bX) (hi : i < ns) : nX (fX4_about st (ad 0) (nI i) 1) = some (sS i 1) := nxo (show fX4_about st (ad 0) (nI i) 1 = some (.inr (aboutV (sS i) bX nx 1)) from c_about h (ixO_nI hi (by have := hR.2.1; omega)) hR.2.1 hR.2.2.1 (k := 1) (by omega))
theorem l_ab2 (h : NH st ad (CT ad day nb ns nx gB wB cB sS bX f6 f7 g8 g9 (SQ ad day nb ns nx nb ns nx gB wB cB sS bX none none))) (hR : RV D day nb ns nx gB wB cB sS bX) (hi : i < ns) : nX (fX4_about st (ad 0) (nI i) 2) = some (sS i 2) := nxo (show fX4_about st (ad 0) (nI i) 2 = some (.inr (aboutV (sS i) bX nx 2)) from c_about h (ixO_nI hi (by have := hR.2.1; omega)) hR.2.1 hR.2.2.1 (k := 2) (by omega))
theorem l_ab3 (h : NH st ad (CT ad day nb ns nx gB wB cB sS bX f6 f7 g8 g9 (SQ ad day nb ns nx nb ns nx gB wB cB sS bX none none))) (hR : RV D day nb ns nx gB wB cB sS bX) (hi : i < ns) : nX (fX4_about st (ad 0) (nI i) 3) = some (sS i 3) := nxo (show fX4_about st (ad 0) (nI i) 3 = some (.inr (aboutV (sS i) bX nx 3)) from c_about h (ixO_nI hi (by have := hR.2.1; omega)) hR.2.1 hR.2.2.1 (k := 3) (by omega))
theorem l_ab4 (h : NH st ad (CT ad day nb ns nx gB wB cB sS bX f6 f7 g8 g9 (SQ ad day nb ns nx nb ns nx gB wB cB sS bX none none))) (hR : RV D day nb ns nx gB wB cB sS bX) (hi : i < ns) : nX (fX4_about st (ad 0) (nI i) 4) = some (sS i 4) := nxo (show fX4_about st (ad 0) (nI i) 4 = some (.inr (aboutV (sS i) bX nx 4)) from c_about h (ixO_nI hi (by have := hR.2.1; omega)) hR.2.1 hR.2.2.1 (k := 4) (by omega))
theorem l_ab5 (h : NH st ad (CT ad day nb ns nx gB wB cB sS bX f6 f7 g8 g9 (SQ ad day nb ns nx nb ns nx gB wB cB sS bX none none))) (hR : RV D day nb ns nx gB wB cB sS bX) (hi : i < ns) : nX (fX4_about st (ad 0) (nI i) 5) = some (sS i 0 * sS i 1) := nxo (show fX4_about st (ad 0) (nI i) 5 = some (.inr (aboutV (sS i) bX nx 5)) from c_about h (ixO_nI hi (by have := hR.2.1; omega)) hR.2.1 hR.2.2.1 (k := 5) (by omega))
theorem l_ab6 (h : NH st ad (CT ad day nb ns nx gB wB cB sS bX f6 f7 g8 g9 (SQ ad day nb ns nx nb ns nx gB wB cB sS bX none none))) (hR : RV D day nb ns nx gB wB cB sS bX) (hi : i < ns) : nX (fX4_about st (ad 0) (nI i) 6) = some (ansN (firstN (fun j => fitB (bX j) (sS i) (sS i 3)) nx)) := nxo (show fX4_about st (ad 0) (nI i) 6 = some (.inr (aboutV (sS i) bX nx 6)) from c_about h (ixO_nI hi (by have := hR.2.1; omega)) hR.2.1 hR.2.2.1 (k := 6) (by omega))
theorem l_od0 (h : NH st ad (CT ad day nb ns nx gB wB cB sS bX f6 f7 g8 g9 (SQ ad day nb ns nx nb ns nx gB wB cB sS bX none none))) (hR : RV D day nb ns nx gB wB cB sS bX) (hi : i < nx) : nX (fX4_order st (ad 0) (nI i) 0) = some (bX i 0) := nxo (show fX4_order st (ad 0) (nI i) 0 = some (.inr (bX i 0)) from c_order h (ixO_nI hi (by have := hR.2.2.1; omega)) hR.2.2.1 (RV.x01 hR hi) (k := 0) (by omega))
theorem l_od1 (h : NH st ad (CT ad day nb ns nx gB wB cB sS bX f6 f7 g8 g9 (SQ ad day nb ns nx nb ns nx gB wB cB sS bX none none))) (hR : RV D day nb ns nx gB wB cB sS bX) (hi : i < nx) : nX (fX4_order st (ad 0) (nI i) 1) = some (bX i 1) := nxo (show fX4_order st (ad 0) (nI i) 1 = some (.inr (bX i 1)) from c_order h (ixO_nI hi (by have := hR.2.2.1; omega)) hR.2.2.1 (RV.x01 hR hi) (k := 1) (by omega))
theorem l_od2 (h : NH st ad (CT ad day nb ns nx gB wB cB sS bX f6 f7 g8 g9 (SQ ad day nb ns nx nb ns nx gB wB cB sS bX none none))) (hR : RV D day nb ns nx gB wB cB sS bX) (hi : i < nx) : nX (fX4_order st (ad 0) (nI i) 2) = some (bX i 2) := nxo (show fX4_order st (ad 0) (nI i) 2 = some (.inr (bX i 2)) from c_order h (ixO_nI hi (by have := hR.2.2.1; omega)) hR.2.2.1 (RV.x01 hR hi) (k := 2) (by omega))
theorem l_od3 (h : NH st ad (CT ad day nb ns nx gB wB cB sS bX f6 f7 g8 g9 (SQ ad day nb ns nx nb ns nx gB wB cB sS bX none none))) (hR : RV D day nb ns nx gB wB cB sS bX) (hi : i < nx) : nX (fX4_order st (ad 0) (nI i) 3) = some (bX i 3) := nxo (show fX4_order st (ad 0) (nI i) 3 = some (.inr (bX i 3)) from c_order h (ixO_nI hi (by have := hR.2.2.1; omega)) hR.2.2.1 (RV.x01 hR hi) (k := 3) (by omega))
theorem l_od4 (h : NH st ad (CT ad day nb ns nx gB wB cB sS bX f6 f7 g8 g9 (SQ ad day nb ns nx nb ns nx gB wB cB sS bX none none))) (hR : RV D day nb ns nx gB wB cB sS bX) (hi : i < nx) : nX (fX4_order st (ad 0) (nI i) 4) = some (bX i 4) := nxo (show fX4_order st (ad 0) (nI i) 4 = some (.inr (bX i 4)) from c_order h (ixO_nI hi (by have := hR.2.2.1; omega)) hR.2.2.1 (RV.x01 hR hi) (k := 4) (by omega))
theorem l_td (h : NH st ad (CT ad day nb ns nx gB wB cB sS bX f6 f7 g8 g9 (SQ ad day nb ns nx nb ns nx gB wB cB sS bX none none))) (hR : RV D day nb ns nx gB wB cB sS bX) (hi : i < nb) (hk : k ≤ 7) : nX (fX4_told st (ad 0) (nI i) (nI k)) = some (toldV (gB i) (wB i) (cB i) k) := nxo (c_told h (ixO_nI hi (by have := hR.1; omega)) hR.1 hk)
def GS (nb : Nat) (gB : Nat → Int32) : Int32 := foldN (cntG gB) nb 0
def QS (ns : Nat) (sS : Nat → Nat → Int32) : Int32 := foldN (cntQ sS) ns 0
def ZS (nx : Nat) (bX : Nat → Nat → Int32) : Int32 := foldN (cntZ bX) nx 0
def VT (nb ns nx : Nat) (gB : Nat → Int32) (sS bX : Nat → Nat → Int32) : Int32 := (GS nb gB + (10 * QS ns sS)) + (10 * ZS nx bX)
theorem VT_ok (hR : RV D day nb ns nx gB wB cB sS bX) : (VT nb ns nx gB sS bX).toInt = TT nb ns nx gB sS bX ∧ 0 ≤ TT nb ns nx gB sS bX ∧ TT nb ns nx gB sS bX ≤ 100000 := by
  obtain ⟨hb, hs, hx, hd, rB, rS, rX⟩ := id hR
  obtain ⟨g1, g2, g3⟩ := fold_sum (α := Nat) (g := fun _ => 0) (u := fun _ => 0) (F := cntG gB) (v := gB) (fun _ _ => rfl) (m := 2000) (by omega) (by omega) (n := nb) (by omega) (fun k hk => (rB k hk).1)
  obtain ⟨s1, s2, s3⟩ := fold_sum (α := Nat) (g := fun _ => 0) (u := fun _ => 0) (F := cntQ sS) (v := fun k => sS k 0 * sS k 1) (fun _ _ => rfl) (m := 36) (by omega) (by omega) (n := ns) (by omega) (fun k hk => by
    have q := sq_in (rS k hk).1 (rS k hk).2.1
    exact ⟨by omega, by omega⟩)
  have zin : ∀ k, k < nx → (bX k 2 * bX k 0).toInt = (bX k 2).toInt * (bX k 0).toInt ∧ 0 ≤ (bX k 2).toInt * (bX k 0).toInt ∧ (bX k 2).toInt * (bX k 0).toInt ≤ 36 := fun k hk => by
    have q := (rX k hk).1
    rcases hR.x01 hk with e | e
    · rw [e, Int32.zero_mul, toInt_0]
      omega
    · rw [e, Int32.one_mul, i1]
      omega
  obtain ⟨z1, z2, z3⟩ := fold_sum (α := Nat) (g := fun _ => 0) (u := fun _ => 0) (F := cntZ bX) (v := fun k => bX k 2 * bX k 0) (fun _ _ => rfl) (m := 36) (by omega) (by omega) (n := nx) (by omega) (fun k hk => by
    have q := zin k hk
    omega)
  rw [sumI_congr (n := ns) (g := fun k => (sS k 0).toInt * (sS k 1).toInt) fun k hk => (sq_in (rS k hk).1 (rS k hk).2.1).1] at s1 s2 s3
  rw [sumI_congr (n := nx) (g := fun k => (bX k 2).toInt * (bX k 0).toInt) fun k hk => (zin k hk).1] at z1 z2 z3
  unfold VT GS QS ZS TT
  have t10 : (10 * foldN (cntQ sS) ns 0).toInt = 10 * (foldN (cntQ sS) ns 0).toInt := by rw [i_mul] <;> rw [i10, s1] <;> omega
  have t11 : (10 * foldN (cntZ bX) nx 0).toInt = 10 * (foldN (cntZ bX) nx 0).toInt := by rw [i_mul] <;> rw [i10, z1] <;> omega
  have t12 : (foldN (cntG gB) nb 0 + (10 * foldN (cntQ sS) ns 0)).toInt = (foldN (cntG gB) nb 0).toInt + 10 * (foldN (cntQ sS) ns 0).toInt := by rw [i_add] <;> rw [t10, g1, s1] <;> omega
  refine ⟨?_, by omega, by omega⟩
  rw [i_add] <;> rw [t12, t11, g1, s1, z1] <;> omega
theorem FF_ok (hR : RV D day nb ns nx gB wB cB sS bX) : (foldN (cntX bX) nx 0).toInt = FF nx bX := by
  obtain ⟨z1, z2, z3⟩ := fold_sum (α := Nat) (g := fun _ => 0) (u := fun _ => 0) (F := fun k a => a + bX k 2) (v := fun k => bX k 2) (fun _ _ => rfl) (m := 1) (by omega) (by omega) (n := nx) (by have := hR.2.2.1; omega) (fun k hk => by
    rcases hR.x01 hk with e | e <;> rw [e] <;> decide)
  rw [foldN_congr (g := cntX bX) (g' := fun k a => a + bX k 2) fun k hk a => cntX_add (hR.x01 hk) a]
  exact z1
theorem w_64 (h : NH st ad (CT ad day nb ns nx gB wB cB sS bX f6 f7 g8 g9 (SQ ad day nb ns nx nb ns nx gB wB cB sS bX none none))) (hR : RV D day nb ns nx gB wB cB sS bX) {st0 : DSt} (ha : st0.1 = ad 0) (u : Int32) : dlp (fL_law_L64 st0 (st, u)) (0, 0) = some (ZS nx bX, nI nx) := by
  obtain ⟨hb, hs, hx, hd, rB, rS, rX⟩ := id hR
  refine dlp_fold (fL_law_L64 st0 (st, u)) (cntZ bX) nx 0 (fun k a hk => ?_) (fun a => ?_)
  · unfold fL_law_L64
    dsimp only
    rw [ha, ob_of _ (q_oR h), ob_of _ (l_cn3 h hR), if_neg (nI_ge hk (by omega)), ob_of _ (q_oR h), ob_of _ (l_od2 h hR hk), ob_of _ (q_oR h), ob_of _ (l_od0 h hR hk)]
    rfl
  · unfold fL_law_L64
    dsimp only
    rw [ha, ob_of _ (q_oR h), ob_of _ (l_cn3 h hR), if_pos (Int32.le_refl _)]
theorem w_170 (h : NH st ad (CT ad day nb ns nx gB wB cB sS bX f6 f7 g8 g9 (SQ ad day nb ns nx nb ns nx gB wB cB sS bX none none))) (hR : RV D day nb ns nx gB wB cB sS bX) {st0 : DSt} (ha : st0.1 = ad 0) (u : Int32) : ∃ y, dlp (fL_law_L170 st0 (u, st)) (0, 0) = some (.inl y) ∧ y.1 = GS nb gB := by
  obtain ⟨hb, hs, hx, hd, rB, rS, rX⟩ := id hR
  obtain ⟨b, g1, y, rfl, g2⟩ := dlp_run (fL_law_L170 st0 (u, st)) (fun k z => z.2 = nI k ∧ z.1 = foldN (cntG gB) k 0) (fun b => ∃ y, b = .inl y ∧ y.1 = GS nb gB) nb (fun k z hk hz => by
    obtain ⟨z1, z2⟩ := z
    obtain ⟨hz1, hz2⟩ := hz
    dsimp only at hz1 hz2
    subst hz1
    unfold fL_law_L170
    dsimp only
    rw [ha, ob_of _ (q_oR h), ob_of _ (l_cn1 h hR)]
    by_cases c : k = nb
    · subst c
      rw [if_pos (Int32.le_refl _)]
      exact Or.inr ⟨_, rfl, _, rfl, hz2⟩
    · have hk : k < nb := by omega
      obtain ⟨⟨ga, gb⟩, ⟨wa, wb⟩, cc⟩ := rB k hk
      have ps := cc.parts
      obtain ⟨b2, f1, y, rfl, f2⟩ := dlp_run (fL_law_L186 st0 (u, st) (z1, nI k)) (fun t z => z.2 = nI (t + 1) ∧ z.1 = sumN (cB k) t) (fun b => ∃ y, b = .inl y ∧ y.1 = sumN (cB k) 5) 5 (fun t z ht hz => by
        obtain ⟨w1, w2⟩ := z
        obtain ⟨hw1, hw2⟩ := hz
        dsimp only at hw1 hw2
        subst hw1
        unfold fL_law_L186
        dsimp only
        by_cases t5 : t = 5
        · subst t5
          rw [if_pos (show (6 : Int32) ≤ nI (5 + 1) by decide)]
          exact Or.inr ⟨_, rfl, _, rfl, hw2⟩
        · have e0 : toldV (gB k) (wB k) (cB k) (t + 1) = cB k (t + 1) := by
            unfold toldV
            rw [if_neg (by omega), if_pos (by omega)]
          have h0 := cc.1 (t + 1) (by omega) (by omega)
          rw [if_neg (show ¬ (6 : Int32) ≤ nI (t + 1) from nI_ge (b := 6) (by omega) (by omega)), ha, ob_of _ (q_oR h), ob_of _ (l_td h hR hk (k := t + 1) (by omega)), e0, if_pos (show (0 : Int32) ≤ cB k (t + 1) by rw [i_le, toInt_0]; exact h0), ob_of _ (q_oR h), ob_of _ (l_td h hR hk (k := t + 1) (by omega)), e0, hw2]
          exact Or.inl ⟨_, rfl, by omega, nI_1 _, rfl⟩) (0, 1) ⟨rfl, rfl⟩
      have es := cc.sum
      have et : temF (cB k) = jmax 0 (jmin 100 (((((2 * cB k 5) + cB k 4) - cB k 3) - cB k 2) - cB k 1)) := by
        unfold temF
        rw [jmin_comm, sub3]
      refine Or.inl ⟨(z1 + gB k, nI k + 1), ?_, by omega, ?_⟩
      · rw [if_neg (nI_ge hk (by omega)), ob_of _ f1]
        dsimp only
        rw [ob_of _ (q_oR h), ob_of _ (l_td5 h hR hk), ob_of _ (q_oR h), ob_of _ (l_td4 h hR hk), ob_of _ (q_oR h), ob_of _ (l_td3 h hR hk), ob_of _ (q_oR h), ob_of _ (l_td2 h hR hk), ob_of _ (q_oR h), ob_of _ (l_td1 h hR hk)]
        rw [if_neg (show ¬ 100 < y.1 by rw [f2, i_lt, toInt_100, es]; have := cc.2; omega)]
        rw [ob_of _ (q_oR h), ob_of _ (l_td7 h hR hk), if_pos et]
        rw [ob_of _ (q_oR h), ob_of _ (l_td6 h hR hk), if_neg (show ¬ wB k < 15 by rw [i_lt, i15]; omega), ob_of _ (q_oR h), ob_of _ (l_td6 h hR hk), if_neg (show ¬ 50 < wB k by rw [i_lt, i50]; omega)]
        rw [ob_of _ (q_oR h), ob_of _ (l_td0 h hR hk), if_neg (show ¬ gB k < 0 by rw [i_lt, toInt_0]; omega), ob_of _ (q_oR h), ob_of _ (l_td0 h hR hk), if_pos (show gB k ≤ 2000 by rw [i_le, i2000]; omega), ob_of _ (q_oR h), ob_of _ (l_td0 h hR hk)]
      · exact ⟨nI_1 k, by rw [hz2]; rfl⟩) (0, 0) ⟨rfl, rfl⟩
  exact ⟨y, g1, g2⟩
theorem j_blo (x : Int32) (a : Int32) : ∃ j, (if x ≤ 20 then some (0 : Int32) else some (1 : Int32)) = some j ∧ a + j = (if x ≤ 20 then a else a + 1) := by
  by_cases c : x ≤ 20
  · exact ⟨0, if_pos c, by rw [if_pos c, Int32.add_zero]⟩
  · exact ⟨1, if_neg c, by rw [if_neg c]⟩
theorem w_375 (h : NH st ad (CT ad day nb ns nx gB wB cB sS bX f6 f7 g8 g9 (SQ ad day nb ns nx nb ns nx gB wB cB sS bX none none))) (hR : RV D day nb ns nx gB wB cB sS bX) {st0 : DSt} (ha : st0.1 = ad 0) (u : Int32) : ∃ y, dlp (fL_law_L375 st0 (u, st)) (0, 0, 0) = some (.inl y) ∧ y.1 = QS ns sS ∧ y.2.1 = foldN (cntB sS) ns 0 := by
  obtain ⟨hb, hs, hx, hd, rB, rS, rX⟩ := id hR
  obtain ⟨b, g1, y, rfl, g2, g3⟩ := dlp_run (fL_law_L375 st0 (u, st)) (fun k z => z.2.2 = nI k ∧ z.1 = foldN (cntQ sS) k 0 ∧ z.2.1 = foldN (cntB sS) k 0) (fun b => ∃ y, b = .inl y ∧ y.1 = QS ns sS ∧ y.2.1 = foldN (cntB sS) ns 0) ns (fun k z hk hz => by
    obtain ⟨z1, z2, z3⟩ := z
    obtain ⟨hz1, hz2, hz3⟩ := hz
    dsimp only at hz1 hz2 hz3
    subst hz1
    unfold fL_law_L375
    dsimp only
    rw [ha, ob_of _ (q_oR h), ob_of _ (l_cn2 h hR)]
    by_cases c : k = ns
    · subst c
      rw [if_pos (Int32.le_refl _)]
      exact Or.inr ⟨_, rfl, _, rfl, hz2, hz3⟩
    · have hk : k < ns := by omega
      obtain ⟨⟨q0, q0'⟩, ⟨q1, q1'⟩, ⟨q2, q2'⟩, ⟨q3, q3'⟩, q4, q4'⟩ := rS k hk
      rw [if_neg (nI_ge hk (by omega)), ob_of _ (q_oR h), ob_of _ (l_ab6 h hR hk), ob_of _ (q_oR h), ob_of _ (l_ab5 h hR hk)]
      rw [ob_of _ (q_oR h), ob_of _ (l_ab0 h hR hk), if_neg (show ¬ sS k 0 < 1 by rw [i_lt, i1]; omega), ob_of _ (q_oR h), ob_of _ (l_ab0 h hR hk), if_neg (show ¬ 6 < sS k 0 by rw [i_lt, i6]; omega)]
      rw [ob_of _ (q_oR h), ob_of _ (l_ab1 h hR hk), if_neg (show ¬ sS k 1 < 1 by rw [i_lt, i1]; omega), ob_of _ (q_oR h), ob_of _ (l_ab1 h hR hk), if_neg (show ¬ 6 < sS k 1 by rw [i_lt, i6]; omega)]
      rw [ob_of _ (q_oR h), ob_of _ (l_ab0 h hR hk), ob_of _ (q_oR h), ob_of _ (l_ab1 h hR hk), if_pos rfl]
      rw [ob_of _ (q_oR h), ob_of _ (l_ab2 h hR hk), if_neg (show ¬ sS k 2 < 0 by rw [i_lt, toInt_0]; omega), ob_of _ (q_oR h), ob_of _ (l_ab2 h hR hk), if_neg (show ¬ 100 < sS k 2 by rw [i_lt, toInt_100]; omega)]
      rw [ob_of _ (q_oR h), ob_of _ (l_ab3 h hR hk), if_neg (show ¬ sS k 3 < 0 by rw [i_lt, toInt_0]; omega), ob_of _ (q_oR h), ob_of _ (l_ab3 h hR hk), if_neg (show ¬ 100 < sS k 3 by rw [i_lt, toInt_100]; omega)]
      rw [ob_of _ (q_oR h), ob_of _ (l_ab4 h hR hk), if_neg (show ¬ sS k 4 < 0 by rw [i_lt, toInt_0]; omega), ob_of _ (q_oR h), ob_of _ (l_ab4 h hR hk), ob_of _ (q_oR h), ob_of _ (l_cn0 h hR), if_pos (show sS k 4 ≤ day by rw [i_le]; omega)]
      obtain ⟨j, j1, j2⟩ := j_blo (sS k 3) z2
      have fin : z1 + sS k 0 * sS k 1 = foldN (cntQ sS) (k + 1) 0 ∧ z2 + j = foldN (cntB sS) (k + 1) 0 := ⟨by rw [hz2]; rfl, by rw [j2, hz3]; rfl⟩
      rcases hf : firstN (fun j => fitB (bX j) (sS k) (sS k 3)) nx with _ | x
      · rw [if_pos (show ansN none < 0 by decide), ob_of _ (q_oR h), ob_of _ (l_ab3 h hR hk), ob_of _ j1]
        exact Or.inl ⟨_, rfl, by omega, nI_1 k, fin⟩
      · obtain ⟨x1, x2, -⟩ := firstN_some hf
        unfold fitB suitB at x2
        rw [Bool.and_eq_true] at x2
        obtain ⟨x3, x4⟩ := x2
        have x3 := of_decide_eq_true x3
        obtain ⟨x5, x6, x7⟩ := of_decide_eq_true x4
        rw [if_neg (show ¬ ansN (some x) < 0 by rw [i_lt, show ansN (some x) = nI x from rfl, i_nI (by omega), toInt_0]; omega), show ansN (some x) = nI x from rfl]
        rw [ob_of _ (q_oR h), ob_of _ (l_od0 h hR x1), if_pos x5.symm, ob_of _ (q_oR h), ob_of _ (l_od2 h hR x1), if_pos x3, ob_of _ (q_oR h), ob_of _ (l_od1 h hR x1), ob_of _ (q_oR h), ob_of _ (l_ab2 h hR hk), if_neg x6]
        rw [ob_of _ (q_oR h), ob_of _ (l_ab3 h hR hk), if_pos (show sS k 3 ≤ 20 by rw [i_lt] at x7; rw [i_le]; omega), ob_of _ (q_oR h), ob_of _ (l_ab3 h hR hk), ob_of _ j1]
        exact Or.inl ⟨_, rfl, by omega, nI_1 k, fin⟩) (0, 0, 0) ⟨rfl, rfl, rfl⟩
  exact ⟨y, g1, g2, g3⟩
theorem w_643 (h : NH st ad (CT ad day nb ns nx gB wB cB sS bX f6 f7 g8 g9 (SQ ad day nb ns nx nb ns nx gB wB cB sS bX none none))) (hR : RV D day nb ns nx gB wB cB sS bX) {st0 : DSt} (ha : st0.1 = ad 0) (u : Int32) : ∃ y, dlp (fL_law_L643 st0 (u, st)) (0, 0, 0) = some (.inl y) ∧ y.1 = ZS nx bX ∧ y.2.1 = foldN (cntX bX) nx 0 := by
  obtain ⟨hb, hs, hx, hd, rB, rS, rX⟩ := id hR
  obtain ⟨b, g1, y, rfl, g2, g3⟩ := dlp_run (fL_law_L643 st0 (u, st)) (fun k z => z.2.2 = nI k ∧ z.1 = foldN (cntZ bX) k 0 ∧ z.2.1 = foldN (cntX bX) k 0) (fun b => ∃ y, b = .inl y ∧ y.1 = ZS nx bX ∧ y.2.1 = foldN (cntX bX) nx 0) nx (fun k z hk hz => by
    obtain ⟨z1, z2, z3⟩ := z
    obtain ⟨hz1, hz2, hz3⟩ := hz
    dsimp only at hz1 hz2 hz3
    subst hz1
    unfold fL_law_L643
    dsimp only
    rw [ha, ob_of _ (q_oR h), ob_of _ (l_cn3 h hR)]
    by_cases c : k = nx
    · subst c
      rw [if_pos (Int32.le_refl _)]
      exact Or.inr ⟨_, rfl, _, rfl, hz2, hz3⟩
    · have hk : k < nx := by omega
      obtain ⟨x0, x1, x2⟩ := rX k hk
      rw [if_neg (nI_ge hk (by omega)), ob_of _ (q_oR h), ob_of _ (l_od2 h hR hk)]
      rcases x2 with ⟨e2, e3, e4⟩ | ⟨e2, e3, e4, e5⟩
      · rw [e2, ob_of _ (show (if (0 : Int32) = 1 then some (1 : Int32) else some (0 : Int32)) = some 0 by decide), if_pos rfl]
        rw [ob_of _ (q_oR h), ob_of _ (l_od3 h hR hk), if_pos e3, ob_of _ (q_oR h), ob_of _ (l_od4 h hR hk), if_pos e4, if_pos rfl, if_pos rfl]
        refine Or.inl ⟨_, rfl, by omega, nI_1 k, ?_, ?_⟩
        · show z1 + 0 = foldN (cntZ bX) k 0 + bX k 2 * bX k 0
          rw [e2, Int32.zero_mul, hz2]
        · show z2 + 0 = foldN (cntX bX) (k + 1) 0
          rw [foldN_s, cntX_add (Or.inl e2), e2, hz3]
      · rw [e2, ob_of _ (show (if (1 : Int32) = 1 then some (1 : Int32) else some (0 : Int32)) = some 1 by decide), if_neg (show ¬ (1 : Int32) = 0 by decide)]
        rw [ob_of _ (q_oR h), ob_of _ (l_od3 h hR hk), ob_of _ (q_oR h), ob_of _ (l_od1 h hR hk), if_neg (show ¬ bX k 3 < bX k 1 by rw [i_lt]; omega)]
        rw [ob_of _ (q_oR h), ob_of _ (l_od4 h hR hk), if_neg (show ¬ bX k 4 < 0 by rw [i_lt, toInt_0]; omega), ob_of _ (q_oR h), ob_of _ (l_od4 h hR hk), if_pos (show bX k 4 ≤ 20 by rw [i_le, show (20 : Int32).toInt = 20 by decide]; omega)]
        rw [if_neg (show ¬ (1 : Int32) = 0 by decide), ob_of _ (show (oB (oR st (some (ad 0)) 4) fun b203 => oB (nX (fX4_order st b203 (nI k) 0)) fun q204 => some q204) = some (bX k 0) by rw [ob_of _ (q_oR h), ob_of _ (l_od0 h hR hk)]), if_neg (show ¬ (1 : Int32) = 0 by decide)]
        refine Or.inl ⟨_, rfl, by omega, nI_1 k, ?_, ?_⟩
        · show z1 + bX k 0 = foldN (cntZ bX) k 0 + bX k 2 * bX k 0
          rw [e2, Int32.one_mul, hz2]
        · show z2 + 1 = foldN (cntX bX) (k + 1) 0
          rw [foldN_s, cntX_add (Or.inr e2), e2, hz3]) (0, 0, 0) ⟨rfl, rfl, rfl⟩
  exact ⟨y, g1, g2, g3⟩
end LOOKS
