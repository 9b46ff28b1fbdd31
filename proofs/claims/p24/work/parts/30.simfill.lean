/-! FILLING, the law's own -/
theorem dli_run {σ β : Type} (f : σ → Option (σ ⊕ β)) (S : Nat → σ → Prop) (T : β → Prop) (n N : Nat) (hN : n < N) (h : ∀ k s, k ≤ n → S k s → (∃ s', f s = some (.inl s') ∧ k < n ∧ S (k + 1) s') ∨ ∃ b, f s = some (.inr b) ∧ T b) : ∀ s, S 0 s → ∃ b, dl_it f N s = some b ∧ T b := by
  have key : ∀ m N k s, k + m = n → m < N → S k s → ∃ b, dl_it f N s = some b ∧ T b := by
    intro m
    induction m with
    | zero =>
      intro N k s hk hN hs
      obtain ⟨N, rfl⟩ : ∃ M, N = M + 1 := ⟨N - 1, by omega⟩
      rcases h k s (by omega) hs with ⟨s', h1, h2, h3⟩ | ⟨b, h1, h2⟩
      · omega
      · exact ⟨b, by unfold dl_it; rw [h1], h2⟩
    | succ m ih =>
      intro N k s hk hN hs
      obtain ⟨N, rfl⟩ : ∃ M, N = M + 1 := ⟨N - 1, by omega⟩
      rcases h k s (by omega) hs with ⟨s', h1, h2, h3⟩ | ⟨b, h1, h2⟩
      · obtain ⟨b, g1, g2⟩ := ih N (k + 1) s' (by omega) (by omega) h3
        exact ⟨b, by unfold dl_it; rw [h1]; exact g1, g2⟩
      · exact ⟨b, by unfold dl_it; rw [h1], h2⟩
  exact fun s hs => key n N 0 s (by omega) hN hs
theorem PL_stop {p : Nat → Nat → Bool} {ns nx : Nat} (h : ∀ b, nx ≤ b → ∀ j, p b j = false) : ∀ {B : Nat}, nx ≤ B → PL p ns B = PL p ns nx
  | 0, hB => by rw [show nx = 0 by omega]
  | B + 1, hB => by
    by_cases e : nx = B + 1
    · rw [e]
    · rw [PL_n (firstN_none.mpr fun j hj => by rw [h B (by omega) j, Bool.and_false]), PL_stop h (by omega)]
theorem filX_keep {p : Nat → Nat → Bool} {ns b : Nat} {bX sS : Nat → Nat → Int32} : filX (PL p ns (b + 1)).2.1 bX sS b = filX (PL p ns b).2.1 bX sS b := by
  funext c
  by_cases q : c < b
  · refine (if_pos q).trans (Eq.trans ?_ (if_pos q).symm)
    rw [PL_keep (p := p) (ns := ns) q (b + 1) (by omega)]
  · exact (if_neg q).trans (if_neg q).symm
def KP (ad ad' : Nat → Nat) : Prop := ∀ c, c ≠ 12 → c ≠ 14 → (c < 130 ∨ 140 ≤ c) → ad' c = ad c
theorem KP.trans {a b c : Nat → Nat} (h1 : KP a b) (h2 : KP b c) : KP a c := fun k k1 k2 k3 => (h2 k k1 k2 k3).trans (h1 k k1 k2 k3)
theorem blo_n {sS : Nat → Nat → Int32} {j : Nat} (hj : j < 1000) : blo (-1) sS j = sS j 3 := if_neg (fun e => by
  rw [i_eq, i_nI (by omega), show (-1 : Int32).toInt = -1 by decide] at e
  omega)
section SFILL
variable {st : DSt} {ad : Nat → Nat} {day : Int32} {nb ns nx : Nat} {gB wB : Nat → Int32} {cB sS bX : Nat → Nat → Int32} {f6 f7 g8 g9 : Nat → Int32} {Q : Nat → Option DCel} {dy : Int32} {lb ls lx mb ms mx : Nat} {hB vB : Nat → Int32} {dB tS yX : Nat → Nat → Int32} {e4 e5 : Option DCel} {i k b : Nat} {p : Int32}
theorem z_extS {g : Nat → Nat → Int32} (hg : ∀ i, i < ms → tS i = g i) : (SQ ad dy lb ls lx mb ms mx hB vB dB tS yX e4 e5) = (SQ ad dy lb ls lx mb ms mx hB vB dB g yX e4 e5) := by
  unfold SQ
  rw [S5_ext hg]
theorem z_inner (m : Int32) (h : NH st ad (CT ad day nb ns nx gB wB cB sS bX f6 f7 g8 g9 ((SQ ad dy lb ls lx mb ms mx hB vB dB tS yX none e5)))) (hb : nb ≤ 5) (hs : ns ≤ 8) (hx : nx ≤ 6) (hl : ls = ms) (hm : ms ≤ 8) (hmb : mb ≤ 5) (hlb : lb ≤ 5) (hlx : lx ≤ 6) (hbx : b < mx) (hmx : mx ≤ 6) : ∃ r, dl_it (fX6_fill_L28 (ad 10) (some (ad (120 + b)))) 9 (st, m, 0) = some r ∧ (match firstN (fun k => fitB (yX b) (tS k) (tS k 3)) ms with
    | none => r.1 = st ∧ r.2.1 = m
    | some i => r.2.1 = m + 1 ∧ ∃ ad', KP ad ad' ∧ NH r.1 ad' (CT (ad') day nb ns nx gB wB cB sS bX f6 f7 g8 g9 ((SQ (ad') dy lb (ms - 1) lx mb (ms - 1) mx hB vB dB (fun t => tS (if t < i then t else t + 1)) (va_up yX b (takX (yX b) (tS i))) none e5)))) := by
  subst hl
  obtain ⟨y, g1, g2⟩ := dli_run (fX6_fill_L28 (ad 10) (some (ad (120 + b)))) (fun k z => z = (st, m, nI k) ∧ ∀ j, j < k → fitB (yX b) (tS j) (tS j 3) = false) (fun r => match firstN (fun k => fitB (yX b) (tS k) (tS k 3)) ls with
    | none => r.1 = st ∧ r.2.1 = m
    | some i => r.2.1 = m + 1 ∧ ∃ ad', KP ad ad' ∧ NH r.1 ad' (CT (ad') day nb ns nx gB wB cB sS bX f6 f7 g8 g9 ((SQ (ad') dy lb (ls - 1) lx mb (ls - 1) mx hB vB dB (fun t => tS (if t < i then t else t + 1)) (va_up yX b (takX (yX b) (tS i))) none e5)))) ls 9 (by omega) (fun k z hk hz => by
    obtain ⟨rfl, hz⟩ := hz
    unfold fX6_fill_L28
    dsimp only
    rw [ob_of _ (z_r2 h), ob_of _ (z_n2 h)]
    by_cases hn : k = ls
    · rw [if_pos (show nI ls ≤ nI k by rw [hn]; exact Int32.le_refl _)]
      refine Or.inr ⟨_, rfl, ?_⟩
      rw [show firstN (fun k => fitB (yX b) (tS k) (tS k 3)) ls = none from firstN_none.mpr fun j hj => hz j (by omega)]
      exact ⟨rfl, rfl⟩
    · have hk' : k < ls := by omega
      rw [if_neg (nI_ge (by omega) (by omega)), ob_of _ (z_r2 h), ob_of _ (z_a2 h rfl hk' hm), ob_of _ (s6_fits h (z_s hk' hm hs) (z_x hbx hmx hs))]
      cases hf : fitB (yX b) (tS k) (tS k 3) with
      | false =>
        rw [if_pos (show bI false = 0 from rfl)]
        refine Or.inl ⟨_, rfl, by omega, by rw [nI_1], fun j hj => ?_⟩
        by_cases e : j = k
        · rw [e]; exact hf
        · exact hz j (by omega)
      | true =>
        rw [if_neg (show ¬ bI true = 0 by decide)]
        obtain ⟨s1, e1, h1⟩ := zs_x h hbx hmx hs (p := 2) (k := 2) rfl (by omega) 1
        obtain ⟨s2, e2, h2⟩ := zs_x h1 hbx hmx hs (p := 3) (k := 3) rfl (by omega) (tS k 2)
        rw [bx_uu, va_up_s] at h2
        obtain ⟨s3, e3, h3⟩ := zs_x h2 hbx hmx hs (p := 4) (k := 4) rfl (by omega) (tS k 3)
        rw [bx_uu, va_up_s] at h3
        obtain ⟨s4, ad4, e4', hA4, h4⟩ := z_without h3 hb hs hx (Nat.le_refl _) hm hk'
        obtain ⟨s5, ad5, e5', hA5, h5⟩ := z_move2 (n := ls - 1) (e := fun j => if j < k then j else j + 1) h4 hb hs hx hm (by omega) hmb hlb hlx (fun t ht => by split <;> omega) (fun t t' h1 h2 q => by split at q <;> split at q <;> omega)
        rw [hA4 10 (by omega)] at e5'
        rw [ob_of _ e1, ob_of _ (z_r2 h1), ob_of _ (z_a2 h1 rfl hk' hm), ob_of _ (z_sa h1 hk' hm hs (p := 2) (k := 2) rfl (by omega)), ob_of _ e2, ob_of _ (z_r2 h2), ob_of _ (z_a2 h2 rfl hk' hm), ob_of _ (z_sa h2 hk' hm hs (p := 3) (k := 3) rfl (by omega)), ob_of _ e3, ob_of _ (z_r2 h3), ob_of _ e4', ob_of _ e5']
        refine Or.inr ⟨_, rfl, ?_⟩
        rw [show firstN (fun k => fitB (yX b) (tS k) (tS k 3)) ls = some k from firstN_is hk' hf hz]
        exact ⟨rfl, ad5, fun c c1 c2 c3 => (hA5 c c1 c3).trans (hA4 c c2), h5⟩) (st, m, 0) ⟨rfl, fun j hj => by omega⟩
  exact ⟨y, g1, g2⟩
theorem z_fill (h : NH st ad (CT ad day nb ns nx gB wB cB sS bX f6 f7 g8 g9 ((SQ ad dy lb ls lx mb ms mx hB vB dB tS yX none e5)))) (hb : nb ≤ 5) (hs : ns ≤ 8) (hx : nx ≤ 6) (hl : ls = ms) (hm : ms ≤ 8) (hmb : mb ≤ 5) (hlb : lb ≤ 5) (hlx : lx = mx) (hmx : mx ≤ 6) : ∃ st' ad', fX6_fill st (ad 10) = some ((PL (pF mx yX tS (-1)) ms 6).2.2.1, st') ∧ KP ad ad' ∧ NH st' ad' (CT (ad') day nb ns nx gB wB cB sS bX f6 f7 g8 g9 ((SQ (ad') dy lb ((PL (pF mx yX tS (-1)) ms 6).2.2.2.1) lx mb ((PL (pF mx yX tS (-1)) ms 6).2.2.2.1) mx hB vB dB (fun t => tS ((PL (pF mx yX tS (-1)) ms 6).2.2.2.2 t)) (filX (PL (pF mx yX tS (-1)) ms 6).2.1 yX tS 6) none e5))) := by
  subst hl
  subst hlx
  have stop : ∀ b, lx ≤ b → ∀ j, pF lx yX tS (-1) b j = false := fun b hb j => by
    unfold pF
    rw [decide_eq_false (by omega), Bool.false_and]
  obtain ⟨y, g1, ⟨ad', g2, g3⟩, g4⟩ := dli_run (fX6_fill_L13 (ad 10) (some (ad 13)) (nI lx)) (fun b z => ∃ ad', KP ad ad' ∧ z.2.1 = (PL (pF lx yX tS (-1)) ls b).2.2.1 ∧ z.2.2 = nI b ∧ NH z.1 ad' (CT (ad') day nb ns nx gB wB cB sS bX f6 f7 g8 g9 ((SQ (ad') dy lb ((PL (pF lx yX tS (-1)) ls b).2.2.2.1) lx mb ((PL (pF lx yX tS (-1)) ls b).2.2.2.1) lx hB vB dB (fun t => tS ((PL (pF lx yX tS (-1)) ls b).2.2.2.2 t)) (filX (PL (pF lx yX tS (-1)) ls b).2.1 yX tS b) none e5)))) (fun r => (∃ ad', KP ad ad' ∧ NH r.1 ad' (CT (ad') day nb ns nx gB wB cB sS bX f6 f7 g8 g9 ((SQ (ad') dy lb ((PL (pF lx yX tS (-1)) ls lx).2.2.2.1) lx mb ((PL (pF lx yX tS (-1)) ls lx).2.2.2.1) lx hB vB dB (fun t => tS ((PL (pF lx yX tS (-1)) ls lx).2.2.2.2 t)) (filX (PL (pF lx yX tS (-1)) ls lx).2.1 yX tS lx) none e5)))) ∧ r.2.1 = (PL (pF lx yX tS (-1)) ls lx).2.2.1) lx 7 (by omega) (fun b z hbn hz => by
    obtain ⟨z1, z2, z3⟩ := z
    obtain ⟨ad1, k1, rfl, rfl, h1⟩ := hz
    dsimp only at h1
    unfold fX6_fill_L13
    dsimp only
    by_cases h5 : b = lx
    · subst h5
      rw [if_pos (Int32.le_refl _)]
      exact Or.inr ⟨_, rfl, ⟨ad1, k1, h1⟩, rfl⟩
    · refine Or.inl ?_
      have hE := PL_EN (pF lx yX tS (-1)) ls b
      have a3 := z_a3 h1 (p := nI b) (i := b) rfl (by omega) hmx
      rw [k1 13 (by omega) (by omega) (by omega)] at a3
      have hbl : b < lx := by omega
      obtain ⟨r, r1, r2⟩ := z_inner (b := b) (PL (pF lx yX tS (-1)) ls b).2.2.1 h1 hb hs hx rfl (Nat.le_trans hE.1 hm) hmb hlb hmx hbl hmx
      rw [k1 10 (by omega) (by omega) (by omega)] at r1
      rw [if_neg (nI_ge (by omega) (by omega)), ob_of _ a3, ob_of _ r1]
      refine ⟨_, rfl, by omega, ?_⟩
      have eP : ∀ i, i < (PL (pF lx yX tS (-1)) ls b).2.2.2.1 → fitB (filX (PL (pF lx yX tS (-1)) ls b).2.1 yX tS b b) (tS ((PL (pF lx yX tS (-1)) ls b).2.2.2.2 i)) (tS ((PL (pF lx yX tS (-1)) ls b).2.2.2.2 i) 3) = pF lx yX tS (-1) b ((PL (pF lx yX tS (-1)) ls b).2.2.2.2 i) := fun i hi => by
        have := (hE.2.1 i hi).1
        have e9 : ∀ J, pF lx yX tS (-1) b J = (decide (b < lx) && fitB (yX b) (tS J) (blo (-1) tS J)) := fun _ => rfl
        rw [e9, decide_eq_true hbl, Bool.true_and, filX_b, blo_n (by omega)]
      have eF := firstN_ext eP
      have fd := hE.find (P := fun j => pF lx yX tS (-1) b j)
      rcases hf : firstN (fun i => pF lx yX tS (-1) b ((PL (pF lx yX tS (-1)) ls b).2.2.2.2 i)) (PL (pF lx yX tS (-1)) ls b).2.2.2.1 with _ | i
      · rw [eF, hf] at r2
        obtain ⟨q1, q2⟩ := r2
        have e0 := PL_n (fd.1 hf)
        rw [e0, filX_s, PL_later b b (Nat.le_refl _)]
        refine ⟨ad1, k1, q2, nI_1 _, ?_⟩
        show NH r.1 ad1 _
        rw [q1]
        exact h1
      · rw [eF, hf] at r2
        obtain ⟨q1, ad2, k2, h2⟩ := r2
        obtain ⟨i1, -, -⟩ := firstN_some hf
        have e0 := PL_s (fd.2 i hf)
        have dr := (hE.drop i1).2
        refine ⟨ad2, k1.trans k2, by rw [e0]; exact q1, nI_1 _, ?_⟩
        show NH r.1 ad2 _
        rw [filX_s, filX_keep, show (PL (pF lx yX tS (-1)) ls (b + 1)).2.1 b = some ((PL (pF lx yX tS (-1)) ls b).2.2.2.2 i) from by rw [e0]; exact va_up_s _ _ _]
        rw [filX_b] at h2
        rw [e0]
        dsimp only
        rw [z_extS (g := fun t => tS (if (PL (pF lx yX tS (-1)) ls b).2.2.2.2 t < (PL (pF lx yX tS (-1)) ls b).2.2.2.2 i then (PL (pF lx yX tS (-1)) ls b).2.2.2.2 t else (PL (pF lx yX tS (-1)) ls b).2.2.2.2 (t + 1))) (fun t ht => by rw [dr t ht])] at h2
        exact h2) (st, 0, 0) ⟨ad, fun _ _ _ _ => rfl, rfl, rfl, by
          have e0 : filX (PL (pF lx yX tS (-1)) ls 0).2.1 yX tS 0 = yX := by
            funext c
            exact if_neg (by omega)
          dsimp only
          rw [e0]
          exact h⟩
  have e6 := PL_stop stop (B := 6) hmx (ns := ls)
  have eX : filX (PL (pF lx yX tS (-1)) ls 6).2.1 yX tS 6 = filX (PL (pF lx yX tS (-1)) ls lx).2.1 yX tS lx := by
    rw [e6]
    funext c
    by_cases q : c < lx
    · exact (if_pos (by omega)).trans (if_pos q).symm
    · refine Eq.trans ?_ (if_neg q).symm
      by_cases q2 : c < 6
      · refine (if_pos q2).trans ?_
        rw [PL_later lx c (by omega)]
      · exact if_neg q2
  refine ⟨y.1, ad', ?_, g2, ?_⟩
  · unfold fX6_fill
    rw [ob_of _ (z_r3 h), ob_of _ (z_n3 h), ob_of _ g1, g4, e6]
  · rw [eX, e6]
    exact g3
end SFILL
