/-! THE CALLS THAT ALLOCATE NOTHING -/
theorem k1_io : cd1 "java/lang/IndexOutOfBoundsException" = some 1 := if_pos rfl
theorem k1_ia : cd1 "java/lang/IllegalArgumentException" = some 2 := (if_neg (by decide)).trans (if_pos rfl)
theorem k3_io : cd3 "java/lang/IndexOutOfBoundsException" = some 1 := if_pos rfl
theorem k5_ia : cd5 "java/lang/IllegalArgumentException" = some 1 := if_pos rfl
theorem k0_ia : cd0 "java/lang/IllegalArgumentException" = some 1 := if_pos rfl
theorem k0_is : cd0 "java/lang/IllegalStateException" = some 2 := (if_neg (by decide)).trans (if_pos rfl)
theorem k2_io : cd2 "java/lang/IndexOutOfBoundsException" = some 1 := if_pos rfl
theorem k2_ia : cd2 "java/lang/IllegalArgumentException" = some 2 := (if_neg (by decide)).trans (if_pos rfl)
theorem k2_is : cd2 "java/lang/IllegalStateException" = some 3 := (if_neg (by decide)).trans ((if_neg (by decide)).trans (if_pos rfl))
theorem k4_io : cd4 "java/lang/IndexOutOfBoundsException" = some 1 := if_pos rfl
theorem k4_is : cd4 "java/lang/IllegalStateException" = some 2 := (if_neg (by decide)).trans (if_pos rfl)
theorem n10 : ¬ (1 : Int32) = 0 := by decide
def foldN {α : Type} (g : Nat → α → α) : Nat → α → α
  | 0, a => a
  | n + 1, a => g n (foldN g n a)
theorem foldN_ext {α : Type} {g : Nat → α → α} {m n : Nat} {a : α} (h : m ≤ n) (hg : ∀ k, m ≤ k → k < n → ∀ a, g k a = a) : foldN g n a = foldN g m a := by
  induction n with
  | zero => rw [show m = 0 by omega]
  | succ n ih =>
    by_cases hm : m = n + 1
    · rw [hm]
    · show g n (foldN g n a) = _
      rw [hg n (by omega) (by omega), ih (by omega) fun k k1 k2 => hg k k1 (by omega)]
theorem foldN_congr {α : Type} {g g' : Nat → α → α} {n : Nat} {a : α} (hg : ∀ k, k < n → ∀ a, g k a = g' k a) : foldN g n a = foldN g' n a := by
  induction n with
  | zero => rfl
  | succ n ih =>
    show g n (foldN g n a) = g' n (foldN g' n a)
    rw [ih fun k hk => hg k (by omega), hg n (by omega)]
theorem dlp_fold {α : Type} (f : α × Int32 → Option ((α × Int32) ⊕ (α × Int32))) (g : Nat → α → α) (n : Nat) (a0 : α) (hs : ∀ k a, k < n → f (a, nI k) = some (.inl (g k a, nI k + 1))) (he : ∀ a, f (a, nI n) = some (.inr (a, nI n))) : dlp f (a0, 0) = some (foldN g n a0, nI n) := by
  obtain ⟨b, g1, g2⟩ := dlp_run f (fun k z => z = (foldN g k a0, nI k)) (fun b => b = (foldN g n a0, nI n)) n (fun k z hk hz => by
    subst hz
    by_cases h : k = n
    · subst h
      exact Or.inr ⟨_, he _, rfl⟩
    · exact Or.inl ⟨_, hs k _ (by omega), by omega, by rw [nI_1]; rfl⟩) (a0, 0) rfl
  rw [g1, g2]
def wbN (mB : Nat → Int32) (i : Nat) (g : Nat → Int32) (k : Nat) : Nat → Int32 := fun d => if 7 * i + 1 ≤ d ∧ d ≤ 7 * i + k then g (d - 7 * i) else mB d
theorem wbN_0 (mB : Nat → Int32) (i : Nat) (g : Nat → Int32) : wbN mB i g 0 = mB := by
  funext d
  exact if_neg (by omega)
theorem wbN_s (mB : Nat → Int32) (i : Nat) (g : Nat → Int32) (k : Nat) : upd (wbN mB i g k) (7 * i + (k + 1)) (g (k + 1)) = wbN mB i g (k + 1) := by
  funext d
  show (if d = 7 * i + (k + 1) then g (k + 1) else if 7 * i + 1 ≤ d ∧ d ≤ 7 * i + k then g (d - 7 * i) else mB d) = (if 7 * i + 1 ≤ d ∧ d ≤ 7 * i + (k + 1) then g (d - 7 * i) else mB d)
  by_cases hd : d = 7 * i + (k + 1)
  · rw [if_pos hd, if_pos ⟨by omega, by omega⟩]
    congr 1
    omega
  · rw [if_neg hd]
    by_cases h1 : 7 * i + 1 ≤ d ∧ d ≤ 7 * i + k
    · rw [if_pos h1, if_pos ⟨h1.1, by omega⟩]
    · rw [if_neg h1, if_neg (by omega)]
theorem wbN_i (mB : Nat → Int32) (i : Nat) (g : Nat → Int32) {k : Nat} (h1 : 1 ≤ k) (h2 : k ≤ 5) : wbN mB i g 5 (7 * i + k) = g k := by
  show (if _ then _ else _) = _
  rw [if_pos ⟨by omega, by omega⟩]
  congr 1
  omega
theorem wbN_o (mB : Nat → Int32) (i : Nat) (g : Nat → Int32) {d : Nat} (h : d ≤ 7 * i ∨ 7 * i + 5 < d) : wbN mB i g 5 d = mB d := if_neg (by omega)
section MOPS
variable {st : DSt} {ad : Nat → Nat} {l : Nat → Int64} {thr day : Int32} {nb ns nx : Nat} {mB mS mX k15 k16 t17 t18 : Nat → Int32} {r0 r2 r3 r4 r5 r6 : Nat → Option DCel} {i : Nat} {p : Int32}
theorem m_back (h : NH st ad (MT ad l thr day nb ns nx mB mS mX k15 k16 t17 t18 r0 r2 r3 r4 r5 r6)) {p : Int32} (hp : p = nI i) (hi : i < 5) : ∃ b, dlp (fX5_warm_L51 (ad 11) p) (st, 1) = some b ∧ NH b.1 ad (MT ad l thr day nb ns nx (wbN mB i t17 5) mS mX k15 k16 t17 t18 r0 r2 r3 r4 r5 r6) := by
  obtain ⟨b, g1, g2⟩ := dlp_run (fX5_warm_L51 (ad 11) p) (fun k z => z.2 = nI (k + 1) ∧ NH z.1 ad (MT ad l thr day nb ns nx (wbN mB i t17 k) mS mX k15 k16 t17 t18 r0 r2 r3 r4 r5 r6)) (fun b => NH b.1 ad (MT ad l thr day nb ns nx (wbN mB i t17 5) mS mX k15 k16 t17 t18 r0 r2 r3 r4 r5 r6)) 5 (fun k z hk hz => by
    obtain ⟨z1, z2⟩ := z
    obtain ⟨rfl, hz⟩ := hz
    by_cases h5 : k = 5
    · subst h5
      exact Or.inr ⟨_, if_pos (show (5 : Int32) < nI 6 by decide), hz⟩
    · refine Or.inl ?_
      unfold fX5_warm_L51
      dsimp only at hz ⊢
      obtain ⟨s', e', h'⟩ := x_bo hz hp (q := nI (k + 1)) (k := k + 1) rfl hi (by omega) (t17 (k + 1))
      rw [wbN_s] at h'
      rw [if_neg (show ¬ (5 : Int32) < nI (k + 1) from nI_nlt (a := 5) (by omega) (by omega)), ob_of _ (m_r10 hz), ob_of _ (l_aI (c := 17) (n := 6) (f := t17) hz rfl (k + 1) rfl (by omega) (by omega)), ob_of _ (m_oR hz), ob_of _ e']
      exact ⟨_, rfl, by omega, nI_1 _, h'⟩) (st, 1) ⟨rfl, by rw [wbN_0]; exact h⟩
  exact ⟨b, g1, g2⟩
end MOPS
section OPS
variable {st : DSt} {ad : Nat → Nat} {day : Int32} {nb ns nx : Nat} {gB wB : Nat → Int32} {cB sS bX : Nat → Nat → Int32} {f6 f7 g8 g9 : Nat → Int32} {Q : Nat → Option DCel} {l : Nat → Int64} {thr md : Int32} {pb ps px : Nat} {mB mS mX k15 k16 t17 t18 : Nat → Int32}
theorem op_warm (h : NH st ad (CT ad day nb ns nx gB wB cB sS bX f6 f7 g8 g9 ((MQT ad l thr day nb ns nx mB mS mX k15 k16 t17 t18)))) (hR : RELS nb ns nx gB wB cB sS bX mB mS mX) (p a b : Int32) : JO cd1 (ad 0) (ad 10) (ad 11) (fX4_warm st (ad 0) p a b) (fun u => fX5_warm u (ad 11) p a b) := by
  obtain ⟨hb, hs, hx, rB, rS, rX, rZ⟩ := id hR
  unfold fX4_warm
  rw [ob_of _ (q_oR h)]
  rcases hp : ixO p nb with _ | i
  · rw [xt_of _ (c_bowlAt_f h hp)]
    refine ⟨_, rfl, JOr_bad k1_io (by decide) h hR fun u hu => ?_⟩
    obtain ⟨s1, e1, h1⟩ := x_thr hu 0
    obtain ⟨s2, e2, h2⟩ := x_fail h1 1
    unfold fX5_warm
    rw [ob_of _ e1, ob_of _ (m_oR h1), ob_of _ (m_isBowl_f h1 hp hb), if_pos rfl, ob_of _ (m_oR h1), ob_of _ e2]
    exact ⟨_, _, rfl, h2⟩
  · obtain ⟨hi, hpe⟩ := ixO_some hp
    rw [xb_of _ (c_bowlAt_t h hp hb)]
    by_cases hw : (a < 15 ∨ 50 < a) ∨ (b < 1 ∨ 40 < b)
    · rw [xt_of _ (c_warming_f hw)]
      refine ⟨_, rfl, JOr_bad k1_ia (by decide) h hR fun u hu => ?_⟩
      obtain ⟨s1, e1, h1⟩ := x_thr hu 0
      obtain ⟨s2, e2, h2⟩ := x_fail h1 2
      unfold fX5_warm
      rw [ob_of _ e1, ob_of _ (m_oR h1), ob_of _ (m_isBowl_t h1 hp hb), if_neg n10, ob_of _ (m_oR h1), ob_of _ (m_warmth_f hw), if_pos rfl, ob_of _ (m_oR h1), ob_of _ e2]
      exact ⟨_, _, rfl, h2⟩
    · rw [not_or, not_or, not_or] at hw
      obtain ⟨⟨w1, w2⟩, w3, w4⟩ := hw
      obtain ⟨n, hn, rfl, hq⟩ := toN (x := b) 40 (by rw [i_lt, show (1 : Int32).toInt = 1 by decide] at w3; omega) (by rw [i_lt, show (40 : Int32).toInt = 40 by decide] at w4; omega) (by omega)
      obtain ⟨s4, e4, h4⟩ := w_w h hi hb a
      obtain ⟨s5, e5, h5⟩ := s_keepAt a (n := n) (by omega) (rB i hi).2.2.2.1 h4 (c_c hi hb) (c_a hi hb)
      have h5 := w_c _ h5 hi hb
      rw [xb_of _ (c_warming_t w1 w2 w3 w4), ob_of _ e4, ob_of _ (q_bc h4 hi hb), ob_of _ (q_co h4 hi hb), ob_of _ e5, ob_of _ (q_bc h5 hi hb), ob_of _ (q_co h5 hi hb), ob_of _ (s_temper h5 (c_c hi hb) (c_a hi hb)), va_up_s]
      refine ⟨_, rfl, JOr_good h5 rfl rfl rfl fun u l' hu => ?_⟩
      obtain ⟨s1, e1, h1⟩ := x_thr hu 0
      obtain ⟨s2, e2, h2⟩ := m_look h1 hpe (by omega)
      obtain ⟨s3, e3, h3⟩ := s_turns a (n := n) (by omega) h2 (a := 17) rfl
      have h3 := x_17 _ h3
      obtain ⟨b4, e4, h4⟩ := m_back h3 hpe (by omega)
      obtain ⟨s6, e6, h6⟩ := x_bo h4 hpe (q := 6) (k := 6) rfl (by omega) (by omega) a
      have hE : EQ5 (turN a (likN t17 (fun k => mB (7 * i + k)) 5) n) (turN a (cB i) n) := EQ5.turs (fun k k1 k2 => by rw [likN_5 _ _ k k1 k2]; exact ((rB i hi).2.2.1 k k1 k2).symm) n
      unfold fX5_warm
      rw [ob_of _ e1, ob_of _ (m_oR h1), ob_of _ (m_isBowl_t h1 hp hb), if_neg n10, ob_of _ (m_oR h1), ob_of _ (m_warmth_t w1 w2 w3 w4), if_neg n10, ob_of _ (m_oR h1), ob_of _ e2, ob_of _ (m_r10 h2), ob_of _ e3, ob_of _ e4, ob_of _ (m_oR h4), ob_of _ e6, ob_of _ (m_r10 h6), ob_of _ (s_mtemper h6 (a := 17) rfl), hE.tem]
      refine ⟨_, rfl, _, _, _, _, _, _, _, h6, hR.B i hb (fun j hj => ⟨hj, by omega⟩) (fun j hj _ => hj) (fun _ _ => rfl) (fun j hj => upd_n _ _ hj) (fun j hj => va_up_n _ _ hj) (fun j k hj hk => ?_) ?_⟩
      · rw [upd_n _ _ (by omega), wbN_o _ _ _ (by omega)]
      · obtain ⟨r1, r2, r3, r4, r5, r6⟩ := rB i hi
        refine ⟨?_, ?_, fun k k1 k2 => ?_, ?_, r5, r6⟩
        · rw [upd_n _ _ (by omega), wbN_o _ _ _ (by omega), r1]
        · rw [upd_s, upd_s]
        · rw [va_up_s]
          show _ = upd _ _ _ (7 * i + k)
          rw [upd_n _ _ (by omega), wbN_i _ _ _ k1 k2, hE k k1 k2]
        · rw [va_up_s]; exact r4.turs n
theorem op_seed (h : NH st ad (CT ad day nb ns nx gB wB cB sS bX f6 f7 g8 g9 ((MQT ad l thr day nb ns nx mB mS mX k15 k16 t17 t18)))) (hR : RELS nb ns nx gB wB cB sS bX mB mS mX) (p a : Int32) : JO cd1 (ad 0) (ad 10) (ad 11) (fX4_seed st (ad 0) p a) (fun u => fX5_seed u (ad 11) p a) := by
  obtain ⟨hb, hs, hx, rB, rS, rX, rZ⟩ := id hR
  unfold fX4_seed
  rw [ob_of _ (q_oR h)]
  rcases hp : ixO p nb with _ | i
  · rw [xt_of _ (c_bowlAt_f h hp)]
    refine ⟨_, rfl, JOr_bad k1_io (by decide) h hR fun u hu => ?_⟩
    obtain ⟨s1, e1, h1⟩ := x_thr hu 0
    obtain ⟨s2, e2, h2⟩ := x_fail h1 1
    unfold fX5_seed
    rw [ob_of _ e1, ob_of _ (m_oR h1), ob_of _ (m_isBowl_f h1 hp hb), if_pos rfl, ob_of _ (m_oR h1), ob_of _ e2]
    exact ⟨_, _, rfl, h2⟩
  · obtain ⟨hi, hpe⟩ := ixO_some hp
    rw [xb_of _ (c_bowlAt_t h hp hb)]
    have bad : ∀ u, (a < 1 ∨ 30 < a) → NH u ad (CT ad day nb ns nx gB wB cB sS bX f6 f7 g8 g9 ((MQT ad l thr day nb ns nx mB mS mX k15 k16 t17 t18))) → ∃ y s', fX5_seed u (ad 11) p a = some (y, s') ∧ NH s' ad (CT ad day nb ns nx gB wB cB sS bX f6 f7 g8 g9 ((MQT ad l (2) day nb ns nx mB mS mX k15 k16 t17 t18))) := fun u hw hu => by
      obtain ⟨s1, e1, h1⟩ := x_thr hu 0
      obtain ⟨s2, e2, h2⟩ := x_fail h1 2
      unfold fX5_seed
      rw [ob_of _ e1, ob_of _ (m_oR h1), ob_of _ (m_isBowl_t h1 hp hb), if_neg n10, ob_of _ (isIn_f hw), if_pos rfl, ob_of _ (m_oR h1), ob_of _ e2]
      exact ⟨_, _, rfl, h2⟩
    by_cases w1 : a < 1
    · rw [if_pos w1]
      exact ⟨_, rfl, JOr_bad k1_ia (by decide) h hR fun u hu => bad u (Or.inl w1) hu⟩
    rw [if_neg w1]
    by_cases w2 : a ≤ 30
    · obtain ⟨r1, r2, r3, r4, r5, r6⟩ := rB i hi
      rw [if_pos w2]
      obtain ⟨s5, e5, h5⟩ := s_increase h (c_c hi hb) (c_a hi hb) (s := 5) (by omega) a
      have i1 := w1
      have i2 := w2
      rw [i_lt, show (1 : Int32).toInt = 1 by decide] at i1
      rw [i_le, show (30 : Int32).toInt = 30 by decide] at i2
      obtain ⟨q1, q2, q3⟩ := r4.inc (s := 5) (m := a) (by omega) (by omega) (by omega) (by omega)
      rw [q1] at h5
      have h5 := w_c _ h5 hi hb
      have e5 : fX2_increase st (ad (30 + i)) 5 a = some s5 := e5
      rw [ob_of _ (q_bc h hi hb), ob_of _ (q_co h hi hb), ob_of _ e5, ob_of _ (q_bc h5 hi hb), ob_of _ (q_cr h5 hi hb), ob_of _ (q_ca (p := 5) (k := 5) h5 hi hb rfl (by omega)), va_up_s, upd_s]
      refine ⟨_, rfl, JOr_good h5 rfl rfl rfl fun u l' hu => ?_⟩
      obtain ⟨s1, e1, h1⟩ := x_thr hu 0
      obtain ⟨s2, e2, h2⟩ := m_look h1 hpe (by omega)
      have hE : EQ5 (likN t17 (fun k => mB (7 * i + k)) 5) (cB i) := fun k k1 k2 => by rw [likN_5 _ _ k k1 k2]; exact (r3 k k1 k2).symm
      obtain ⟨s6, e6, h6⟩ := x_bo h2 hpe (q := 5) (k := 5) rfl (by omega) (by omega) (likN t17 (fun k => mB (7 * i + k)) 5 5 + (jmin a (100 - sumN (likN t17 (fun k => mB (7 * i + k)) 5) 5)))
      unfold fX5_seed
      rw [ob_of _ e1, ob_of _ (m_oR h1), ob_of _ (m_isBowl_t h1 hp hb), if_neg n10, ob_of _ (isIn_t w1 (Int32.not_lt.mpr w2)), if_neg n10, ob_of _ (m_oR h1), ob_of _ e2, ob_of _ (m_r10 h2), ob_of _ (l_aI (c := 17) (n := 6) (f := likN t17 (fun k => mB (7 * i + k)) 5) (i := 5) h2 rfl 5 rfl (by omega) (by omega)), ob_of _ (m_r10 h2), ob_of _ (s_sum h2 (a := 17) rfl), ob_of _ (m_oR h2), ob_of _ e6, ob_of _ (m_oR h6), ob_of _ (m_bo h6 hpe (q := 5) (k := 5) rfl (by omega) (by omega)), upd_s, hE.sum, hE 5 (by omega) (by omega), jmin_comm]
      rw [hE.sum, hE 5 (by omega) (by omega), jmin_comm] at h6
      refine ⟨_, rfl, _, _, _, _, _, _, _, h6, hR.B i hb (fun j hj => ⟨hj, by omega⟩) (fun j hj _ => hj) (fun _ _ => rfl) (fun _ _ => rfl) (fun j hj => va_up_n _ _ hj) (fun j k hj hk => ?_) ?_⟩
      · rw [upd_n _ _ (by omega)]
      · refine ⟨?_, ?_, fun k k1 k2 => ?_, ?_, r5, r6⟩
        · rw [upd_n _ _ (by omega), r1]
        · rw [upd_n _ _ (by omega), r2]
        · rw [va_up_s]
          show _ = upd _ _ _ (7 * i + k)
          by_cases hk : k = 5
          · rw [hk, upd_s, upd_s]
          · rw [upd_n _ _ hk, upd_n _ _ (by omega)]
            exact r3 k k1 k2
        · rw [va_up_s]; exact q3
    · rw [if_neg w2]
      exact ⟨_, rfl, JOr_bad k1_ia (by decide) h hR fun u hu => bad u (Or.inr (Int32.not_le.mp w2)) hu⟩
theorem op_polish (h : NH st ad (CT ad day nb ns nx gB wB cB sS bX f6 f7 g8 g9 ((MQT ad l thr day nb ns nx mB mS mX k15 k16 t17 t18)))) (hR : RELS nb ns nx gB wB cB sS bX mB mS mX) (p : Int32) : JO cd3 (ad 0) (ad 10) (ad 11) (fX4_polish st (ad 0) p) (fun u => fX5_polish u (ad 11) p) := by
  obtain ⟨hb, hs, hx, rB, rS, rX, rZ⟩ := id hR
  unfold fX4_polish
  rw [ob_of _ (q_oR h)]
  rcases hp : ixO p ns with _ | i
  · rw [xt_of _ (c_slabAt_f h hp)]
    refine ⟨_, rfl, JOr_bad k3_io (by decide) h hR fun u hu => ?_⟩
    obtain ⟨s1, e1, h1⟩ := x_thr hu 0
    obtain ⟨s2, e2, h2⟩ := x_fail h1 1
    unfold fX5_polish
    rw [ob_of _ e1, ob_of _ (m_oR h1), ob_of _ (m_isSlab_f h1 hp hs), if_pos rfl, ob_of _ (m_oR h1), ob_of _ e2]
    exact ⟨_, _, rfl, h2⟩
  · obtain ⟨hi, hpe⟩ := ixO_some hp
    obtain ⟨r1, r2, r3, r4, r5⟩ := rS i hi
    obtain ⟨s5, e5, h5⟩ := w_s3 h hi (jmax 0 (sS i 3 - 15))
    have eb : fX3_bloomBehindPolish st (ad (60 + i)) = some (jmax 0 (sS i 3 - 15)) := by
      unfold fX3_bloomBehindPolish
      rw [ob_of _ (q_s3 h hi)]
    rw [xb_of _ (c_slabAt_t h hp hs), ob_of _ (q_so h hi), ob_of _ eb, ob_of _ e5, ob_of _ (q_s3 h5 hi), va_up_s, upd_s]
    refine ⟨_, rfl, JOr_good h5 rfl rfl rfl fun u l' hu => ?_⟩
    obtain ⟨s1, e1, h1⟩ := x_thr hu 0
    obtain ⟨s2, e2, h2⟩ := x_sl h1 hpe (q := 3) (k := 3) rfl (by omega) (by omega) (jmax 0 (mS (5 * i + 3) - 15))
    unfold fX5_polish
    rw [ob_of _ e1, ob_of _ (m_oR h1), ob_of _ (m_isSlab_t h1 hp hs), if_neg n10, ob_of _ (m_oR h1), ob_of _ (m_sl h1 hpe (q := 3) (k := 3) rfl (by omega) (by omega)), ob_of _ (m_oR h1), ob_of _ e2, ob_of _ (m_oR h2), ob_of _ (m_sl h2 hpe (q := 3) (k := 3) rfl (by omega) (by omega)), upd_s, ← r1 3 (by omega)]
    rw [← r1 3 (by omega)] at h2
    refine ⟨_, rfl, _, _, _, _, _, _, _, h2, hR.S i hs (fun j hj _ => hj) (fun j hj => va_up_n _ _ hj) (fun j k hj hk => upd_n _ _ (by omega)) ⟨fun k hk => ?_, ?_⟩⟩
    · rw [va_up_s]
      by_cases h3 : k = 3
      · rw [h3, upd_s, upd_s]
      · rw [upd_n _ _ h3, upd_n _ _ (by omega), r1 k hk]
    · rw [va_up_s]
      refine ⟨r2, r3, r4, ?_⟩
      rw [upd_s, i_max, toInt_0, i_sub] <;> rw [show (15 : Int32).toInt = 15 by decide] <;> omega
theorem op_would (h : NH st ad (CT ad day nb ns nx gB wB cB sS bX f6 f7 g8 g9 ((MQT ad l thr day nb ns nx mB mS mX k15 k16 t17 t18)))) (hR : RELS nb ns nx gB wB cB sS bX mB mS mX) (p a b : Int32) : JO cd1 (ad 0) (ad 10) (ad 11) (fX4_would st (ad 0) p a b) (fun u => fX5_would u (ad 11) p a b) := by
  obtain ⟨hb, hs, hx, rB, rS, rX, rZ⟩ := id hR
  unfold fX4_would
  rw [ob_of _ (q_oR h)]
  rcases hp : ixO p nb with _ | i
  · rw [xt_of _ (c_bowlAt_f h hp)]
    refine ⟨_, rfl, JOr_bad k1_io (by decide) h hR fun u hu => ?_⟩
    obtain ⟨s1, e1, h1⟩ := x_thr hu 0
    obtain ⟨s2, e2, h2⟩ := x_fail h1 1
    unfold fX5_would
    rw [ob_of _ e1, ob_of _ (m_oR h1), ob_of _ (m_isBowl_f h1 hp hb), if_pos rfl, ob_of _ (m_oR h1), ob_of _ e2]
    exact ⟨_, _, rfl, h2⟩
  · obtain ⟨hi, hpe⟩ := ixO_some hp
    rw [xb_of _ (c_bowlAt_t h hp hb)]
    by_cases hw : (a < 15 ∨ 50 < a) ∨ (b < 1 ∨ 40 < b)
    · rw [xt_of _ (c_warming_f hw)]
      refine ⟨_, rfl, JOr_bad k1_ia (by decide) h hR fun u hu => ?_⟩
      obtain ⟨s1, e1, h1⟩ := x_thr hu 0
      obtain ⟨s2, e2, h2⟩ := x_fail h1 2
      unfold fX5_would
      rw [ob_of _ e1, ob_of _ (m_oR h1), ob_of _ (m_isBowl_t h1 hp hb), if_neg n10, ob_of _ (m_oR h1), ob_of _ (m_warmth_f hw), if_pos rfl, ob_of _ (m_oR h1), ob_of _ e2]
      exact ⟨_, _, rfl, h2⟩
    · rw [not_or, not_or, not_or] at hw
      obtain ⟨⟨w1, w2⟩, w3, w4⟩ := hw
      obtain ⟨r1, r2, r3, r4, r5, r6⟩ := rB i hi
      obtain ⟨n, hn, rfl, hq⟩ := toN (x := b) 40 (by rw [i_lt, show (1 : Int32).toInt = 1 by decide] at w3; omega) (by rw [i_lt, show (40 : Int32).toInt = 40 by decide] at w4; omega) (by omega)
      obtain ⟨s4, e4, h4⟩ := s_like h (c := 4) (a := 6) q_c4 rfl (c_c hi hb) (c_a hi hb) (by omega)
      have h4 := w_6 _ h4
      have hE6 : EQ5 (likN f6 (cB i) 5) (cB i) := likN_5 _ _
      obtain ⟨s5, e5, h5⟩ := s_keepAt a (n := n) (by omega) (r4.congr hE6) h4 (c := 4) (a := 6) q_c4 rfl
      have h5 := w_6 _ h5
      rw [xb_of _ (c_warming_t w1 w2 w3 w4), ob_of _ (q_r4 h), ob_of _ (q_bc h hi hb), ob_of _ (l_oR (c := 4) h q_c4), ob_of _ e4, ob_of _ (q_r4 h4), ob_of _ (l_oR (c := 4) h4 q_c4), ob_of _ e5, ob_of _ (q_r4 h5), ob_of _ (l_oR (c := 4) h5 q_c4), ob_of _ (s_temper h5 (c := 4) (a := 6) q_c4 rfl), (hE6.turs n).tem]
      refine ⟨_, rfl, JOr_good h5 rfl rfl rfl fun u l' hu => ?_⟩
      obtain ⟨s1, e1, h1⟩ := x_thr hu 0
      obtain ⟨s2, e2, h2⟩ := m_look h1 hpe (by omega)
      obtain ⟨s3, e3, h3⟩ := s_turns a (n := n) (by omega) h2 (a := 17) rfl
      have h3 := x_17 _ h3
      have hE : EQ5 (turN a (likN t17 (fun k => mB (7 * i + k)) 5) n) (turN a (cB i) n) := EQ5.turs (fun k k1 k2 => by rw [likN_5 _ _ k k1 k2]; exact (r3 k k1 k2).symm) n
      unfold fX5_would
      rw [ob_of _ e1, ob_of _ (m_oR h1), ob_of _ (m_isBowl_t h1 hp hb), if_neg n10, ob_of _ (m_oR h1), ob_of _ (m_warmth_t w1 w2 w3 w4), if_neg n10, ob_of _ (m_oR h1), ob_of _ e2, ob_of _ (m_r10 h2), ob_of _ e3, ob_of _ (m_r10 h3), ob_of _ (s_mtemper h3 (a := 17) rfl), hE.tem]
      exact ⟨_, rfl, _, _, _, _, _, _, _, h3, hR⟩
end OPS
