/-! CLOSING THE GAPS; melt -/
theorem NH.ren {st : DSt} {ad ad' : Nat → Nat} {ct ct' : Nat → Option DCel} (h : NH st ad ct) (ρ : Nat → Nat) (hct : ∀ c e, ct' c = some e → ct (ρ c) = some e ∧ ad' c = ad (ρ c)) (hinj : ∀ c d e e', ct' c = some e → ct' d = some e' → ρ c = ρ d → c = d) : NH st ad' ct' := ⟨fun c d e e' hc hd q => hinj c d e e' hc hd (h.1 _ _ e e' (hct c e hc).1 (hct d e' hd).1 (by rw [← (hct c e hc).2, ← (hct d e' hd).2]; exact q)), fun c e hc => by rw [(hct c e hc).2]; exact h.2.1 _ _ (hct c e hc).1, h.2.2⟩
theorem reg_lt {r0 q r2 r3 r4 r5 r6 r6' : Nat → Option DCel} {c : Nat} (h : c < 60) : reg r0 q r2 r3 r4 r5 r6 c = reg r0 q r2 r3 r4 r5 r6' c := by
  unfold reg
  exact ite_congr rfl (fun _ => rfl) fun _ => ite_congr rfl (fun _ => rfl) fun _ => ite_congr rfl (fun _ => rfl) fun _ => ite_congr rfl (fun _ => rfl) fun _ => ite_congr rfl (fun _ => rfl) fun _ => (if_pos h).trans (if_pos h).symm
def rnA (ad : Nat → Nat) (e : Nat → Nat) : Nat → Nat := fun c => if 60 ≤ c then ad (60 + e (c - 60)) else ad c
theorem rnA_lt {ad : Nat → Nat} {e : Nat → Nat} {c : Nat} (h : c < 60) : rnA ad e c = ad c := if_neg (by omega)
section GAPS
variable {st : DSt} {ad : Nat → Nat} {day : Int32} {nb ns nx : Nat} {gB wB : Nat → Int32} {cB sS bX : Nat → Nat → Int32} {f6 f7 g8 g9 : Nat → Int32} {Q : Nat → Option DCel} {g : Nat → Option Nat} {i m : Nat} {e : Nat → Nat} {mk : Nat → Bool}
theorem y_oR (h : NH st ad (va_up (CT ad day nb ns nx gB wB cB sS bX f6 f7 g8 g9 Q) 2 (some (ARO 3 8 g)))) : oR st (some (ad 0)) 4 = some (ad 0) := l_oR (c := 0) h ((va_up_n _ _ (by decide)).trans rfl)
theorem y_rs (h : NH st ad (va_up (CT ad day nb ns nx gB wB cB sS bX f6 f7 g8 g9 Q) 2 (some (ARO 3 8 g)))) : gR st (some (ad 0)) 4 1 = some (some (ad 2)) := l_gR (c := 0) h ((va_up_n _ _ (by decide)).trans rfl) 1 rfl
theorem y_aRs (h : NH st ad (va_up (CT ad day nb ns nx gB wB cB sS bX f6 f7 g8 g9 Q) 2 (some (ARO 3 8 g)))) {p : Int32} (hp : p = nI i) (hi : i < 8) : aR st (some (ad 2)) 3 p = some (g i) := l_aR (c := 2) (n := 8) (g := g) h (va_up_s _ _ _) i hp hi (by omega)
theorem y_sRs (h : NH st ad (va_up (CT ad day nb ns nx gB wB cB sS bX f6 f7 g8 g9 Q) 2 (some (ARO 3 8 g)))) {p : Int32} (hp : p = nI i) (hi : i < 8) {v : Option Nat} (hv : v = none ∨ ∃ j, j < ns ∧ v = some (ad (60 + j))) : ∃ st', sR st (some (ad 2)) 3 3 p v = some st' ∧ NH st' ad (va_up (CT ad day nb ns nx gB wB cB sS bX f6 f7 g8 g9 Q) 2 (some (ARO 3 8 (va_up g i v)))) := by
  have hk : okR st v 3 = true := by
    rcases hv with rfl | ⟨j, hj, rfl⟩
    · rfl
    · exact okR_of h ((va_up_n _ _ (by omega)).trans (c_s hj))
  refine ⟨_, l_sR (c := 2) (n := 8) (g := g) h (va_up_s _ _ _) i hp hi (by omega) hk, ?_⟩
  have q := h.set (c := 2) (va_up_s _ _ _) (ARO 3 8 (va_up g i v))
  rw [bx_uu] at q
  exact q
theorem c_close (h : NH st ad (va_up (CT ad day nb ns nx gB wB cB sS bX f6 f7 g8 g9 Q) 2 (some (ARO 3 8 g)))) (hb : nb ≤ 5) (hs : ns ≤ 8) (hx : nx ≤ 6) (hN : EN mk ns m e) (hg : ∀ j, g j = if j < ns ∧ mk j = false then some (ad (60 + j)) else none) : ∃ st', fX4_closeGaps st (ad 0) = some st' ∧ NH st' (rnA ad e) (CT (rnA ad e) day nb m nx gB wB cB (fun t => sS (e t)) bX f6 f7 g8 g9 Q) := by
  obtain ⟨N0, N1, N3, N4⟩ := id hN
  obtain ⟨b, g1, g2, g3⟩ := dlp_run (fX4_closeGaps_L4 (ad 0)) (fun k z => z.2.2 = nI k ∧ ∃ w, z.2.1 = nI w ∧ w ≤ m ∧ (∀ t, t < m → (t < w ↔ e t < k)) ∧ NH z.1 ad (va_up (CT ad day nb ns nx gB wB cB sS bX f6 f7 g8 g9 Q) 2 (some (ARO 3 8 (fun j => if j < w then some (ad (60 + e j)) else if j < k then none else g j))))) (fun b => b.2.1 = nI m ∧ NH b.1 ad (va_up (CT ad day nb ns nx gB wB cB sS bX f6 f7 g8 g9 Q) 2 (some (ARO 3 8 (fun j => if j < m then some (ad (60 + e j)) else none))))) 8 (fun k z hk hz => by
    obtain ⟨z1, z2, z3⟩ := z
    obtain ⟨e3, w, e2, w1, w2, hz⟩ := hz
    dsimp only at e3 e2 hz
    subst e3; subst e2
    have hwk : w ≤ k := by
      by_cases w0 : w = 0
      · omega
      · have := (w2 (w - 1) (by omega)).mp (by omega)
        have := hN.ge (w - 1) (by omega)
        omega
    unfold fX4_closeGaps_L4
    dsimp only
    by_cases h8 : k = 8
    · subst h8
      refine Or.inr ⟨_, if_pos (show (8 : Int32) ≤ nI 8 by decide), ?_⟩
      have hwm : w = m := by
        by_cases q : w < m
        · have := N1 w q
          have := (w2 w q).mpr (by omega)
          omega
        · omega
      subst hwm
      have eg : (fun j => if j < w then some (ad (60 + e j)) else if j < 8 then none else g j) = fun j => if j < w then some (ad (60 + e j)) else none := by
        funext j
        by_cases q : j < w
        · rw [if_pos q, if_pos q]
        · rw [if_neg q, if_neg q]
          by_cases q8 : j < 8
          · rw [if_pos q8]
          · rw [if_neg q8, hg j, if_neg (by omega)]
      rw [eg] at hz
      exact ⟨rfl, hz⟩
    · refine Or.inl ?_
      obtain ⟨s1, f1, h1⟩ := y_sRs hz (p := nI k) (i := k) rfl (by omega) (v := none) (Or.inl rfl)
      rw [if_neg (show ¬ (8 : Int32) ≤ nI k from nI_ge (b := 8) (by omega) (by omega)), ob_of _ (y_rs hz), ob_of _ (y_aRs hz (i := k) rfl (by omega)), ob_of _ (y_rs hz), ob_of _ f1, if_neg (show ¬ k < w by omega), if_neg (show ¬ k < k by omega), hg k]
      by_cases q : k < ns ∧ mk k = false
      · rw [if_pos q]
        obtain ⟨t, t1, t2⟩ := N4 k q.1 q.2
        have tw : t = w := by
          have a1 : ¬ t < w := fun z => by have := (w2 t t1).mp z; omega
          rcases Nat.lt_or_ge w t with z | z
          · have := N3 w t z t1
            have := (w2 w (by omega)).mpr (by omega)
            omega
          · omega
        subst tw
        obtain ⟨s2, f2, h2⟩ := y_sRs h1 (p := nI t) (i := t) rfl (by omega) (v := some (ad (60 + k))) (Or.inr ⟨k, q.1, rfl⟩)
        show ∃ s', (oB (gR s1 (some (ad 0)) 4 1) _) = _ ∧ _
        rw [ob_of _ (y_rs h1), ob_of _ f2]
        refine ⟨_, rfl, by omega, nI_1 _, t + 1, nI_1 _, by omega, fun t' ht' => ?_, ?_⟩
        · rw [show (t' < t + 1) ↔ ¬ t < t' by omega, ← hN.mono t1 ht', t2]
          omega
        · have eg : va_up (va_up (fun j => if j < t then some (ad (60 + e j)) else if j < k then none else g j) k none) t (some (ad (60 + k))) = fun j => if j < t + 1 then some (ad (60 + e j)) else if j < k + 1 then none else g j := by
            funext j
            by_cases j1 : j = t
            · rw [j1, va_up_s, if_pos (by omega), t2]
            · rw [va_up_n _ _ j1]
              by_cases j2 : j = k
              · rw [j2, va_up_s, if_neg (by omega), if_pos (by omega)]
              · rw [va_up_n _ _ j2]
                by_cases j3 : j < t
                · rw [if_pos j3, if_pos (by omega)]
                · rw [if_neg j3, if_neg (show ¬ j < t + 1 by omega)]
                  by_cases j4 : j < k
                  · rw [if_pos j4, if_pos (show j < k + 1 by omega)]
                  · rw [if_neg j4, if_neg (show ¬ j < k + 1 by omega)]
          rw [eg] at h2
          exact h2
      · rw [if_neg q]
        refine ⟨_, rfl, by omega, nI_1 _, w, rfl, w1, fun t' ht' => ?_, ?_⟩
        · rw [w2 t' ht']
          have := N1 t' ht'
          have : e t' ≠ k := fun z => q (by rw [← z]; exact this)
          omega
        · have eg : va_up (fun j => if j < w then some (ad (60 + e j)) else if j < k then none else g j) k none = fun j => if j < w then some (ad (60 + e j)) else if j < k + 1 then none else g j := by
            funext j
            by_cases j2 : j = k
            · rw [j2, va_up_s, if_neg (by omega), if_pos (by omega)]
            · rw [va_up_n _ _ j2]
              by_cases j3 : j < w
              · rw [if_pos j3, if_pos j3]
              · rw [if_neg j3, if_neg j3]
                by_cases j4 : j < k
                · rw [if_pos j4, if_pos (by omega)]
                · rw [if_neg j4, if_neg (by omega)]
          rw [eg] at h1
          exact h1) (st, 0, 0) ⟨rfl, 0, rfl, Nat.zero_le _, fun t ht => by omega, by
          have eg : (fun j => if j < 0 then some (ad (60 + e j)) else if j < 0 then none else g j) = g := by
            funext j
            rw [if_neg (by omega), if_neg (by omega)]
          dsimp only
          rw [eg]; exact h⟩
  obtain ⟨s11, f11, h11⟩ := pV_ex g3 (c := 0) ((va_up_n _ _ (by decide)).trans rfl) rfl 4 (DI (nI m)) (show (4 : Nat) < 11 by decide)
  refine ⟨s11, ?_, ?_⟩
  · unfold fX4_closeGaps
    rw [ob_of _ g1, g2, ob_of _ f11]
  · unfold CT at h11
    rw [reg_u0 (by omega), reg_u0 (by omega)] at h11
    unfold T0 at h11
    rw [R10_u2, R10_u0] at h11
    unfold CT
    rw [T0_new (ad := ad) (fun c hc => rnA_lt (by omega)) (nR_same fun i hi => rnA_lt (by omega)) (show nR (rnA ad e) 60 m = fun j => if j < m then some (ad (60 + e j)) else none by
      funext j
      unfold nR
      by_cases q : j < m
      · rw [if_pos q, if_pos q]
        unfold rnA
        rw [if_pos (by omega), Nat.add_sub_cancel_left]
      · rw [if_neg q, if_neg q]) (nR_same fun i hi => rnA_lt (by omega)), T2_same (ad := ad) (fun i hi => rnA_lt (by omega)), T3_same (ad := ad) (fun i hi => rnA_lt (by omega))]
    refine h11.ren (fun c => if 60 ≤ c then 60 + e (c - 60) else c) (fun c e0 hc => ?_) (fun c d e0 e1 hc hd q => ?_)
    · skip
      by_cases q : 60 ≤ c
      · obtain ⟨j, rfl⟩ : ∃ j, c = 60 + j := ⟨c - 60, by omega⟩
        rw [reg_6] at hc
        unfold T6 at hc
        by_cases hj : j < m
        · rw [if_pos hj] at hc
          rw [if_pos q, Nat.add_sub_cancel_left, reg_6]
          unfold T6
          rw [if_pos (N1 j hj).1]
          refine ⟨hc, ?_⟩
          unfold rnA
          rw [if_pos q, Nat.add_sub_cancel_left]
        · rw [if_neg hj] at hc
          cases hc
      · rw [if_neg q]
        exact ⟨(reg_lt (by omega)).trans hc, rnA_lt (by omega)⟩
    · have low : ∀ c e0, reg (R10 (some (O4 ad day nb m nx)) (some (ARO 2 5 (nR ad 20 nb))) (some (ARO 3 8 (fun j => if j < m then some (ad (60 + e j)) else none))) (some (ARO 4 6 (nR ad 50 nx))) (some (OC (ad 6))) (some (OC (ad 7))) (some (ARR 6 f6)) (some (ARR 6 f7)) (some (ARR 6 g8)) (some (.inl (1, (8, .inl g9))))) Q (T2 ad nb gB wB) (T3 ad nb) (T4 nb cB) (T5 nx bX) (T6 m (fun t => sS (e t))) c = some e0 → 60 ≤ c → c - 60 < m := fun c e0 hc hq => by
        obtain ⟨j, rfl⟩ : ∃ j, c = 60 + j := ⟨c - 60, by omega⟩
        rw [reg_6] at hc
        unfold T6 at hc
        by_cases hj : j < m
        · omega
        · rw [if_neg hj] at hc
          cases hc
      by_cases q1 : 60 ≤ c <;> by_cases q2 : 60 ≤ d
      · rw [if_pos q1, if_pos q2] at q
        have := hN.inj (low c e0 hc q1) (low d e1 hd q2) (by omega)
        omega
      · rw [if_pos q1, if_neg q2] at q
        omega
      · rw [if_neg q1, if_pos q2] at q
        omega
      · rw [if_neg q1, if_neg q2] at q
        exact q
end GAPS
theorem RELS.E {nb ns nx m : Nat} {gB wB : Nat → Int32} {cB sS bX : Nat → Nat → Int32} {mB mS mX mS' : Nat → Int32} {e : Nat → Nat} (h : RELS nb ns nx gB wB cB sS bX mB mS mX) (hm : m ≤ 8) (he : ∀ t, t < m → e t < ns) (hr : ∀ t, t < m → ∀ k, k < 5 → mS' (5 * t + k) = mS (5 * e t + k)) : RELS nb m nx gB wB cB (fun t => sS (e t)) bX mB mS' mX := by
  obtain ⟨h1, h2, h3, h4, h5, h6, h7⟩ := h
  refine ⟨h1, hm, h3, h4, fun t ht => ?_, h6, h7⟩
  obtain ⟨r1, r2⟩ := h5 (e t) (he t ht)
  exact ⟨fun k hk => by rw [hr t ht k hk]; exact r1 k hk, r2⟩
section MAWAY
variable {st : DSt} {ad : Nat → Nat} {l : Nat → Int64} {thr day : Int32} {nb ns nx : Nat} {mB mS mX k15 k16 t17 t18 : Nat → Int32} {r0 r2 r3 r4 r5 r6 : Nat → Option DCel} {i : Nat} {p : Int32}
theorem x_away (h : NH st ad (MT ad l thr day nb ns nx mB mS mX k15 k16 t17 t18 r0 r2 r3 r4 r5 r6)) (hp : p = nI i) (hi : i < ns) (hs : ns ≤ 8) : ∃ st', fX5_away st (ad 11) p = some st' ∧ NH st' ad (MT ad l thr day nb (ns - 1) nx mB (va_cpy mS mS (5 * (i + 1)) (5 * i) (5 * (ns - 1 - i))) mX k15 k16 t17 t18 r0 r2 r3 r4 r5 r6) := by
  subst hp
  obtain ⟨n, rfl⟩ : ∃ n, ns = n + 1 := ⟨ns - 1, by omega⟩
  obtain ⟨s1, e1, h1⟩ := x_ns h (v := nI (n + 1) - 1) n (nI_pred n)
  have g3 := l_cp h1 (c0 := 13) (c1 := 13) m_c13 m_c13 (sp := 5 * (nI i + 1)) (dp := 5 * nI i) (n := 5 * (nI n - nI i)) (5 * (i + 1)) (5 * i) (5 * (n - i)) (by rw [nI_1]; exact nI_mul 5 (i + 1)) (nI_mul 5 i) (by
    rw [show nI n - nI i = nI (n - i) by rw [i_eq, i_sub] <;> (repeat rw [i_nI (by omega)]) <;> omega]
    exact nI_mul 5 (n - i)) (by omega) (by omega) (by omega) (by omega)
  have h2 := x_13 _ (h1.set (c := 13) m_c13 (ARR 40 (va_cpy mS mS (5 * (i + 1)) (5 * i) (5 * (n - i)))))
  unfold fX5_away
  rw [ob_of _ (m_ns h), ob_of _ e1, ob_of _ (m_r6 h1), ob_of _ (m_r6 h1), ob_of _ (m_ns h1), ob_of _ g3]
  exact ⟨_, rfl, h2⟩
theorem awF_i {mS : Nat → Int32} {i n t k : Nat} (hi : i < n) (ht : t < n - 1) (hk : k < 5) : va_cpy mS mS (5 * (i + 1)) (5 * i) (5 * (n - 1 - i)) (5 * t + k) = mS (5 * (if t < i then t else t + 1) + k) := by
  by_cases q : t < i
  · rw [if_pos q]
    exact if_neg (by omega)
  · rw [if_neg q]
    refine (if_pos ⟨by omega, by omega⟩).trans ?_
    congr 1
    omega
end MAWAY
section OPMELT
variable {st : DSt} {ad : Nat → Nat} {day : Int32} {nb ns nx : Nat} {gB wB : Nat → Int32} {cB sS bX : Nat → Nat → Int32} {f6 f7 g8 g9 : Nat → Int32} {Q : Nat → Option DCel} {l : Nat → Int64} {thr md : Int32} {pb ps px : Nat} {mB mS mX k15 k16 t17 t18 : Nat → Int32}
theorem op_melt (h : NH st ad (CT ad day nb ns nx gB wB cB sS bX f6 f7 g8 g9 ((MQT ad l thr day nb ns nx mB mS mX k15 k16 t17 t18)))) (hR : RELS nb ns nx gB wB cB sS bX mB mS mX) (p q : Int32) : JO cd1 (ad 0) (ad 10) (ad 11) (fX4_melt st (ad 0) p q) (fun u => fX5_melt u (ad 11) p q) := by
  obtain ⟨hb, hs, hx, rB, rS, rX, rZ⟩ := id hR
  unfold fX4_melt
  rw [ob_of _ (q_oR h)]
  rcases hp : ixO p ns with _ | i
  · rw [xt_of _ (c_slabAt_f h hp)]
    refine ⟨_, rfl, JOr_bad k1_io (by decide) h hR fun u hu => ?_⟩
    obtain ⟨s1, e1, h1⟩ := x_thr hu 0
    obtain ⟨s2, e2, h2⟩ := x_fail h1 1
    unfold fX5_melt
    rw [ob_of _ e1, ob_of _ (m_oR h1), ob_of _ (m_isSlab_f h1 hp hs), if_pos rfl, ob_of _ (m_oR h1), ob_of _ e2]
    exact ⟨_, _, rfl, h2⟩
  obtain ⟨hi, hpe⟩ := ixO_some hp
  obtain ⟨r1, r2, r3, r4, r5⟩ := rS i hi
  rw [xb_of _ (c_slabAt_t h hp hs), ob_of _ (q_so h hi), ob_of _ (q_sg h hi), ob_of _ (q_oR h)]
  rcases hq : ixO q nb with _ | j
  · rw [xt_of _ (c_bowlAt_f h hq)]
    refine ⟨_, rfl, JOr_bad k1_io (by decide) h hR fun u hu => ?_⟩
    obtain ⟨s1, e1, h1⟩ := x_thr hu 0
    obtain ⟨s2, e2, h2⟩ := x_fail h1 1
    unfold fX5_melt
    rw [ob_of _ e1, ob_of _ (m_oR h1), ob_of _ (m_isSlab_t h1 hp hs), if_neg n10, ob_of _ (m_oR h1), ob_of _ (m_isBowl_f h1 hq hb), if_pos rfl, ob_of _ (m_oR h1), ob_of _ e2]
    exact ⟨_, _, rfl, h2⟩
  obtain ⟨hj, hqe⟩ := ixO_some hq
  obtain ⟨t1, t2, t3, t4, t5, t6⟩ := rB j hj
  have e2000 : (2000 : Int32).toInt = 2000 := by decide
  have e10i : (10 : Int32).toInt = 10 := by decide
  have ab0 := Int.mul_nonneg (show 0 ≤ (sS i 0).toInt by omega) (show 0 ≤ (sS i 1).toInt by omega)
  have ab6 := Int.mul_le_mul r2.2 r3.2 (by omega) (by omega)
  have eab : (sS i 0 * sS i 1).toInt = (sS i 0).toInt * (sS i 1).toInt := i_mul (by omega) (by omega)
  have eabt : (sS i 0 * sS i 1 * 10).toInt = (sS i 0).toInt * (sS i 1).toInt * 10 := by rw [i_mul] <;> rw [eab, e10i] <;> omega
  have esum : (gB j + sS i 0 * sS i 1 * 10).toInt = (gB j).toInt + (sS i 0).toInt * (sS i 1).toInt * 10 := by rw [i_add] <;> rw [eabt] <;> omega
  have em : mB (7 * j + 0) + (10 * (mS (5 * i) * mS (5 * i + 1))) = gB j + sS i 0 * sS i 1 * 10 := by
    rw [r1 0 (by omega), r1 1 (by omega), t1, Int32.mul_comm]
    rfl
  rw [xb_of _ (c_bowlAt_t h hq hb), ob_of _ (q_bg h hj hb)]
  by_cases w : ¬ gB j + sS i 0 * sS i 1 * 10 ≤ 2000
  · rw [if_neg w]
    refine ⟨_, rfl, JOr_bad k1_ia (by decide) h hR fun u hu => ?_⟩
    obtain ⟨s1, e1, h1⟩ := x_thr hu 0
    obtain ⟨s2, e2, h2⟩ := x_fail h1 2
    unfold fX5_melt
    rw [ob_of _ e1, ob_of _ (m_oR h1), ob_of _ (m_isSlab_t h1 hp hs), if_neg n10, ob_of _ (m_oR h1), ob_of _ (m_isBowl_t h1 hq hb), if_neg n10, ob_of _ (m_oR h1), ob_of _ (m_bo (q := 0) h1 hqe (k := 0) rfl (by omega) (by omega)), ob_of _ (m_oR h1), ob_of _ (m_sq h1 hpe (by omega)), em, if_neg w, ob_of _ (m_oR h1), ob_of _ e2]
    exact ⟨_, _, rfl, h2⟩
  have w := Decidable.not_not.mp w
  obtain ⟨s9, e9, h9⟩ := w_g h hj hb (gB j + sS i 0 * sS i 1 * 10)
  have h9' : NH s9 ad (va_up (CT ad day nb ns nx (upd gB j (gB j + sS i 0 * sS i 1 * 10)) wB cB sS bX f6 f7 g8 g9 ((MQT ad l thr day nb ns nx mB mS mX k15 k16 t17 t18))) 2 (some (ARO 3 8 (nR ad 60 ns)))) := h9.start (a := 2) rfl
  obtain ⟨s11, e11, h11⟩ := y_sRs h9' hpe (by omega) (v := none) (Or.inl rfl)
  have hN0 : EN (fun _ => false) ns ns (fun t => t) := ⟨Nat.le_refl _, fun t ht => ⟨ht, rfl⟩, fun t t' h _ => h, fun j hj _ => ⟨j, hj, rfl⟩⟩
  have hN := (hN0.drop hi).1
  obtain ⟨s13, e13, h13⟩ := c_close h11 hb hs hx hN (fun j => by
    by_cases z : j = i
    · rw [z, va_up_s, if_neg (fun y => by rw [va_up_s] at y; cases y.2)]
    · rw [va_up_n _ _ z]
      unfold nR
      by_cases z2 : j < ns
      · rw [if_pos z2, if_pos ⟨z2, va_up_n _ _ z⟩]
      · rw [if_neg z2, if_neg (fun y => z2 y.1)])
  have g14 : gI s13 (some (ad (20 + j))) 0 1 = some (gB j + sS i 0 * sS i 1 * 10) := by
    have q := q_bg h13 hj hb
    rw [upd_s, rnA_lt (by omega)] at q
    exact q
  rw [if_pos w, ob_of _ (q_bg h hj hb), ob_of _ e9, ob_of _ (q_rs h9), ob_of _ e11, ob_of _ (y_oR h11), ob_of _ e13, ob_of _ g14]
  rw [← MQT_same (ad' := rnA ad (fun t => if t < i then t else t + 1)) (fun c hc => rnA_lt (by omega))] at h13
  refine ⟨_, rfl, JOr_good h13 (rnA_lt (by omega)) (rnA_lt (by omega)) (rnA_lt (by omega)) fun u l' hu => ?_⟩
  rw [← rnA_lt (ad := ad) (e := fun t => if t < i then t else t + 1) (show 11 < 60 by omega)]
  obtain ⟨s1, f1, h1⟩ := x_thr hu 0
  obtain ⟨s2, f2, h2⟩ := x_bo h1 hqe (q := 0) (k := 0) rfl (by omega) (by omega) (gB j + sS i 0 * sS i 1 * 10)
  obtain ⟨s3, f3, h3⟩ := x_away h2 hpe hi hs
  unfold fX5_melt
  rw [ob_of _ f1, ob_of _ (m_oR h1), ob_of _ (m_isSlab_t h1 hp hs), if_neg n10, ob_of _ (m_oR h1), ob_of _ (m_isBowl_t h1 hq hb), if_neg n10, ob_of _ (m_oR h1), ob_of _ (m_bo (q := 0) h1 hqe (k := 0) rfl (by omega) (by omega)), ob_of _ (m_oR h1), ob_of _ (m_sq h1 hpe (by omega)), em, if_pos w, ob_of _ (m_oR h1), ob_of _ f2, ob_of _ (m_oR h2), ob_of _ f3]
  have hR1 : RELS nb ns nx (upd gB j (gB j + sS i 0 * sS i 1 * 10)) wB cB sS bX (upd mB (7 * j + 0) (gB j + sS i 0 * sS i 1 * 10)) mS mX := by
    refine hR.B j hb (fun j' hj' => ⟨hj', by omega⟩) (fun j hj _ => hj) (fun j hj => upd_n _ _ hj) (fun _ _ => rfl) (fun _ _ => rfl) (fun j k hj hk => upd_n _ _ (by omega)) ⟨?_, ?_, fun k k1 k2 => ?_, t4, ?_, ?_⟩
    · rw [upd_s]
      exact (upd_s _ _ _).symm
    · rw [upd_n _ _ (by omega), t2]
    · show _ = upd _ _ _ (7 * j + k)
      rw [upd_n _ _ (by omega)]
      exact t3 k k1 k2
    · rw [upd_s, esum]; omega
    · rw [i_le, esum, e2000] at w
      rw [upd_s, esum]; omega
  exact ⟨_, rfl, _, _, _, _, _, _, _, h3, hR1.E (by omega) (fun t ht => (hN.2.1 t ht).1) (fun t ht k hk => awF_i hi ht hk)⟩
end OPMELT
