theorem foldN_s {α : Type} (g : Nat → α → α) (n : Nat) (a : α) : foldN g (n + 1) a = g n (foldN g n a) := rfl
theorem foldN_0 {α : Type} (g : Nat → α → α) (a : α) : foldN g 0 a = a := rfl
/-! MEAN AND DIGEST -/
theorem mean_nn : ∀ b, b < 9 → 0 < b → ∀ a, a < 801 → FP.ddiv (FP.i2d (nI a)) (FP.i2d (nI b)) &&& 0x7fffffffffffffff ≤ 0x7ff0000000000000 := by decide +kernel
theorem oDD_ok {a b : Nat} (hb : b < 9) (h0 : 0 < b) (ha : a < 801) : oDD (FP.i2d (nI a)) (FP.i2d (nI b)) = some (FP.ddiv (FP.i2d (nI a)) (FP.i2d (nI b))) := by
  unfold oDD
  exact if_pos (mean_nn b hb h0 a ha)
theorem cntM_in {sS : Nat → Nat → Int32} {ns : Nat} : ∀ {n : Nat}, n ≤ ns → ns ≤ 8 → (∀ i, i < ns → 0 ≤ (sS i 3).toInt ∧ (sS i 3).toInt ≤ 100) → 0 ≤ (foldN (cntM sS) n 0).toInt ∧ (foldN (cntM sS) n 0).toInt ≤ 100 * (n : Int)
  | 0, _, _, _ => by
    show 0 ≤ (0 : Int32).toInt ∧ (0 : Int32).toInt ≤ 0
    decide
  | n + 1, h1, h2, h => by
    have ih := cntM_in (sS := sS) (n := n) (by omega) h2 h
    have hn := h n (by omega)
    rw [foldN_s]
    unfold cntM
    rw [i_add] <;> (have ih := ih; unfold cntM at ih; omega)
def meanV (s : Int32) (ns : Nat) : UInt64 := if ns = 0 then FP.dconst0 else FP.ddiv (FP.i2d s) (FP.i2d (nI ns))
section CDIG
variable {st : DSt} {ad : Nat → Nat} {day : Int32} {nb ns nx : Nat} {gB wB : Nat → Int32} {cB sS bX : Nat → Nat → Int32} {f6 f7 g8 g9 : Nat → Int32} {Q : Nat → Option DCel}
theorem c_mean (h : NH st ad (CT ad day nb ns nx gB wB cB sS bX f6 f7 g8 g9 Q)) (hs : ns ≤ 8) (hB : ∀ i, i < ns → 0 ≤ (sS i 3).toInt ∧ (sS i 3).toInt ≤ 100) : fX4_mean st (ad 0) = some (meanV (foldN (cntM sS) ns 0) ns) := by
  unfold fX4_mean meanV
  rw [ob_of _ (q_rs h), ob_of _ (q_aNs h), ob_of _ (c_sumBloom h hs), ob_of _ (q_ns h)]
  by_cases h0 : ns = 0
  · rw [if_neg (show ¬ 0 < nI ns by rw [h0]; decide), if_pos h0]
  · have hb := cntM_in (sS := sS) (ns := ns) (n := ns) (Nat.le_refl _) hs hB
    obtain ⟨a, ha, e, -⟩ := toN (x := foldN (cntM sS) ns 0) 800 hb.1 (by omega) (by omega)
    rw [if_pos (show 0 < nI ns from nI_lt (a := 0) (by omega) (by omega)), if_neg h0, ob_of _ (q_ns h), e, ob_of _ (oDD_ok (by omega) (by omega) (by omega))]
end CDIG
section MDIG
end MDIG
/-! WHAT GOES INTO WHICH BOX: pure -/
def PL (p : Nat → Nat → Bool) (ns : Nat) : Nat → (Nat → Bool) × (Nat → Option Nat) × Int32 × Nat × (Nat → Nat)
  | 0 => (fun _ => false, fun _ => none, 0, ns, fun t => t)
  | b + 1 => match firstN (fun j => !((PL p ns b).1 j) && p b j) ns with
    | none => PL p ns b
    | some j => (va_up (PL p ns b).1 j true, va_up (PL p ns b).2.1 b (some j), (PL p ns b).2.2.1 + 1, (PL p ns b).2.2.2.1 - 1, fun t => if (PL p ns b).2.2.2.2 t < j then (PL p ns b).2.2.2.2 t else (PL p ns b).2.2.2.2 (t + 1))
theorem PL_n {p : Nat → Nat → Bool} {ns b : Nat} (h : firstN (fun j => !((PL p ns b).1 j) && p b j) ns = none) : PL p ns (b + 1) = PL p ns b := by
  show (match firstN (fun j => !((PL p ns b).1 j) && p b j) ns with
    | none => PL p ns b
    | some j => (va_up (PL p ns b).1 j true, va_up (PL p ns b).2.1 b (some j), (PL p ns b).2.2.1 + 1, (PL p ns b).2.2.2.1 - 1, fun t => if (PL p ns b).2.2.2.2 t < j then (PL p ns b).2.2.2.2 t else (PL p ns b).2.2.2.2 (t + 1))) = _
  rw [h]
theorem PL_s {p : Nat → Nat → Bool} {ns b j : Nat} (h : firstN (fun j => !((PL p ns b).1 j) && p b j) ns = some j) : PL p ns (b + 1) = (va_up (PL p ns b).1 j true, va_up (PL p ns b).2.1 b (some j), (PL p ns b).2.2.1 + 1, (PL p ns b).2.2.2.1 - 1, fun t => if (PL p ns b).2.2.2.2 t < j then (PL p ns b).2.2.2.2 t else (PL p ns b).2.2.2.2 (t + 1)) := by
  show (match firstN (fun j => !((PL p ns b).1 j) && p b j) ns with
    | none => PL p ns b
    | some j => (va_up (PL p ns b).1 j true, va_up (PL p ns b).2.1 b (some j), (PL p ns b).2.2.1 + 1, (PL p ns b).2.2.2.1 - 1, fun t => if (PL p ns b).2.2.2.2 t < j then (PL p ns b).2.2.2.2 t else (PL p ns b).2.2.2.2 (t + 1))) = _
  rw [h]
/-- e counts up, in their order, the numbers below n without a mark -/
def EN (mk : Nat → Bool) (n m : Nat) (e : Nat → Nat) : Prop := m ≤ n ∧ (∀ t, t < m → e t < n ∧ mk (e t) = false) ∧ (∀ t t', t < t' → t' < m → e t < e t') ∧ ∀ j, j < n → mk j = false → ∃ t, t < m ∧ e t = j
theorem EN.inj {mk : Nat → Bool} {n m : Nat} {e : Nat → Nat} (h : EN mk n m e) {t t' : Nat} (h1 : t < m) (h2 : t' < m) (q : e t = e t') : t = t' := by
  obtain ⟨-, -, h3, -⟩ := h
  rcases Nat.lt_trichotomy t t' with g | g | g
  · have := h3 t t' g h2; omega
  · exact g
  · have := h3 t' t g h1; omega
theorem EN.mono {mk : Nat → Bool} {n m : Nat} {e : Nat → Nat} (h : EN mk n m e) {t t' : Nat} (h1 : t < m) (h2 : t' < m) : e t < e t' ↔ t < t' := by
  obtain ⟨-, -, h3, -⟩ := h
  refine ⟨fun q => ?_, fun q => h3 t t' q h2⟩
  rcases Nat.lt_trichotomy t t' with g | g | g
  · exact g
  · rw [g] at q; omega
  · have := h3 t' t g h1; omega
theorem EN.ge {mk : Nat → Bool} {n m : Nat} {e : Nat → Nat} (h : EN mk n m e) : ∀ t, t < m → t ≤ e t
  | 0, _ => Nat.zero_le _
  | t + 1, ht => by
    have h1 := h.ge t (by omega)
    have h2 := h.2.2.1 t (t + 1) (by omega) ht
    omega
theorem EN.drop {mk : Nat → Bool} {n m : Nat} {e : Nat → Nat} (h : EN mk n m e) {i : Nat} (hi : i < m) : EN (va_up mk (e i) true) n (m - 1) (fun t => if e t < e i then e t else e (t + 1)) ∧ ∀ t, t < m - 1 → (if e t < e i then e t else e (t + 1)) = e (if t < i then t else t + 1) := by
  have key : ∀ t, t < m - 1 → (if e t < e i then e t else e (t + 1)) = e (if t < i then t else t + 1) := fun t ht => by
    by_cases q : t < i
    · rw [if_pos ((h.mono (by omega) hi).mpr q), if_pos q]
    · rw [if_neg (fun z => q ((h.mono (by omega) hi).mp z)), if_neg q]
  refine ⟨?_, key⟩
  obtain ⟨h0, h1, h3, h4⟩ := id h
  refine ⟨by omega, fun t ht => ?_, fun t t' ht ht' => ?_, fun j hj hm => ?_⟩
  · dsimp only
    rw [key t ht]
    have q : (if t < i then t else t + 1) < m ∧ (if t < i then t else t + 1) ≠ i := by split <;> omega
    obtain ⟨g1, g2⟩ := h1 _ q.1
    refine ⟨g1, ?_⟩
    rw [va_up_n _ _ (fun z => q.2 (h.inj q.1 hi z))]
    exact g2
  · dsimp only
    rw [key t (by omega), key t' ht']
    exact h3 _ _ (by split <;> split <;> omega) (by split <;> omega)
  · by_cases e0 : j = e i
    · rw [e0, va_up_s] at hm
      cases hm
    · rw [va_up_n _ _ e0] at hm
      obtain ⟨t, t1, t2⟩ := h4 j hj hm
      have tne : t ≠ i := fun z => e0 (by rw [← t2, z])
      by_cases q : t < i
      · refine ⟨t, by omega, ?_⟩
        dsimp only
        rw [key t (by omega), if_pos q, t2]
      · refine ⟨t - 1, by omega, ?_⟩
        dsimp only
        rw [key (t - 1) (by omega), if_neg (by omega), show t - 1 + 1 = t by omega, t2]
theorem EN.find {mk : Nat → Bool} {n m : Nat} {e : Nat → Nat} (h : EN mk n m e) {P : Nat → Bool} : (firstN (fun i => P (e i)) m = none → firstN (fun j => !(mk j) && P j) n = none) ∧ ∀ i, firstN (fun i => P (e i)) m = some i → firstN (fun j => !(mk j) && P j) n = some (e i) := by
  obtain ⟨h0, h1, h3, h4⟩ := id h
  refine ⟨fun q => firstN_none.mpr fun j hj => ?_, fun i q => ?_⟩
  · cases hm : mk j with
    | true => rfl
    | false =>
      obtain ⟨t, t1, t2⟩ := h4 j hj hm
      have := firstN_none.mp q t t1
      rw [t2] at this
      rw [this]
      rfl
  · obtain ⟨q1, q2, q3⟩ := firstN_some q
    refine firstN_is (h1 i q1).1 (by rw [(h1 i q1).2, q2]; rfl) fun j hj => ?_
    cases hm : mk j with
    | true => rfl
    | false =>
      obtain ⟨t, t1, t2⟩ := h4 j (Nat.lt_trans hj (h1 i q1).1) hm
      have := q3 t ((h.mono t1 q1).mp (by rw [t2]; exact hj))
      rw [t2] at this
      rw [this]
      rfl
theorem PL_EN (p : Nat → Nat → Bool) (ns : Nat) : ∀ b, EN (PL p ns b).1 ns (PL p ns b).2.2.2.1 (PL p ns b).2.2.2.2
  | 0 => ⟨Nat.le_refl _, fun t ht => ⟨ht, rfl⟩, fun t t' h _ => h, fun j hj _ => ⟨j, hj, rfl⟩⟩
  | b + 1 => by
    have ih := PL_EN p ns b
    rcases h : firstN (fun j => !((PL p ns b).1 j) && p b j) ns with _ | j
    · rw [PL_n h]; exact ih
    · rw [PL_s h]
      obtain ⟨h1, h2, -⟩ := firstN_some h
      rw [Bool.and_eq_true, Bool.not_eq_true'] at h2
      obtain ⟨t, t1, t2⟩ := ih.2.2.2 j h1 h2.1
      have := (ih.drop t1).1
      rw [t2] at this
      exact this
theorem PL_later {p : Nat → Nat → Bool} {ns : Nat} : ∀ b b', b ≤ b' → (PL p ns b).2.1 b' = none
  | 0, _, _ => rfl
  | b + 1, b', hb => by
    have ih := PL_later (p := p) (ns := ns) b b' (by omega)
    rcases h : firstN (fun j => !((PL p ns b).1 j) && p b j) ns with _ | j
    · rw [PL_n h]; exact ih
    · rw [PL_s h]
      exact (va_up_n _ _ (by omega)).trans ih
theorem PL_keep {p : Nat → Nat → Bool} {ns b b' : Nat} (h : b' < b) : ∀ c, b ≤ c → (PL p ns c).2.1 b' = (PL p ns b).2.1 b'
  | 0, hc => by omega
  | c + 1, hc => by
    by_cases e : b = c + 1
    · rw [e]
    · have ih := PL_keep (p := p) (ns := ns) h c (by omega)
      rcases hf : firstN (fun j => !((PL p ns c).1 j) && p c j) ns with _ | j
      · rw [PL_n hf]; exact ih
      · rw [PL_s hf]
        exact (va_up_n _ _ (by omega)).trans ih
/-- a mark stands where, and only where, a box has been given that slab; and it has been found fit -/
theorem PL_mark {p : Nat → Nat → Bool} {ns : Nat} : ∀ b j, (PL p ns b).1 j = true ↔ ∃ b', b' < b ∧ (PL p ns b).2.1 b' = some j
  | 0, j => ⟨fun q => (by cases q), fun ⟨b', h, _⟩ => (by omega)⟩
  | b + 1, j => by
    have ih := PL_mark (p := p) (ns := ns) b j
    rcases h : firstN (fun j => !((PL p ns b).1 j) && p b j) ns with _ | i
    · rw [PL_n h, ih]
      refine ⟨fun ⟨b', h1, h2⟩ => ⟨b', by omega, h2⟩, fun ⟨b', h1, h2⟩ => ⟨b', ?_, h2⟩⟩
      by_cases e : b' = b
      · rw [e, PL_later b b (Nat.le_refl _)] at h2
        cases h2
      · omega
    · rw [PL_s h]
      show va_up (PL p ns b).1 i true j = true ↔ ∃ b', b' < b + 1 ∧ va_up (PL p ns b).2.1 b (some i) b' = some j
      by_cases e : j = i
      · rw [e, va_up_s]
        exact ⟨fun _ => ⟨b, by omega, va_up_s _ _ _⟩, fun _ => rfl⟩
      · rw [va_up_n _ _ e, ih]
        refine ⟨fun ⟨b', h1, h2⟩ => ⟨b', by omega, by rw [va_up_n _ _ (by omega)]; exact h2⟩, fun ⟨b', h1, h2⟩ => ?_⟩
        by_cases e2 : b' = b
        · rw [e2, va_up_s] at h2
          cases h2
          exact absurd rfl e
        · rw [va_up_n _ _ e2] at h2
          exact ⟨b', by omega, h2⟩
theorem PL_fit {p : Nat → Nat → Bool} {ns : Nat} : ∀ b b' j, (PL p ns b).2.1 b' = some j → j < ns ∧ p b' j = true ∧ ∀ b'', (PL p ns b).2.1 b'' = some j → b'' = b'
  | 0, _, _, h => by cases h
  | b + 1, b', j, h => by
    rcases hf : firstN (fun j => !((PL p ns b).1 j) && p b j) ns with _ | i
    · rw [PL_n hf] at h ⊢
      exact PL_fit b b' j h
    · rw [PL_s hf] at h ⊢
      obtain ⟨f1, f2, -⟩ := firstN_some hf
      rw [Bool.and_eq_true, Bool.not_eq_true'] at f2
      have nomark : ∀ b'', (PL p ns b).2.1 b'' ≠ some i := fun b'' q => by
        have hb : b'' < b := by
          by_cases hb : b'' < b
          · exact hb
          · rw [PL_later b b'' (by omega)] at q
            cases q
        have := (PL_mark b i).mpr ⟨b'', hb, q⟩
        rw [f2.1] at this
        cases this
      have h' : va_up (PL p ns b).2.1 b (some i) b' = some j := h
      clear h
      by_cases e : b' = b
      · rw [e, va_up_s] at h'
        have hij : i = j := Option.some.inj h'
        rw [← hij]
        refine ⟨f1, by rw [e]; exact f2.2, fun b'' q => ?_⟩
        have q : va_up (PL p ns b).2.1 b (some i) b'' = some i := q
        by_cases e2 : b'' = b
        · rw [e, e2]
        · rw [va_up_n _ _ e2] at q
          exact absurd q (nomark b'')
      · rw [va_up_n _ _ e] at h'
        obtain ⟨g1, g2, g3⟩ := PL_fit b b' j h'
        refine ⟨g1, g2, fun b'' q => ?_⟩
        have q : va_up (PL p ns b).2.1 b (some i) b'' = some j := q
        by_cases e2 : b'' = b
        · rw [e2, va_up_s] at q
          have hij : i = j := Option.some.inj q
          rw [← hij] at h'
          exact absurd h' (nomark b')
        · rw [va_up_n _ _ e2] at q
          exact g3 b'' q
theorem PL_ext {p p' : Nat → Nat → Bool} {ns : Nat} (h : ∀ b j, j < ns → p b j = p' b j) : ∀ b, PL p ns b = PL p' ns b
  | 0 => rfl
  | b + 1 => by
    have ih := PL_ext h b
    have e : firstN (fun j => !((PL p ns b).1 j) && p b j) ns = firstN (fun j => !((PL p' ns b).1 j) && p' b j) ns := firstN_ext fun j hj => by rw [ih, h b j hj]
    rcases hf : firstN (fun j => !((PL p' ns b).1 j) && p' b j) ns with _ | j
    · rw [PL_n (e.trans hf), PL_n hf, ih]
    · rw [PL_s (e.trans hf), PL_s hf, ih]

/-! CLOSING THE GAPS; melt -/
theorem NH.ren {st : DSt} {ad ad' : Nat → Nat} {ct ct' : Nat → Option DCel} (h : NH st ad ct) (ρ : Nat → Nat) (hct : ∀ c e, ct' c = some e → ct (ρ c) = some e ∧ ad' c = ad (ρ c)) (hinj : ∀ c d e e', ct' c = some e → ct' d = some e' → ρ c = ρ d → c = d) : NH st ad' ct' := ⟨fun c d e e' hc hd q => hinj c d e e' hc hd (h.1 _ _ e e' (hct c e hc).1 (hct d e' hd).1 (by rw [← (hct c e hc).2, ← (hct d e' hd).2]; exact q)), fun c e hc => by rw [(hct c e hc).2]; exact h.2.1 _ _ (hct c e hc).1, h.2.2⟩
theorem reg_lt {r0 q r2 r3 r4 r5 r6 r6' : Nat → Option DCel} {c : Nat} (h : c < 60) : reg r0 q r2 r3 r4 r5 r6 c = reg r0 q r2 r3 r4 r5 r6' c := by
  unfold reg
  exact ite_congr rfl (fun _ => rfl) fun _ => ite_congr rfl (fun _ => rfl) fun _ => ite_congr rfl (fun _ => rfl) fun _ => ite_congr rfl (fun _ => rfl) fun _ => ite_congr rfl (fun _ => rfl) fun _ => (if_pos h).trans (if_pos h).symm
def rnA (ad : Nat → Nat) (e : Nat → Nat) : Nat → Nat := fun c => if 60 ≤ c ∧ c < 100 then ad (60 + e (c - 60)) else ad c
theorem rnA_lt {ad : Nat → Nat} {e : Nat → Nat} {c : Nat} (h : c < 60 ∨ 100 ≤ c) : rnA ad e c = ad c := if_neg (by omega)
section GAPS
variable {st : DSt} {ad : Nat → Nat} {day : Int32} {nb ns nx : Nat} {gB wB : Nat → Int32} {cB sS bX : Nat → Nat → Int32} {f6 f7 g8 g9 : Nat → Int32} {Q : Nat → Option DCel} {g : Nat → Option Nat} {i m : Nat} {e : Nat → Nat} {mk : Nat → Bool}
theorem y_oR (h : NH st ad (va_up (CT ad day nb ns nx gB wB cB sS bX f6 f7 g8 g9 Q) 2 (some (ARO 3 8 g)))) : oR st (some (ad 0)) 4 = some (ad 0) := l_oR (c := 0) h ((va_up_n _ _ (by decide)).trans rfl)
theorem y_rs (h : NH st ad (va_up (CT ad day nb ns nx gB wB cB sS bX f6 f7 g8 g9 Q) 2 (some (ARO 3 8 g)))) : gR st (some (ad 0)) 4 1 = some (some (ad 2)) := l_gR (c := 0) h ((va_up_n _ _ (by decide)).trans rfl) 1 rfl
theorem y_aRs (h : NH st ad (va_up (CT ad day nb ns nx gB wB cB sS bX f6 f7 g8 g9 Q) 2 (some (ARO 3 8 g)))) {p : Int32} (hp : p = nI i) (hi : i < 8) : aR st (some (ad 2)) 3 p = some (g i) := l_aR (c := 2) (n := 8) (g := g) h (va_up_s _ _ _) i hp hi (by omega)
theorem y_sRs (h : NH st ad (va_up (CT ad day nb ns nx gB wB cB sS bX f6 f7 g8 g9 Q) 2 (some (ARO 3 8 g)))) {p : Int32} (hp : p = nI i) (hi : i < 8) {v : Option Nat} (hv : v = none ∨ ∃ j, j < ns ∧ v = some (ad (60 + j))) : ∃ st', sR st (some (ad 2)) 3 3 p v = some st' ∧ NH st' ad (va_up (CT ad day nb ns nx gB wB cB sS bX f6 f7 g8 g9 Q) 2 (some (ARO 3 8 (va_up g i v)))) := by
  have hk : okR st v 3 = true := by
    rcases hv with rfl | ⟨j, hj, rfl⟩
    · rfl
    · exact okR_of h ((va_up_n _ _ (by omega)).trans (c_s hj))
  refine ⟨_, l_sR (c := 2) (n := 8) (g := g) h (va_up_s _ _ _) i hp hi (by omega) hk, ?_⟩
  have q := h.set (c := 2) (va_up_s _ _ _) (ARO 3 8 (va_up g i v))
  rw [bx_uu] at q
  exact q
theorem c_close (h : NH st ad (va_up (CT ad day nb ns nx gB wB cB sS bX f6 f7 g8 g9 Q) 2 (some (ARO 3 8 g)))) (hb : nb ≤ 5) (hs : ns ≤ 8) (hx : nx ≤ 6) (hN : EN mk ns m e) (hg : ∀ j, g j = if j < ns ∧ mk j = false then some (ad (60 + j)) else none) : ∃ st', fX4_closeGaps st (ad 0) = some st' ∧ NH st' (rnA ad e) (CT (rnA ad e) day nb m nx gB wB cB (fun t => sS (e t)) bX f6 f7 g8 g9 Q) := by
  obtain ⟨N0, N1, N3, N4⟩ := id hN
  obtain ⟨b, g1, g2, g3⟩ := dlp_run (fX4_closeGaps_L4 (ad 0)) (fun k z => z.2.2 = nI k ∧ ∃ w, z.2.1 = nI w ∧ w ≤ m ∧ (∀ t, t < m → (t < w ↔ e t < k)) ∧ NH z.1 ad (va_up (CT ad day nb ns nx gB wB cB sS bX f6 f7 g8 g9 Q) 2 (some (ARO 3 8 (fun j => if j < w then some (ad (60 + e j)) else if j < k then none else g j))))) (fun b => b.2.1 = nI m ∧ NH b.1 ad (va_up (CT ad day nb ns nx gB wB cB sS bX f6 f7 g8 g9 Q) 2 (some (ARO 3 8 (fun j => if j < m then some (ad (60 + e j)) else none))))) 8 (fun k z hk hz => by
    obtain ⟨z1, z2, z3⟩ := z
    obtain ⟨e3, w, e2, w1, w2, hz⟩ := hz
    dsimp only at e3 e2 hz
    subst e3; subst e2
    have hwk : w ≤ k := by
      by_cases w0 : w = 0
      · omega
      · have := (w2 (w - 1) (by omega)).mp (by omega)
        have := hN.ge (w - 1) (by omega)
        omega
    unfold fX4_closeGaps_L4
    dsimp only
    by_cases h8 : k = 8
    · subst h8
      refine Or.inr ⟨_, if_pos (show (8 : Int32) ≤ nI 8 by decide), ?_⟩
      have hwm : w = m := by
        by_cases q : w < m
        · have := N1 w q
          have := (w2 w q).mpr (by omega)
          omega
        · omega
      subst hwm
      have eg : (fun j => if j < w then some (ad (60 + e j)) else if j < 8 then none else g j) = fun j => if j < w then some (ad (60 + e j)) else none := by
        funext j
        by_cases q : j < w
        · rw [if_pos q, if_pos q]
        · rw [if_neg q, if_neg q]
          by_cases q8 : j < 8
          · rw [if_pos q8]
          · rw [if_neg q8, hg j, if_neg (by omega)]
      rw [eg] at hz
      exact ⟨rfl, hz⟩
    · refine Or.inl ?_
      obtain ⟨s1, f1, h1⟩ := y_sRs hz (p := nI k) (i := k) rfl (by omega) (v := none) (Or.inl rfl)
      rw [if_neg (show ¬ (8 : Int32) ≤ nI k from nI_ge (b := 8) (by omega) (by omega)), ob_of _ (y_rs hz), ob_of _ (y_aRs hz (i := k) rfl (by omega)), ob_of _ (y_rs hz), ob_of _ f1, if_neg (show ¬ k < w by omega), if_neg (show ¬ k < k by omega), hg k]
      by_cases q : k < ns ∧ mk k = false
      · rw [if_pos q]
        obtain ⟨t, t1, t2⟩ := N4 k q.1 q.2
        have tw : t = w := by
          have a1 : ¬ t < w := fun z => by have := (w2 t t1).mp z; omega
          rcases Nat.lt_or_ge w t with z | z
          · have := N3 w t z t1
            have := (w2 w (by omega)).mpr (by omega)
            omega
          · omega
        subst tw
        obtain ⟨s2, f2, h2⟩ := y_sRs h1 (p := nI t) (i := t) rfl (by omega) (v := some (ad (60 + k))) (Or.inr ⟨k, q.1, rfl⟩)
        show ∃ s', (oB (gR s1 (some (ad 0)) 4 1) _) = _ ∧ _
        rw [ob_of _ (y_rs h1), ob_of _ f2]
        refine ⟨_, rfl, by omega, nI_1 _, t + 1, nI_1 _, by omega, fun t' ht' => ?_, ?_⟩
        · rw [show (t' < t + 1) ↔ ¬ t < t' by omega, ← hN.mono t1 ht', t2]
          omega
        · have eg : va_up (va_up (fun j => if j < t then some (ad (60 + e j)) else if j < k then none else g j) k none) t (some (ad (60 + k))) = fun j => if j < t + 1 then some (ad (60 + e j)) else if j < k + 1 then none else g j := by
            funext j
            by_cases j1 : j = t
            · rw [j1, va_up_s, if_pos (by omega), t2]
            · rw [va_up_n _ _ j1]
              by_cases j2 : j = k
              · rw [j2, va_up_s, if_neg (by omega), if_pos (by omega)]
              · rw [va_up_n _ _ j2]
                by_cases j3 : j < t
                · rw [if_pos j3, if_pos (by omega)]
                · rw [if_neg j3, if_neg (show ¬ j < t + 1 by omega)]
                  by_cases j4 : j < k
                  · rw [if_pos j4, if_pos (show j < k + 1 by omega)]
                  · rw [if_neg j4, if_neg (show ¬ j < k + 1 by omega)]
          rw [eg] at h2
          exact h2
      · rw [if_neg q]
        refine ⟨_, rfl, by omega, nI_1 _, w, rfl, w1, fun t' ht' => ?_, ?_⟩
        · rw [w2 t' ht']
          have := N1 t' ht'
          have : e t' ≠ k := fun z => q (by rw [← z]; exact this)
          omega
        · have eg : va_up (fun j => if j < w then some (ad (60 + e j)) else if j < k then none else g j) k none = fun j => if j < w then some (ad (60 + e j)) else if j < k + 1 then none else g j := by
            funext j
            by_cases j2 : j = k
            · rw [j2, va_up_s, if_neg (by omega), if_pos (by omega)]
            · rw [va_up_n _ _ j2]
              by_cases j3 : j < w
              · rw [if_pos j3, if_pos j3]
              · rw [if_neg j3, if_neg j3]
                by_cases j4 : j < k
                · rw [if_pos j4, if_pos (by omega)]
                · rw [if_neg j4, if_neg (by omega)]
          rw [eg] at h1
          exact h1) (st, 0, 0) ⟨rfl, 0, rfl, Nat.zero_le _, fun t ht => by omega, by
          have eg : (fun j => if j < 0 then some (ad (60 + e j)) else if j < 0 then none else g j) = g := by
            funext j
            rw [if_neg (by omega), if_neg (by omega)]
          dsimp only
          rw [eg]; exact h⟩
  obtain ⟨s11, f11, h11⟩ := pV_ex g3 (c := 0) ((va_up_n _ _ (by decide)).trans rfl) rfl 4 (DI (nI m)) (show (4 : Nat) < 11 by decide)
  refine ⟨s11, ?_, ?_⟩
  · unfold fX4_closeGaps
    rw [ob_of _ g1, g2, ob_of _ f11]
  · unfold CT at h11
    rw [reg_u0 (by omega), reg_u0 (by omega)] at h11
    unfold T0 at h11
    rw [R10_u2, R10_u0] at h11
    unfold CT
    rw [T0_new (ad := ad) (fun c hc => rnA_lt (by omega)) (nR_same fun i hi => rnA_lt (by omega)) (show nR (rnA ad e) 60 m = fun j => if j < m then some (ad (60 + e j)) else none by
      funext j
      unfold nR
      by_cases q : j < m
      · rw [if_pos q, if_pos q]
        unfold rnA
        rw [if_pos ⟨by omega, by have := N0; omega⟩, Nat.add_sub_cancel_left]
      · rw [if_neg q, if_neg q]) (nR_same fun i hi => rnA_lt (by omega)), T2_same (ad := ad) (fun i hi => rnA_lt (by omega)), T3_same (ad := ad) (fun i hi => rnA_lt (by omega))]
    refine h11.ren (fun c => if 60 ≤ c ∧ c < 100 then 60 + e (c - 60) else c) (fun c e0 hc => ?_) (fun c d e0 e1 hc hd q => ?_)
    · by_cases q : 60 ≤ c ∧ c < 100
      · obtain ⟨j, rfl⟩ : ∃ j, c = 60 + j := ⟨c - 60, by omega⟩
        rw [reg_6] at hc
        unfold T6 at hc
        by_cases hj : j < m
        · rw [if_pos hj] at hc
          rw [if_pos q, Nat.add_sub_cancel_left, reg_6]
          unfold T6
          rw [if_pos (N1 j hj).1]
          refine ⟨hc, ?_⟩
          unfold rnA
          rw [if_pos q, Nat.add_sub_cancel_left]
        · rw [if_neg hj, if_pos (by omega)] at hc
          cases hc
      · rw [if_neg q]
        refine ⟨?_, rnA_lt (by omega)⟩
        by_cases q2 : c < 60
        · exact (reg_lt q2).trans hc
        · obtain ⟨j, rfl⟩ : ∃ j, c = 60 + j := ⟨c - 60, by omega⟩
          rw [reg_6] at hc ⊢
          unfold T6 at hc ⊢
          rw [if_neg (by omega), if_neg (by omega)] at hc
          rw [if_neg (by omega), if_neg (by omega)]
          exact hc
    · have low : ∀ c e0, reg (R10 (some (O4 ad day nb m nx)) (some (ARO 2 5 (nR ad 20 nb))) (some (ARO 3 8 (fun j => if j < m then some (ad (60 + e j)) else none))) (some (ARO 4 6 (nR ad 50 nx))) (some (OC (ad 6))) (some (OC (ad 7))) (some (ARR 6 f6)) (some (ARR 6 f7)) (some (ARR 6 g8)) (some (.inl (1, (8, .inl g9))))) Q (T2 ad nb gB wB) (T3 ad nb) (T4 nb cB) (T5 nx bX) (T6 m (fun t => sS (e t)) Q) c = some e0 → 60 ≤ c ∧ c < 100 → c - 60 < m := fun c e0 hc hq => by
        obtain ⟨j, rfl⟩ : ∃ j, c = 60 + j := ⟨c - 60, by omega⟩
        rw [reg_6] at hc
        unfold T6 at hc
        by_cases hj : j < m
        · omega
        · rw [if_neg hj, if_pos (by omega)] at hc
          cases hc
      by_cases q1 : 60 ≤ c ∧ c < 100 <;> by_cases q2 : 60 ≤ d ∧ d < 100
      · rw [if_pos q1, if_pos q2] at q
        have := hN.inj (low c e0 hc q1) (low d e1 hd q2) (by omega)
        omega
      · rw [if_pos q1, if_neg q2] at q
        have := (N1 _ (low c e0 hc q1)).1
        omega
      · rw [if_neg q1, if_pos q2] at q
        have := (N1 _ (low d e1 hd q2)).1
        omega
      · rw [if_neg q1, if_neg q2] at q
        exact q
end GAPS

/-! FILL AND ADVISE -/
def blo (a1 : Int32) (sS : Nat → Nat → Int32) (j : Nat) : Int32 := if nI j = a1 then jmax 0 (sS j 3 - 15) else sS j 3
def pF (nx : Nat) (bX sS : Nat → Nat → Int32) (a1 : Int32) (b j : Nat) : Bool := decide (b < nx) && fitB (bX b) (sS j) (blo a1 sS j)
def takX (x s : Nat → Int32) : Nat → Int32 := upd (upd (upd x 2 1) 3 (s 2)) 4 (s 3)
def filX (p : Nat → Option Nat) (bX sS : Nat → Nat → Int32) (b : Nat) : Nat → Nat → Int32 := fun c => if c < b then (match p c with | none => bX c | some j => takX (bX c) (sS j)) else bX c
theorem bI_1 : bI true = 1 := rfl
section CPLAN
variable {st : DSt} {ad : Nat → Nat} {day : Int32} {nb ns nx : Nat} {gB wB : Nat → Int32} {cB sS bX : Nat → Nat → Int32} {f6 f7 g8 g9 : Nat → Int32} {Q : Nat → Option DCel} {i b : Nat} {mk : Nat → Bool}
theorem c_planSlab (h : NH st ad (CT ad day nb ns nx gB wB cB sS bX f6 f7 g8 g9 Q)) (hj : b < nx) (hx : nx ≤ 6) (hs : ns ≤ 8) (hmk : ∀ j, j < 8 → g9 j = bI (mk j)) (a1 : Int32) : ∃ r, fX4_planSlab st (ad 0) (some (ad (50 + b))) a1 = some r ∧ (match firstN (fun j => !(mk j) && suitB (bX b) (sS j) (blo a1 sS j)) ns with
    | none => r = (-1, st)
    | some j => r.1 = nI j ∧ NH r.2 ad (CT ad day nb ns nx gB wB cB sS bX f6 f7 g8 (upd g9 j 1) Q)) := by
  obtain ⟨y, g1, g2⟩ := dlp_run (fX4_planSlab_L2 (ad 0) (some (ad (50 + b))) a1) (fun k z => z = (st, nI k) ∧ ∀ j, j < k → j < ns → (!(mk j) && suitB (bX b) (sS j) (blo a1 sS j)) = false) (fun y => match y with
    | .inl z => z.1 = st ∧ firstN (fun j => !(mk j) && suitB (bX b) (sS j) (blo a1 sS j)) ns = none
    | .inr r => ∃ j, firstN (fun j => !(mk j) && suitB (bX b) (sS j) (blo a1 sS j)) ns = some j ∧ r.1 = nI j ∧ NH r.2 ad (CT ad day nb ns nx gB wB cB sS bX f6 f7 g8 (upd g9 j 1) Q)) 8 (fun k z hk hz => by
    obtain ⟨rfl, hz⟩ := hz
    unfold fX4_planSlab_L2
    dsimp only
    by_cases h8 : k = 8
    · subst h8
      refine Or.inr ⟨_, if_pos (show (8 : Int32) ≤ nI 8 by decide), rfl, firstN_none.mpr fun j hj => hz j (by omega) hj⟩
    · rw [if_neg (show ¬ (8 : Int32) ≤ nI k from nI_ge (b := 8) (by omega) (by omega)), ob_of _ (q_rs h), ob_of _ (q_aRs h rfl (by omega))]
      by_cases hi : k < ns
      · rw [if_pos hi]
        show (∃ s', (oB (gR st (some (ad 0)) 4 10) _) = _ ∧ _) ∨ ∃ y, (oB (gR st (some (ad 0)) 4 10) _) = _ ∧ _
        rw [ob_of _ (q_r9 h), ob_of _ (q_a9 h rfl (by omega)), hmk k (by omega)]
        have step : (!(mk k) && suitB (bX b) (sS k) (blo a1 sS k)) = false → ∀ j, j < k + 1 → j < ns → (!(mk j) && suitB (bX b) (sS j) (blo a1 sS j)) = false := fun q j j1 j2 => by
          by_cases e : j = k
          · rw [e]; exact q
          · exact hz j (by omega) j2
        have found : (!(mk k) && suitB (bX b) (sS k) (blo a1 sS k)) = true → firstN (fun j => !(mk j) && suitB (bX b) (sS j) (blo a1 sS j)) ns = some k := fun q => firstN_is hi q fun j j1 => hz j j1 (by omega)
        have hw : ∃ st', sI st (some (ad 9)) 1 (nI k) (vp_nar .boolean 1) = some st' ∧ NH st' ad (CT ad day nb ns nx gB wB cB sS bX f6 f7 g8 (upd g9 k 1) Q) := w_9 h rfl (by omega) 1
        obtain ⟨s9, e9, h9⟩ := hw
        cases hm : mk k with
        | true =>
          rw [hm] at step
          rw [if_neg (show ¬ bI true = 0 by decide)]
          exact Or.inl ⟨_, rfl, by omega, by rw [nI_1], step rfl⟩
        | false =>
          rw [hm] at step found
          rw [if_pos (show bI false = 0 from rfl)]
          by_cases ha : nI k = a1
          · have eb : blo a1 sS k = jmax 0 (sS k 3 - 15) := if_pos ha
            rw [eb] at step found
            rw [if_pos ha, ob_of _ (q_so h hi), ob_of _ (show fX3_bloomBehindPolish st (ad (60 + k)) = some (jmax 0 (sS k 3 - 15)) by unfold fX3_bloomBehindPolish; rw [ob_of _ (q_s3 h hi)]), ob_of _ (q_xo h hj hx), ob_of _ (c_suits h hi hj hx _)]
            cases hsu : suitB (bX b) (sS k) (jmax 0 (sS k 3 - 15)) with
            | true =>
              rw [hsu] at found
              rw [if_neg (show ¬ bI true = 0 by decide), ob_of _ (q_r9 h), ob_of _ e9]
              exact Or.inr ⟨_, rfl, k, found rfl, rfl, h9⟩
            | false =>
              rw [hsu] at step
              rw [if_pos (show bI false = 0 from rfl)]
              exact Or.inl ⟨_, rfl, by omega, by rw [nI_1], step rfl⟩
          · have eb : blo a1 sS k = sS k 3 := if_neg ha
            rw [eb] at step found
            rw [if_neg ha, ob_of _ (q_s3 h hi), ob_of _ (q_xo h hj hx), ob_of _ (c_suits h hi hj hx _)]
            cases hsu : suitB (bX b) (sS k) (sS k 3) with
            | true =>
              rw [hsu] at found
              rw [if_neg (show ¬ bI true = 0 by decide), ob_of _ (q_r9 h), ob_of _ e9]
              exact Or.inr ⟨_, rfl, k, found rfl, rfl, h9⟩
            | false =>
              rw [hsu] at step
              rw [if_pos (show bI false = 0 from rfl)]
              exact Or.inl ⟨_, rfl, by omega, by rw [nI_1], step rfl⟩
      · rw [if_neg hi]
        exact Or.inl ⟨_, rfl, by omega, by rw [nI_1], fun j j1 j2 => hz j (by omega) j2⟩) (st, 0) ⟨rfl, fun j hj => by omega⟩
  unfold fX4_planSlab
  rw [ob_of _ g1]
  rcases y with y | r
  · obtain ⟨q1, q2⟩ := g2
    refine ⟨_, rfl, ?_⟩
    rw [q2]
    show (-1, y.1) = (-1, st)
    rw [q1]
  · obtain ⟨j, q1, q2, q3⟩ := g2
    refine ⟨_, rfl, ?_⟩
    rw [q1]
    exact ⟨q2, q3⟩
theorem c_planFilling (h : NH st ad (CT ad day nb ns nx gB wB cB sS bX f6 f7 g8 g9 Q)) (hx : nx ≤ 6) (hs : ns ≤ 8) (a1 : Int32) : ∃ st' g8' g9', fX4_planFilling st (ad 0) a1 = some ((PL (pF nx bX sS a1) ns 6).2.2.1, st') ∧ NH st' ad (CT ad day nb ns nx gB wB cB sS bX f6 f7 (g8') (g9') Q) ∧ ∀ b, b < 6 → g8' b = ansN ((PL (pF nx bX sS a1) ns 6).2.1 b) := by
  obtain ⟨b1, g1, ga, h1, g2⟩ := dlp_run (fX4_planFilling_L2 (ad 0)) (fun k z => z.2 = nI k ∧ ∃ g9', NH z.1 ad (CT ad day nb ns nx gB wB cB sS bX f6 f7 g8 (g9') Q) ∧ ∀ j, j < k → g9' j = 0) (fun b => ∃ g9', NH b.1 ad (CT ad day nb ns nx gB wB cB sS bX f6 f7 g8 (g9') Q) ∧ ∀ j, j < 8 → g9' j = 0) 8 (fun k z hk hz => by
    obtain ⟨z1, z2⟩ := z
    obtain ⟨e2, ga, hz, hg⟩ := hz
    dsimp only at e2 hz
    subst e2
    unfold fX4_planFilling_L2
    dsimp only
    by_cases h8 : k = 8
    · subst h8
      exact Or.inr ⟨_, if_pos (show (8 : Int32) ≤ nI 8 by decide), ga, hz, hg⟩
    · have hw : ∃ st', sI z1 (some (ad 9)) 1 (nI k) (vp_nar .boolean 0) = some st' ∧ NH st' ad (CT ad day nb ns nx gB wB cB sS bX f6 f7 g8 (upd ga k 0) Q) := w_9 hz rfl (by omega) 0
      obtain ⟨s9, e9, h9⟩ := hw
      rw [if_neg (show ¬ (8 : Int32) ≤ nI k from nI_ge (b := 8) (by omega) (by omega)), ob_of _ (q_r9 hz), ob_of _ e9]
      refine Or.inl ⟨_, rfl, by omega, nI_1 _, _, h9, fun j hj => ?_⟩
      by_cases e : j = k
      · rw [e, upd_s]
      · rw [upd_n _ _ e]; exact hg j (by omega)) (st, 0) ⟨rfl, g9, h, fun j hj => by omega⟩
  obtain ⟨b5, f1, fc, gb, gc, h5, f2⟩ := dlp_run (fX4_planFilling_L25 (ad 0) a1) (fun b z => z.2.2 = nI b ∧ z.2.1 = (PL (pF nx bX sS a1) ns b).2.2.1 ∧ ∃ g8' g9', NH z.1 ad (CT ad day nb ns nx gB wB cB sS bX f6 f7 (g8') (g9') Q) ∧ (∀ j, j < 8 → g9' j = bI ((PL (pF nx bX sS a1) ns b).1 j)) ∧ ∀ c, c < b → g8' c = ansN ((PL (pF nx bX sS a1) ns b).2.1 c)) (fun y => y.2.1 = (PL (pF nx bX sS a1) ns 6).2.2.1 ∧ ∃ g8' g9', NH y.1 ad (CT ad day nb ns nx gB wB cB sS bX f6 f7 (g8') (g9') Q) ∧ ∀ c, c < 6 → g8' c = ansN ((PL (pF nx bX sS a1) ns 6).2.1 c)) 6 (fun b z hk hz => by
    obtain ⟨z1, z2, z3⟩ := z
    obtain ⟨e3, e2, gb, gc, hz, hm, ha⟩ := hz
    dsimp only at e3 e2 hz
    subst e3
    unfold fX4_planFilling_L25
    dsimp only
    by_cases h6 : b = 6
    · subst h6
      exact Or.inr ⟨_, if_pos (show (6 : Int32) ≤ nI 6 by decide), e2, gb, gc, hz, ha⟩
    rw [if_neg (show ¬ (6 : Int32) ≤ nI b from nI_ge (b := 6) (by omega) (by omega)), ob_of _ (q_rx hz), ob_of _ (q_aRx hz rfl (by omega)), ob_of _ (q_r8 hz)]
    refine Or.inl ?_
    have skip : (∀ j, pF nx bX sS a1 b j = false) → ∀ s8, NH s8 ad (CT ad day nb ns nx gB wB cB sS bX f6 f7 (upd gb b (-1)) gc Q) → (s8, z2, nI b + 1).2.2 = nI (b + 1) ∧ (s8, z2, nI b + 1).2.1 = (PL (pF nx bX sS a1) ns (b + 1)).2.2.1 ∧ ∃ g8' g9', NH (s8, z2, nI b + 1).1 ad (CT ad day nb ns nx gB wB cB sS bX f6 f7 (g8') (g9') Q) ∧ (∀ j, j < 8 → g9' j = bI ((PL (pF nx bX sS a1) ns (b + 1)).1 j)) ∧ ∀ c, c < b + 1 → g8' c = ansN ((PL (pF nx bX sS a1) ns (b + 1)).2.1 c) := fun hp s8 h8 => by
      rw [PL_n (firstN_none.mpr fun j hj => by rw [hp j, Bool.and_false])]
      refine ⟨nI_1 _, e2, _, _, h8, hm, fun c hc => ?_⟩
      by_cases e : c = b
      · rw [e, upd_s, PL_later b b (Nat.le_refl _)]; rfl
      · rw [upd_n _ _ e]; exact ha c (by omega)
    by_cases hb : b < nx
    · rw [if_pos hb]
      show ∃ s', (oB (gI z1 (some (ad (50 + b))) 1 2) _) = _ ∧ _
      rw [ob_of _ (q_x2 hz hb hx)]
      by_cases h0 : bX b 2 = 0
      · rw [if_pos h0, ob_of _ (q_oR hz)]
        have ep : ∀ j, pF nx bX sS a1 b j = suitB (bX b) (sS j) (blo a1 sS j) := fun j => by
          unfold pF fitB
          rw [decide_eq_true hb, decide_eq_true h0, Bool.true_and, Bool.true_and]
        have ef : firstN (fun j => !((PL (pF nx bX sS a1) ns b).1 j) && suitB (bX b) (sS j) (blo a1 sS j)) ns = firstN (fun j => !((PL (pF nx bX sS a1) ns b).1 j) && pF nx bX sS a1 b j) ns := firstN_ext fun j hj => by rw [ep j]
        obtain ⟨r, q1, q2⟩ := c_planSlab hz hb hx hs hm a1
        rw [ef] at q2
        rcases hf : firstN (fun j => !((PL (pF nx bX sS a1) ns b).1 j) && pF nx bX sS a1 b j) ns with _ | j
        · rw [hf] at q2
          have q2 : r = (-1, z1) := q2
          subst q2
          obtain ⟨s8, e8, h8⟩ := w_8 hz (p := nI b) (i := b) rfl (by omega) (-1)
          rw [ob_of _ q1, ob_of _ e8, ob_of _ (q_r8 h8), ob_of _ (q_a8 h8 rfl (by omega)), upd_s, if_pos rfl]
          refine ⟨_, rfl, by omega, ?_⟩
          rw [PL_n hf]
          refine ⟨nI_1 _, e2, _, _, h8, hm, fun c hc => ?_⟩
          by_cases e : c = b
          · rw [e, upd_s, PL_later b b (Nat.le_refl _)]; rfl
          · rw [upd_n _ _ e]; exact ha c (by omega)
        · rw [hf] at q2
          obtain ⟨q2, q3⟩ : r.1 = nI j ∧ NH r.2 ad (CT ad day nb ns nx gB wB cB sS bX f6 f7 gb (upd gc j 1) Q) := q2
          obtain ⟨k1, -, -⟩ := firstN_some hf
          obtain ⟨s8, e8, h8⟩ := w_8 q3 (p := nI b) (i := b) rfl (by omega) r.1
          rw [ob_of _ q1, ob_of _ e8, ob_of _ (q_r8 h8), ob_of _ (q_a8 h8 rfl (by omega)), upd_s, q2, if_neg (show ¬ nI j = -1 from fun z => by rw [i_eq, i_nI (by omega), show (-1 : Int32).toInt = -1 by decide] at z; omega)]
          rw [q2] at h8
          refine ⟨_, rfl, by omega, ?_⟩
          rw [PL_s hf]
          refine ⟨nI_1 _, by show z2 + 1 = _; rw [e2], _, _, h8, fun j' hj' => ?_, fun c hc => ?_⟩
          · show upd gc j 1 j' = bI (va_up (PL (pF nx bX sS a1) ns b).1 j true j')
            by_cases e : j' = j
            · rw [e, upd_s, va_up_s]; rfl
            · rw [upd_n _ _ e, va_up_n _ _ e]; exact hm j' hj'
          · show upd gb b (nI j) c = ansN (va_up (PL (pF nx bX sS a1) ns b).2.1 b (some j) c)
            by_cases e : c = b
            · rw [e, upd_s, va_up_s]; rfl
            · rw [upd_n _ _ e, va_up_n _ _ e]; exact ha c (by omega)
      · obtain ⟨s8, e8, h8⟩ := w_8 hz (p := nI b) (i := b) rfl (by omega) (-1)
        rw [if_neg h0, ob_of _ e8, ob_of _ (q_r8 h8), ob_of _ (q_a8 h8 rfl (by omega)), upd_s, if_pos rfl]
        exact ⟨_, rfl, by omega, skip (fun j => by unfold pF fitB; rw [decide_eq_false h0, Bool.false_and, Bool.and_false]) _ h8⟩
    · obtain ⟨s8, e8, h8⟩ := w_8 hz (p := nI b) (i := b) rfl (by omega) (-1)
      rw [if_neg hb]
      show ∃ s', (oB (sI z1 (some (ad 8)) 0 (nI b) (-1)) _) = _ ∧ _
      rw [ob_of _ e8, ob_of _ (q_r8 h8), ob_of _ (q_a8 h8 rfl (by omega)), upd_s, if_pos rfl]
      exact ⟨_, rfl, by omega, skip (fun j => by unfold pF; rw [decide_eq_false hb, Bool.false_and]) _ h8⟩) (b1.1, 0, 0) ⟨rfl, rfl, g8, ga, h1, fun j hj => g2 j hj, fun c hc => by omega⟩
  refine ⟨b5.1, gb, gc, ?_, h5, f2⟩
  unfold fX4_planFilling
  rw [ob_of _ g1, ob_of _ f1, fc]
end CPLAN

/-! FILL: the class -/
theorem filX_s {A : Nat → Option Nat} {bX sS : Nat → Nat → Int32} {b : Nat} : filX A bX sS (b + 1) = (match A b with | none => filX A bX sS b | some j => va_up (filX A bX sS b) b (takX (bX b) (sS j))) := by
  funext c
  rcases h : A b with _ | j
  · show (if c < b + 1 then _ else _) = (if c < b then _ else _)
    by_cases e : c = b
    · rw [e, if_pos (by omega), if_neg (by omega), h]
    · by_cases q : c < b
      · rw [if_pos q, if_pos (by omega)]
      · rw [if_neg q, if_neg (by omega)]
  · show _ = va_up (filX A bX sS b) b (takX (bX b) (sS j)) c
    by_cases e : c = b
    · rw [e, va_up_s]
      refine (if_pos (by omega)).trans ?_
      rw [h]
    · rw [va_up_n _ _ e]
      by_cases q : c < b
      · exact (if_pos (by omega)).trans (if_pos q).symm
      · exact (if_neg (by omega)).trans (if_neg q).symm
theorem filX_b {A : Nat → Option Nat} {bX sS : Nat → Nat → Int32} {b : Nat} : filX A bX sS b b = bX b := if_neg (by omega)
theorem filX_0 {A : Nat → Option Nat} {bX sS : Nat → Nat → Int32} : filX A bX sS 0 = bX := by
  funext c
  exact if_neg (by omega)
section CFILL
variable {st : DSt} {ad : Nat → Nat} {day : Int32} {nb ns nx : Nat} {gB wB : Nat → Int32} {cB sS bX : Nat → Nat → Int32} {f6 f7 g8 g9 : Nat → Int32} {Q : Nat → Option DCel} {g : Nat → Option Nat} {i b : Nat}
theorem cX_up (hi : i < nx) (hx : nx ≤ 6) (x : Nat → Int32) : va_up (CT ad day nb ns nx gB wB cB sS bX f6 f7 g8 g9 Q) (50 + i) (some (OX x)) = (CT ad day nb ns nx gB wB cB sS (va_up bX i x) f6 f7 g8 g9 Q) := by
  unfold CT
  rw [reg_u5 (by omega), up2_eq _ (T5 nx (va_up bX i x)) i _ (by unfold T5; rw [if_pos hi, va_up_s]) (fun j hj => by unfold T5; rw [va_up_n _ _ hj])]
theorem y_r8 (h : NH st ad (va_up (CT ad day nb ns nx gB wB cB sS bX f6 f7 g8 g9 Q) 2 (some (ARO 3 8 g)))) : gR st (some (ad 0)) 4 9 = some (some (ad 8)) := l_gR (c := 0) h ((va_up_n _ _ (by decide)).trans rfl) 9 rfl
theorem y_rx (h : NH st ad (va_up (CT ad day nb ns nx gB wB cB sS bX f6 f7 g8 g9 Q) 2 (some (ARO 3 8 g)))) : gR st (some (ad 0)) 4 2 = some (some (ad 3)) := l_gR (c := 0) h ((va_up_n _ _ (by decide)).trans rfl) 2 rfl
theorem y_a8 (h : NH st ad (va_up (CT ad day nb ns nx gB wB cB sS bX f6 f7 g8 g9 Q) 2 (some (ARO 3 8 g)))) {p : Int32} (hp : p = nI i) (hi : i < 6) : aI st (some (ad 8)) 0 p = some (g8 i) := l_aI (c := 8) (n := 6) (f := g8) h ((va_up_n _ _ (by decide)).trans rfl) i hp hi (by omega)
theorem y_aRx (h : NH st ad (va_up (CT ad day nb ns nx gB wB cB sS bX f6 f7 g8 g9 Q) 2 (some (ARO 3 8 g)))) {p : Int32} (hp : p = nI i) (hi : i < 6) : aR st (some (ad 3)) 4 p = some (if i < nx then some (ad (50 + i)) else none) := l_aR (c := 3) (n := 6) (g := nR ad 50 nx) h ((va_up_n _ _ (by decide)).trans rfl) i hp hi (by omega)
/-- one slab moved into its box -/
theorem y_move (h : NH st ad (va_up (CT ad day nb ns nx gB wB cB sS bX f6 f7 g8 g9 Q) 2 (some (ARO 3 8 g)))) {j : Nat} (hj : j < ns) (hs : ns ≤ 8) (hb : b < nx) (hx : nx ≤ 6) (hg : g j = some (ad (60 + j))) : ∃ st', fX4_moveIntoBox st (ad 0) (nI j) (some (ad (50 + b))) = some st' ∧ NH st' ad (va_up (CT ad day nb ns nx gB wB cB sS (va_up bX b (takX (bX b) (sS j))) f6 f7 g8 g9 Q) 2 (some (ARO 3 8 (va_up g j none)))) := by
  have f2 : fX4_findSlab st (ad 0) (nI j) = some (some (ad (60 + j))) := by
    unfold fX4_findSlab
    rw [if_neg (nI_pos (by omega)), if_pos (show nI j < 8 from nI_lt (b := 8) (by omega) (by omega)), ob_of _ (y_rs h), ob_of _ (y_aRs h rfl (by omega)), hg]
  have lb : va_up (CT ad day nb ns nx gB wB cB sS bX f6 f7 g8 g9 Q) 2 (some (ARO 3 8 g)) (50 + b) = some (OX (bX b)) := (va_up_n _ _ (by omega)).trans (c_x hb hx)
  have ls : ∀ X, va_up (va_up (CT ad day nb ns nx gB wB cB sS bX f6 f7 g8 g9 Q) 2 (some (ARO 3 8 g))) (50 + b) X (60 + j) = some (OS (sS j)) := fun X => (va_up_n _ _ (by omega)).trans ((va_up_n _ _ (by omega)).trans (c_s hj))
  have ff7 := l_oR h lb
  obtain ⟨s1, e1, h1⟩ := pV_ex h lb rfl 2 (DI 1) (by show 2 < 5; decide)
  have f3 := l_gI (k := 0) h1 (ls _) rfl
  obtain ⟨s2, e2, h2⟩ := pV_ex h1 (va_up_s _ _ _) rfl 3 (DI (sS j 2)) (by show 3 < 5; decide)
  rw [bx_uu] at h2
  have f4 := l_gI (k := 3) h2 (ls _) rfl
  obtain ⟨s3, e3, h3⟩ := pV_ex h2 (va_up_s _ _ _) rfl 4 (DI (sS j 3)) (by show 4 < 5; decide)
  rw [bx_uu] at h3
  have h3 : NH s3 ad (va_up (va_up (CT ad day nb ns nx gB wB cB sS bX f6 f7 g8 g9 Q) 2 (some (ARO 3 8 g))) (50 + b) (some (OX (takX (bX b) (sS j))))) := h3
  have et : fX1_take st (ad (50 + b)) (some (ad (60 + j))) = some s3 := by
    unfold fX1_take
    rw [ob_of _ e1, ob_of _ f3, ob_of _ e2, ob_of _ f4, ob_of _ e3]
  have h4 : NH s3 ad (va_up (CT ad day nb ns nx gB wB cB sS (va_up bX b (takX (bX b) (sS j))) f6 f7 g8 g9 Q) 2 (some (ARO 3 8 g))) := h3.cong fun d => by
    rw [← cX_up hb hx]
    by_cases d1 : d = 2
    · rw [d1, va_up_s, va_up_n _ _ (by omega), va_up_s]
    · rw [va_up_n _ _ d1]
      by_cases d2 : d = 50 + b
      · rw [d2, va_up_s, va_up_s]
      · rw [va_up_n _ _ d2, va_up_n _ _ d2, va_up_n _ _ d1]
  obtain ⟨s5, e5, h5⟩ := y_sRs h4 (p := nI j) (i := j) rfl (by omega) (v := none) (Or.inl rfl)
  refine ⟨s5, ?_, h5⟩
  unfold fX4_moveIntoBox
  rw [ob_of _ (y_oR h), ob_of _ f2]
  show (oB (oR st (some (ad (50 + b))) 1) _) = _
  rw [ob_of _ ff7, ob_of _ et, ob_of _ (y_rs h4), ob_of _ e5]
theorem y_stay (h : NH st ad (va_up (CT ad day nb ns nx gB wB cB sS bX f6 f7 g8 g9 Q) 2 (some (ARO 3 8 g)))) (o : Option Nat) : fX4_moveIntoBox st (ad 0) (-1) o = some st := by
  unfold fX4_moveIntoBox
  rw [ob_of _ (y_oR h), ob_of _ (show fX4_findSlab st (ad 0) (-1) = some none from if_pos (by decide))]
  rfl
theorem c_fill (h : NH st ad (CT ad day nb ns nx gB wB cB sS bX f6 f7 g8 g9 Q)) (hb : nb ≤ 5) (hx : nx ≤ 6) (hs : ns ≤ 8) : ∃ st' g8' g9', fX4_fill st (ad 0) = some ((PL (pF nx bX sS (-1)) ns 6).2.2.1, st') ∧ NH st' (rnA ad (PL (pF nx bX sS (-1)) ns 6).2.2.2.2) (CT (rnA ad (PL (pF nx bX sS (-1)) ns 6).2.2.2.2) day nb ((PL (pF nx bX sS (-1)) ns 6).2.2.2.1) nx gB wB cB (fun t => sS ((PL (pF nx bX sS (-1)) ns 6).2.2.2.2 t)) (filX (PL (pF nx bX sS (-1)) ns 6).2.1 bX sS 6) f6 f7 (g8') (g9') Q) := by
  obtain ⟨s2, g8', g9', e2, h2, ha⟩ := c_planFilling h hx hs (-1)
  have hF := PL_fit (p := pF nx bX sS (-1)) (ns := ns) 6
  have hM := PL_mark (p := pF nx bX sS (-1)) (ns := ns) 6
  have hE := PL_EN (pF nx bX sS (-1)) ns 6
  have hL := PL_later (p := pF nx bX sS (-1)) (ns := ns) 6
  have hP : ∀ b j, (PL (pF nx bX sS (-1)) ns 6).2.1 b = some j → b < nx := fun b j q => by
    have := (hF b j q).2.1
    unfold pF at this
    rw [Bool.and_eq_true] at this
    exact of_decide_eq_true this.1
  obtain ⟨A, hA⟩ : ∃ A, A = (PL (pF nx bX sS (-1)) ns 6).2.1 := ⟨_, rfl⟩
  rw [← hA] at ha hF hM hL hP ⊢
  have h2' : NH s2 ad (va_up (CT ad day nb ns nx gB wB cB sS bX f6 f7 (g8') (g9') Q) 2 (some (ARO 3 8 (nR ad 60 ns)))) := h2.start (a := 2) rfl
  obtain ⟨b3, f3, G, h3, q1, q2⟩ := dlp_run (fX4_fill_L8 (ad 0)) (fun b z => z.2 = nI b ∧ ∃ G, NH z.1 ad (va_up (CT ad day nb ns nx gB wB cB sS (filX A bX sS b) f6 f7 (g8') (g9') Q) 2 (some (ARO 3 8 G))) ∧ (∀ j c, c < b → A c = some j → G j = none) ∧ ∀ j, (∀ c, c < b → A c ≠ some j) → G j = nR ad 60 ns j) (fun y => ∃ G, NH y.1 ad (va_up (CT ad day nb ns nx gB wB cB sS (filX A bX sS 6) f6 f7 (g8') (g9') Q) 2 (some (ARO 3 8 G))) ∧ (∀ j c, c < 6 → A c = some j → G j = none) ∧ ∀ j, (∀ c, c < 6 → A c ≠ some j) → G j = nR ad 60 ns j) 6 (fun b z hk hz => by
    obtain ⟨z1, z2⟩ := z
    obtain ⟨e2, G, hz, q1, q2⟩ := hz
    dsimp only at e2 hz
    subst e2
    unfold fX4_fill_L8
    dsimp only
    by_cases h6 : b = 6
    · subst h6
      exact Or.inr ⟨_, if_pos (show (6 : Int32) ≤ nI 6 by decide), G, hz, q1, q2⟩
    rw [if_neg (show ¬ (6 : Int32) ≤ nI b from nI_ge (b := 6) (by omega) (by omega)), ob_of _ (y_r8 hz), ob_of _ (y_a8 hz rfl (by omega)), ob_of _ (y_rx hz), ob_of _ (y_aRx hz rfl (by omega)), ob_of _ (y_oR hz), ha b (by omega)]
    refine Or.inl ?_
    rcases hb : A b with _ | j
    · rw [show ansN none = -1 from rfl, ob_of _ (y_stay hz _)]
      refine ⟨_, rfl, by omega, nI_1 _, G, ?_, fun j c hc hcj => ?_, fun j hj => q2 j fun c hc => hj c (by omega)⟩
      · rw [filX_s, hb]
        exact hz
      · by_cases e : c = b
        · rw [e, hb] at hcj
          cases hcj
        · exact q1 j c (by omega) hcj
    · have hj := (hF b j hb).1
      have hbx := hP b j hb
      have hGj : G j = some (ad (60 + j)) := by
        rw [q2 j fun c hc q => by have := (hF b j hb).2.2 c q; omega]
        exact if_pos hj
      obtain ⟨s9, e9, h9⟩ := y_move hz hj hs hbx hx hGj
      rw [filX_b] at h9
      rw [if_pos hbx, show ansN (some j) = nI j from rfl, ob_of _ e9]
      refine ⟨_, rfl, by omega, nI_1 _, va_up G j none, ?_, fun j' c hc hcj => ?_, fun j' hj' => ?_⟩
      · rw [filX_s, hb]
        exact h9
      · by_cases e : j' = j
        · rw [e, va_up_s]
        · rw [va_up_n _ _ e]
          refine q1 j' c ?_ hcj
          by_cases e2 : c = b
          · rw [e2, hb] at hcj
            exact absurd (Option.some.inj hcj).symm e
          · omega
      · have e : j' ≠ j := fun q => hj' b (by omega) (by rw [q]; exact hb)
        rw [va_up_n _ _ e]
        exact q2 j' fun c hc => hj' c (by omega)) (s2, 0) ⟨rfl, _, by rw [filX_0]; exact h2', fun j c hc => by omega, fun j _ => rfl⟩
  obtain ⟨s12, e12, h12⟩ := c_close h3 hb hs hx hE (fun j => by
    cases hm : (PL (pF nx bX sS (-1)) ns 6).1 j with
    | true =>
      obtain ⟨c, c1, c2⟩ := (hM j).mp hm
      rw [q1 j c c1 c2, if_neg (fun q => by cases q.2)]
    | false =>
      rw [q2 j fun c hc q => by
        have := (hM j).mpr ⟨c, hc, q⟩
        rw [hm] at this
        cases this]
      unfold nR
      by_cases q : j < ns
      · rw [if_pos q, if_pos ⟨q, rfl⟩]
      · rw [if_neg q, if_neg (fun z => q z.1)])
  refine ⟨s12, g8', g9', ?_, h12⟩
  unfold fX4_fill
  rw [ob_of _ (q_oR h), ob_of _ e2, ob_of _ f3, ob_of _ (y_oR h3), ob_of _ e12]
end CFILL
