/-! WHAT GOES INTO WHICH BOX: pure -/
def PL (p : Nat → Nat → Bool) (ns : Nat) : Nat → (Nat → Bool) × (Nat → Option Nat) × Int32 × Nat × (Nat → Nat)
  | 0 => (fun _ => false, fun _ => none, 0, ns, fun t => t)
  | b + 1 => match firstN (fun j => !((PL p ns b).1 j) && p b j) ns with
    | none => PL p ns b
    | some j => (va_up (PL p ns b).1 j true, va_up (PL p ns b).2.1 b (some j), (PL p ns b).2.2.1 + 1, (PL p ns b).2.2.2.1 - 1, fun t => if (PL p ns b).2.2.2.2 t < j then (PL p ns b).2.2.2.2 t else (PL p ns b).2.2.2.2 (t + 1))
theorem PL_n {p : Nat → Nat → Bool} {ns b : Nat} (h : firstN (fun j => !((PL p ns b).1 j) && p b j) ns = none) : PL p ns (b + 1) = PL p ns b := by
  show (match firstN (fun j => !((PL p ns b).1 j) && p b j) ns with
    | none => PL p ns b
    | some j => (va_up (PL p ns b).1 j true, va_up (PL p ns b).2.1 b (some j), (PL p ns b).2.2.1 + 1, (PL p ns b).2.2.2.1 - 1, fun t => if (PL p ns b).2.2.2.2 t < j then (PL p ns b).2.2.2.2 t else (PL p ns b).2.2.2.2 (t + 1))) = _
  rw [h]
theorem PL_s {p : Nat → Nat → Bool} {ns b j : Nat} (h : firstN (fun j => !((PL p ns b).1 j) && p b j) ns = some j) : PL p ns (b + 1) = (va_up (PL p ns b).1 j true, va_up (PL p ns b).2.1 b (some j), (PL p ns b).2.2.1 + 1, (PL p ns b).2.2.2.1 - 1, fun t => if (PL p ns b).2.2.2.2 t < j then (PL p ns b).2.2.2.2 t else (PL p ns b).2.2.2.2 (t + 1)) := by
  show (match firstN (fun j => !((PL p ns b).1 j) && p b j) ns with
    | none => PL p ns b
    | some j => (va_up (PL p ns b).1 j true, va_up (PL p ns b).2.1 b (some j), (PL p ns b).2.2.1 + 1, (PL p ns b).2.2.2.1 - 1, fun t => if (PL p ns b).2.2.2.2 t < j then (PL p ns b).2.2.2.2 t else (PL p ns b).2.2.2.2 (t + 1))) = _
  rw [h]
/-- e counts up, in their order, the numbers below n without a mark -/
def EN (mk : Nat → Bool) (n m : Nat) (e : Nat → Nat) : Prop := m ≤ n ∧ (∀ t, t < m → e t < n ∧ mk (e t) = false) ∧ (∀ t t', t < t' → t' < m → e t < e t') ∧ ∀ j, j < n → mk j = false → ∃ t, t < m ∧ e t = j
theorem EN.inj {mk : Nat → Bool} {n m : Nat} {e : Nat → Nat} (h : EN mk n m e) {t t' : Nat} (h1 : t < m) (h2 : t' < m) (q : e t = e t') : t = t' := by
  obtain ⟨-, -, h3, -⟩ := h
  rcases Nat.lt_trichotomy t t' with g | g | g
  · have := h3 t t' g h2; omega
  · exact g
  · have := h3 t' t g h1; omega
theorem EN.mono {mk : Nat → Bool} {n m : Nat} {e : Nat → Nat} (h : EN mk n m e) {t t' : Nat} (h1 : t < m) (h2 : t' < m) : e t < e t' ↔ t < t' := by
  obtain ⟨-, -, h3, -⟩ := h
  refine ⟨fun q => ?_, fun q => h3 t t' q h2⟩
  rcases Nat.lt_trichotomy t t' with g | g | g
  · exact g
  · rw [g] at q; omega
  · have := h3 t' t g h1; omega
theorem EN.ge {mk : Nat → Bool} {n m : Nat} {e : Nat → Nat} (h : EN mk n m e) : ∀ t, t < m → t ≤ e t
  | 0, _ => Nat.zero_le _
  | t + 1, ht => by
    have h1 := h.ge t (by omega)
    have h2 := h.2.2.1 t (t + 1) (by omega) ht
    omega
theorem EN.drop {mk : Nat → Bool} {n m : Nat} {e : Nat → Nat} (h : EN mk n m e) {i : Nat} (hi : i < m) : EN (va_up mk (e i) true) n (m - 1) (fun t => if e t < e i then e t else e (t + 1)) ∧ ∀ t, t < m - 1 → (if e t < e i then e t else e (t + 1)) = e (if t < i then t else t + 1) := by
  have key : ∀ t, t < m - 1 → (if e t < e i then e t else e (t + 1)) = e (if t < i then t else t + 1) := fun t ht => by
    by_cases q : t < i
    · rw [if_pos ((h.mono (by omega) hi).mpr q), if_pos q]
    · rw [if_neg (fun z => q ((h.mono (by omega) hi).mp z)), if_neg q]
  refine ⟨?_, key⟩
  obtain ⟨h0, h1, h3, h4⟩ := id h
  refine ⟨by omega, fun t ht => ?_, fun t t' ht ht' => ?_, fun j hj hm => ?_⟩
  · dsimp only
    rw [key t ht]
    have q : (if t < i then t else t + 1) < m ∧ (if t < i then t else t + 1) ≠ i := by split <;> omega
    obtain ⟨g1, g2⟩ := h1 _ q.1
    refine ⟨g1, ?_⟩
    rw [va_up_n _ _ (fun z => q.2 (h.inj q.1 hi z))]
    exact g2
  · dsimp only
    rw [key t (by omega), key t' ht']
    exact h3 _ _ (by split <;> split <;> omega) (by split <;> omega)
  · by_cases e0 : j = e i
    · rw [e0, va_up_s] at hm
      cases hm
    · rw [va_up_n _ _ e0] at hm
      obtain ⟨t, t1, t2⟩ := h4 j hj hm
      have tne : t ≠ i := fun z => e0 (by rw [← t2, z])
      by_cases q : t < i
      · refine ⟨t, by omega, ?_⟩
        dsimp only
        rw [key t (by omega), if_pos q, t2]
      · refine ⟨t - 1, by omega, ?_⟩
        dsimp only
        rw [key (t - 1) (by omega), if_neg (by omega), show t - 1 + 1 = t by omega, t2]
theorem EN.find {mk : Nat → Bool} {n m : Nat} {e : Nat → Nat} (h : EN mk n m e) {P : Nat → Bool} : (firstN (fun i => P (e i)) m = none → firstN (fun j => !(mk j) && P j) n = none) ∧ ∀ i, firstN (fun i => P (e i)) m = some i → firstN (fun j => !(mk j) && P j) n = some (e i) := by
  obtain ⟨h0, h1, h3, h4⟩ := id h
  refine ⟨fun q => firstN_none.mpr fun j hj => ?_, fun i q => ?_⟩
  · cases hm : mk j with
    | true => rfl
    | false =>
      obtain ⟨t, t1, t2⟩ := h4 j hj hm
      have := firstN_none.mp q t t1
      rw [t2] at this
      rw [this]
      rfl
  · obtain ⟨q1, q2, q3⟩ := firstN_some q
    refine firstN_is (h1 i q1).1 (by rw [(h1 i q1).2, q2]; rfl) fun j hj => ?_
    cases hm : mk j with
    | true => rfl
    | false =>
      obtain ⟨t, t1, t2⟩ := h4 j (Nat.lt_trans hj (h1 i q1).1) hm
      have := q3 t ((h.mono t1 q1).mp (by rw [t2]; exact hj))
      rw [t2] at this
      rw [this]
      rfl
theorem PL_EN (p : Nat → Nat → Bool) (ns : Nat) : ∀ b, EN (PL p ns b).1 ns (PL p ns b).2.2.2.1 (PL p ns b).2.2.2.2
  | 0 => ⟨Nat.le_refl _, fun t ht => ⟨ht, rfl⟩, fun t t' h _ => h, fun j hj _ => ⟨j, hj, rfl⟩⟩
  | b + 1 => by
    have ih := PL_EN p ns b
    rcases h : firstN (fun j => !((PL p ns b).1 j) && p b j) ns with _ | j
    · rw [PL_n h]; exact ih
    · rw [PL_s h]
      obtain ⟨h1, h2, -⟩ := firstN_some h
      rw [Bool.and_eq_true, Bool.not_eq_true'] at h2
      obtain ⟨t, t1, t2⟩ := ih.2.2.2 j h1 h2.1
      have := (ih.drop t1).1
      rw [t2] at this
      exact this
theorem PL_later {p : Nat → Nat → Bool} {ns : Nat} : ∀ b b', b ≤ b' → (PL p ns b).2.1 b' = none
  | 0, _, _ => rfl
  | b + 1, b', hb => by
    have ih := PL_later (p := p) (ns := ns) b b' (by omega)
    rcases h : firstN (fun j => !((PL p ns b).1 j) && p b j) ns with _ | j
    · rw [PL_n h]; exact ih
    · rw [PL_s h]
      exact (va_up_n _ _ (by omega)).trans ih
theorem PL_keep {p : Nat → Nat → Bool} {ns b b' : Nat} (h : b' < b) : ∀ c, b ≤ c → (PL p ns c).2.1 b' = (PL p ns b).2.1 b'
  | 0, hc => by omega
  | c + 1, hc => by
    by_cases e : b = c + 1
    · rw [e]
    · have ih := PL_keep (p := p) (ns := ns) h c (by omega)
      rcases hf : firstN (fun j => !((PL p ns c).1 j) && p c j) ns with _ | j
      · rw [PL_n hf]; exact ih
      · rw [PL_s hf]
        exact (va_up_n _ _ (by omega)).trans ih
/-- a mark stands where, and only where, a box has been given that slab; and it has been found fit -/
theorem PL_mark {p : Nat → Nat → Bool} {ns : Nat} : ∀ b j, (PL p ns b).1 j = true ↔ ∃ b', b' < b ∧ (PL p ns b).2.1 b' = some j
  | 0, j => ⟨fun q => (by cases q), fun ⟨b', h, _⟩ => (by omega)⟩
  | b + 1, j => by
    have ih := PL_mark (p := p) (ns := ns) b j
    rcases h : firstN (fun j => !((PL p ns b).1 j) && p b j) ns with _ | i
    · rw [PL_n h, ih]
      refine ⟨fun ⟨b', h1, h2⟩ => ⟨b', by omega, h2⟩, fun ⟨b', h1, h2⟩ => ⟨b', ?_, h2⟩⟩
      by_cases e : b' = b
      · rw [e, PL_later b b (Nat.le_refl _)] at h2
        cases h2
      · omega
    · rw [PL_s h]
      show va_up (PL p ns b).1 i true j = true ↔ ∃ b', b' < b + 1 ∧ va_up (PL p ns b).2.1 b (some i) b' = some j
      by_cases e : j = i
      · rw [e, va_up_s]
        exact ⟨fun _ => ⟨b, by omega, va_up_s _ _ _⟩, fun _ => rfl⟩
      · rw [va_up_n _ _ e, ih]
        refine ⟨fun ⟨b', h1, h2⟩ => ⟨b', by omega, by rw [va_up_n _ _ (by omega)]; exact h2⟩, fun ⟨b', h1, h2⟩ => ?_⟩
        by_cases e2 : b' = b
        · rw [e2, va_up_s] at h2
          cases h2
          exact absurd rfl e
        · rw [va_up_n _ _ e2] at h2
          exact ⟨b', by omega, h2⟩
theorem PL_fit {p : Nat → Nat → Bool} {ns : Nat} : ∀ b b' j, (PL p ns b).2.1 b' = some j → j < ns ∧ p b' j = true ∧ ∀ b'', (PL p ns b).2.1 b'' = some j → b'' = b'
  | 0, _, _, h => by cases h
  | b + 1, b', j, h => by
    rcases hf : firstN (fun j => !((PL p ns b).1 j) && p b j) ns with _ | i
    · rw [PL_n hf] at h ⊢
      exact PL_fit b b' j h
    · rw [PL_s hf] at h ⊢
      obtain ⟨f1, f2, -⟩ := firstN_some hf
      rw [Bool.and_eq_true, Bool.not_eq_true'] at f2
      have nomark : ∀ b'', (PL p ns b).2.1 b'' ≠ some i := fun b'' q => by
        have hb : b'' < b := by
          by_cases hb : b'' < b
          · exact hb
          · rw [PL_later b b'' (by omega)] at q
            cases q
        have := (PL_mark b i).mpr ⟨b'', hb, q⟩
        rw [f2.1] at this
        cases this
      have h' : va_up (PL p ns b).2.1 b (some i) b' = some j := h
      clear h
      by_cases e : b' = b
      · rw [e, va_up_s] at h'
        have hij : i = j := Option.some.inj h'
        rw [← hij]
        refine ⟨f1, by rw [e]; exact f2.2, fun b'' q => ?_⟩
        have q : va_up (PL p ns b).2.1 b (some i) b'' = some i := q
        by_cases e2 : b'' = b
        · rw [e, e2]
        · rw [va_up_n _ _ e2] at q
          exact absurd q (nomark b'')
      · rw [va_up_n _ _ e] at h'
        obtain ⟨g1, g2, g3⟩ := PL_fit b b' j h'
        refine ⟨g1, g2, fun b'' q => ?_⟩
        have q : va_up (PL p ns b).2.1 b (some i) b'' = some j := q
        by_cases e2 : b'' = b
        · rw [e2, va_up_s] at q
          have hij : i = j := Option.some.inj q
          rw [← hij] at h'
          exact absurd h' (nomark b')
        · rw [va_up_n _ _ e2] at q
          exact g3 b'' q
theorem PL_ext {p p' : Nat → Nat → Bool} {ns : Nat} (h : ∀ b j, j < ns → p b j = p' b j) : ∀ b, PL p ns b = PL p' ns b
  | 0 => rfl
  | b + 1 => by
    have ih := PL_ext h b
    have e : firstN (fun j => !((PL p ns b).1 j) && p b j) ns = firstN (fun j => !((PL p' ns b).1 j) && p' b j) ns := firstN_ext fun j hj => by rw [ih, h b j hj]
    rcases hf : firstN (fun j => !((PL p' ns b).1 j) && p' b j) ns with _ | j
    · rw [PL_n (e.trans hf), PL_n hf, ih]
    · rw [PL_s (e.trans hf), PL_s hf, ih]
