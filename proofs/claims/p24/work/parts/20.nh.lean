/-! A HEAP WITH NAMES: codes, their addresses, their contents -/
def NH (st : DSt) (ad : Nat → Nat) (ct : Nat → Option DCel) : Prop :=
  (∀ c d e e', ct c = some e → ct d = some e' → ad c = ad d → c = d) ∧ (∀ c e, ct c = some e → st.2 (ad c) = some e) ∧ ∀ q e, st.2 q = some e → q < st.1
def setN (st : DSt) (a : Nat) (e : DCel) : DSt := (st.1, va_up st.2 a (some e))
theorem va_up_s {α : Type} (f : Nat → α) (k : Nat) (v : α) : va_up f k v k = v := by simp [va_up]
theorem va_up_n {α : Type} (f : Nat → α) {k j : Nat} (v : α) (h : j ≠ k) : va_up f k v j = f j := by simp [va_up, h]
theorem upd_s (f : Nat → Int32) (k : Nat) (v : Int32) : upd f k v k = v := by simp [upd]
theorem upd_n (f : Nat → Int32) {k j : Nat} (v : Int32) (h : j ≠ k) : upd f k v j = f j := by simp [upd, h]
section NAMED
variable {st : DSt} {ad : Nat → Nat} {ct ct' : Nat → Option DCel} {c : Nat}
theorem NH.at (h : NH st ad ct) {e : DCel} (hc : ct c = some e) : st.2 (ad c) = some e := h.2.1 c e hc
theorem NH.set (h : NH st ad ct) {e0 : DCel} (hc : ct c = some e0) (e : DCel) : NH (setN st (ad c) e) ad (va_up ct c (some e)) := by
  have live : ∀ d e', va_up ct c (some e) d = some e' → ∃ e'', ct d = some e'' := fun d e' hd => by
    by_cases h1 : d = c
    · exact ⟨e0, by rw [h1]; exact hc⟩
    · rw [va_up_n _ _ h1] at hd
      exact ⟨e', hd⟩
  refine ⟨fun a b ea eb ha hb hab => ?_, fun d e' hd => ?_, fun q e' hq => ?_⟩
  · obtain ⟨_, ha'⟩ := live a ea ha
    obtain ⟨_, hb'⟩ := live b eb hb
    exact h.1 a b _ _ ha' hb' hab
  · show va_up st.2 (ad c) (some e) (ad d) = some e'
    by_cases h1 : d = c
    · subst h1
      rw [va_up_s] at hd ⊢
      exact hd
    · rw [va_up_n _ _ h1] at hd
      rw [va_up_n _ _ (fun q => h1 (h.1 d c _ _ hd hc q))]
      exact h.2.1 d e' hd
  · show q < st.1
    have hq : va_up st.2 (ad c) (some e) q = some e' := hq
    by_cases h1 : q = ad c
    · rw [h1]
      exact h.2.2 _ _ (h.2.1 c e0 hc)
    · rw [va_up_n _ _ h1] at hq
      exact h.2.2 _ _ hq
theorem NH.new (h : NH st ad ct) (hc : ct c = none) (e : DCel) : NH (nC st e) (va_up ad c st.1) (va_up ct c (some e)) := by
  have lt : ∀ d e', ct d = some e' → ad d < st.1 := fun d e' hd => h.2.2 _ _ (h.2.1 d e' hd)
  refine ⟨fun a b ea eb ha hb hab => ?_, fun d e' hd => ?_, fun q e' hq => ?_⟩
  · by_cases h1 : a = c <;> by_cases h2 : b = c
    · rw [h1, h2]
    · rw [h1, va_up_s, va_up_n _ _ h2] at hab
      rw [va_up_n _ _ h2] at hb
      have := lt b eb hb
      omega
    · rw [h2, va_up_s, va_up_n _ _ h1] at hab
      rw [va_up_n _ _ h1] at ha
      have := lt a ea ha
      omega
    · rw [va_up_n _ _ h1, va_up_n _ _ h2] at hab
      rw [va_up_n _ _ h1] at ha
      rw [va_up_n _ _ h2] at hb
      exact h.1 a b _ _ ha hb hab
  · show va_up st.2 st.1 (some e) (va_up ad c st.1 d) = some e'
    by_cases h1 : d = c
    · subst h1
      rw [va_up_s] at hd ⊢
      rw [va_up_s]
      exact hd
    · rw [va_up_n _ _ h1] at hd ⊢
      have := lt d e' hd
      rw [va_up_n _ _ (by omega)]
      exact h.2.1 d e' hd
  · show q < st.1 + 1
    have hq : va_up st.2 st.1 (some e) q = some e' := hq
    by_cases h1 : q = st.1
    · omega
    · rw [va_up_n _ _ h1] at hq
      have := h.2.2 _ _ hq
      omega
theorem NH.garb (h : NH st ad ct) (e : DCel) : NH (nC st e) ad ct := by
  have lt : ∀ d e', ct d = some e' → ad d < st.1 := fun d e' hd => h.2.2 _ _ (h.2.1 d e' hd)
  refine ⟨h.1, fun d e' hd => ?_, fun q e' hq => ?_⟩
  · show va_up st.2 st.1 (some e) (ad d) = some e'
    have := lt d e' hd
    rw [va_up_n _ _ (by omega)]
    exact h.2.1 d e' hd
  · show q < st.1 + 1
    have hq : va_up st.2 st.1 (some e) q = some e' := hq
    by_cases h1 : q = st.1
    · omega
    · rw [va_up_n _ _ h1] at hq
      have := h.2.2 _ _ hq
      omega
theorem NH.drop (h : NH st ad ct) (hs : ∀ d e, ct' d = some e → ct d = some e) : NH st ad ct' := ⟨fun a b ea eb ha hb hab => h.1 a b ea eb (hs _ _ ha) (hs _ _ hb) hab, fun d e hd => h.2.1 d e (hs _ _ hd), h.2.2⟩
theorem NH.heq (h : NH st ad ct) {u : DSt} (hu : u.2 = st.2) (hd : ∀ q e, u.2 q = some e → q < u.1) : NH u ad ct := ⟨h.1, fun c e hc => by rw [hu]; exact h.2.1 c e hc, hd⟩
theorem NH.cong (h : NH st ad ct) (he : ∀ d, ct' d = ct d) : NH st ad ct' := h.drop fun d e hd => by rw [← he d]; exact hd
/-- the same names, and other addresses where nothing lies -/
theorem NH.adr (h : NH st ad ct) {ad' : Nat → Nat} (he : ∀ d e, ct d = some e → ad' d = ad d) : NH st ad' ct := ⟨fun a b ea eb ha hb hab => h.1 a b ea eb ha hb (by rw [← he _ _ ha, ← he _ _ hb]; exact hab), fun d e hd => by rw [he _ _ hd]; exact h.2.1 d e hd, h.2.2⟩
/-! lookups -/
variable {ci kd n : Nat} {fs : List DV} {f : Nat → Int32} {g : Nat → Option Nat} {l : Nat → Int64}
theorem l_gO (h : NH st ad ct) (hc : ct c = some (.inr (ci, fs))) : gO st (some (ad c)) ci = some (ad c, fs) := by
  simp only [gO, h.at hc, if_true]
theorem l_oR (h : NH st ad ct) (hc : ct c = some (.inr (ci, fs))) : oR st (some (ad c)) ci = some (ad c) := by
  unfold oR
  rw [l_gO h hc]
  rfl
theorem l_gV (h : NH st ad ct) (hc : ct c = some (.inr (ci, fs))) (k : Nat) : gV st (some (ad c)) ci k = fs[k]? := by
  unfold gV
  rw [l_gO h hc]
  rfl
theorem l_gI (h : NH st ad ct) (hc : ct c = some (.inr (ci, fs))) (k : Nat) {v : Int32} (hv : fs[k]? = some (DI v)) : gI st (some (ad c)) ci k = some v := by
  unfold gI
  rw [l_gV h hc, hv]
  rfl
theorem l_gR (h : NH st ad ct) (hc : ct c = some (.inr (ci, fs))) (k : Nat) {v : Option Nat} (hv : fs[k]? = some (DR v)) : gR st (some (ad c)) ci k = some v := by
  unfold gR
  rw [l_gV h hc, hv]
  rfl
theorem l_pV (h : NH st ad ct) (hc : ct c = some (.inr (ci, fs))) (k : Nat) (v : DV) (hk : k < fs.length) : pV st (some (ad c)) ci k v = some (setN st (ad c) (.inr (ci, fs.set k v))) := by
  unfold pV
  rw [l_gO h hc]
  show (if k < fs.length then _ else _) = _
  rw [if_pos hk]
  rfl
theorem l_gA {x : vp_A} (h : NH st ad ct) (hc : ct c = some (.inl (kd, x))) : gA st (some (ad c)) kd = some (ad c, x) := by
  simp only [gA, h.at hc, if_true]
theorem l_aN {x : vp_A} (h : NH st ad ct) (hc : ct c = some (.inl (kd, x))) : aN st (some (ad c)) kd = some (Int32.ofNat x.1) := by
  unfold aN
  rw [l_gA h hc]
  rfl
theorem l_gAI (h : NH st ad ct) (hc : ct c = some (.inl (kd, (n, .inl f)))) : gAI st (some (ad c)) kd = some (ad c, n, f) := by
  unfold gAI
  rw [l_gA h hc]
  rfl
theorem l_gAR (h : NH st ad ct) (hc : ct c = some (.inl (kd, (n, .inr (.inr (.inr (.inr g))))))) : gAR st (some (ad c)) kd = some (ad c, n, g) := by
  unfold gAR
  rw [l_gA h hc]
  rfl
theorem l_gAL (h : NH st ad ct) (hc : ct c = some (.inl (kd, (n, .inr (.inl l))))) : gAL st (some (ad c)) kd = some (ad c, n, l) := by
  unfold gAL
  rw [l_gA h hc]
  rfl
theorem inA_nI {k n : Nat} (h : k < n) (hn : n < 2 ^ 31) : inA (nI k) n = true := by
  have h1 : (nI k).toNatClampNeg = k := nI_clamp (by omega)
  have h2 : ¬ nI k < 0 := nI_pos (by omega)
  simp [inA, h1, h2, h]
theorem l_aI (h : NH st ad ct) (hc : ct c = some (.inl (kd, (n, .inl f)))) {i : Int32} (k : Nat) (hi : i = nI k) (hk : k < n) (hn : n < 2 ^ 31) : aI st (some (ad c)) kd i = some (f k) := by
  subst hi
  unfold aI
  rw [l_gAI h hc]
  show (if inA (nI k) n = true then some (f (nI k).toNatClampNeg) else none) = _
  rw [if_pos (inA_nI hk hn), nI_clamp (by omega)]
theorem l_aR (h : NH st ad ct) (hc : ct c = some (.inl (kd, (n, .inr (.inr (.inr (.inr g))))))) {i : Int32} (k : Nat) (hi : i = nI k) (hk : k < n) (hn : n < 2 ^ 31) : aR st (some (ad c)) kd i = some (g k) := by
  subst hi
  unfold aR
  rw [l_gAR h hc]
  show (if inA (nI k) n = true then some (g (nI k).toNatClampNeg) else none) = _
  rw [if_pos (inA_nI hk hn), nI_clamp (by omega)]
theorem l_aL (h : NH st ad ct) (hc : ct c = some (.inl (kd, (n, .inr (.inl l))))) {i : Int32} (k : Nat) (hi : i = nI k) (hk : k < n) (hn : n < 2 ^ 31) : aL st (some (ad c)) kd i = some (l k) := by
  subst hi
  unfold aL
  rw [l_gAL h hc]
  show (if inA (nI k) n = true then some (l (nI k).toNatClampNeg) else none) = _
  rw [if_pos (inA_nI hk hn), nI_clamp (by omega)]
theorem l_sI (h : NH st ad ct) (hc : ct c = some (.inl (kd, (n, .inl f)))) {i : Int32} (k : Nat) (hi : i = nI k) (hk : k < n) (hn : n < 2 ^ 31) (x : Int32) : sI st (some (ad c)) kd i x = some (setN st (ad c) (.inl (kd, (n, .inl (upd f k x))))) := by
  subst hi
  unfold sI
  rw [l_gAI h hc]
  show (if inA (nI k) n = true then some (st.1, va_up st.2 (ad c) (some (.inl (kd, (n, .inl (upd f (nI k).toNatClampNeg x)))))) else none) = _
  rw [if_pos (inA_nI hk hn), nI_clamp (by omega)]
  rfl
theorem l_sL (h : NH st ad ct) (hc : ct c = some (.inl (kd, (n, .inr (.inl l))))) {i : Int32} (k : Nat) (hi : i = nI k) (hk : k < n) (hn : n < 2 ^ 31) (x : Int64) : sL st (some (ad c)) kd i x = some (setN st (ad c) (.inl (kd, (n, .inr (.inl (vp_updL l k x)))))) := by
  subst hi
  unfold sL
  rw [l_gAL h hc]
  show (if inA (nI k) n = true then some (st.1, va_up st.2 (ad c) (some (.inl (kd, (n, .inr (.inl (vp_updL l (nI k).toNatClampNeg x))))))) else none) = _
  rw [if_pos (inA_nI hk hn), nI_clamp (by omega)]
  rfl
theorem l_sR (h : NH st ad ct) (hc : ct c = some (.inl (kd, (n, .inr (.inr (.inr (.inr g))))))) {i : Int32} (k : Nat) (hi : i = nI k) (hk : k < n) (hn : n < 2 ^ 31) {v : Option Nat} {ci : Nat} (hv : okR st v ci = true) : sR st (some (ad c)) kd ci i v = some (setN st (ad c) (.inl (kd, (n, .inr (.inr (.inr (.inr (va_up g k v)))))))) := by
  subst hi
  unfold sR
  rw [l_gAR h hc]
  show (if inA (nI k) n = true ∧ okR st v ci = true then some (st.1, va_up st.2 (ad c) (some (.inl (kd, (n, .inr (.inr (.inr (.inr (va_up g (nI k).toNatClampNeg v))))))))) else none) = _
  rw [if_pos ⟨inA_nI hk hn, hv⟩, nI_clamp (by omega)]
  rfl
theorem okR_of (h : NH st ad ct) (hc : ct c = some (.inr (ci, fs))) : okR st (some (ad c)) ci = true := by
  show (gO st (some (ad c)) ci).isSome = true
  rw [l_gO h hc]
  rfl
theorem l_cp {c0 c1 n0 n1 : Nat} {f g : Nat → Int32} (h : NH st ad ct) (h0 : ct c0 = some (.inl (kd, (n0, .inl f)))) (h1 : ct c1 = some (.inl (kd, (n1, .inl g)))) {sp dp n : Int32} (a b k : Nat) (ha : sp = nI a) (hb : dp = nI b) (hk : n = nI k) (l0 : a + k ≤ n0) (l1 : b + k ≤ n1) (m0 : n0 < 2 ^ 31) (m1 : n1 < 2 ^ 31) : cpI st (some (ad c0)) sp (some (ad c1)) dp n kd = some (setN st (ad c1) (.inl (kd, (n1, .inl (va_cpy f g a b k))))) := by
  subst ha; subst hb; subst hk
  unfold cpI
  rw [l_gAI h h0, l_gAI h h1]
  show (if ¬ nI a < 0 ∧ ¬ nI b < 0 ∧ ¬ nI k < 0 ∧ (nI a).toNatClampNeg + (nI k).toNatClampNeg ≤ n0 ∧ (nI b).toNatClampNeg + (nI k).toNatClampNeg ≤ n1 then some (st.1, va_up st.2 (ad c1) (some (.inl (kd, (n1, .inl (va_cpy f g (nI a).toNatClampNeg (nI b).toNatClampNeg (nI k).toNatClampNeg)))))) else none) = _
  rw [nI_clamp (by omega), nI_clamp (by omega), nI_clamp (by omega), if_pos ⟨nI_pos (by omega), nI_pos (by omega), nI_pos (by omega), l0, l1⟩]
  rfl
end NAMED
/-! loops -/
theorem dlp_run {σ β : Type} (f : σ → Option (σ ⊕ β)) (S : Nat → σ → Prop) (T : β → Prop) (n : Nat) (h : ∀ k s, k ≤ n → S k s → (∃ s', f s = some (.inl s') ∧ k < n ∧ S (k + 1) s') ∨ ∃ b, f s = some (.inr b) ∧ T b) : ∀ s, S 0 s → ∃ b, dlp f s = some b ∧ T b := by
  have key : ∀ m k s, k + m = n → S k s → ∃ b, dlp f s = some b ∧ T b := by
    intro m
    induction m with
    | zero =>
      intro k s hk hs
      rcases h k s (by omega) hs with ⟨s', h1, h2, h3⟩ | ⟨b, h1, h2⟩
      · omega
      · exact ⟨b, by rw [dlp_step, h1], h2⟩
    | succ m ih =>
      intro k s hk hs
      rcases h k s (by omega) hs with ⟨s', h1, h2, h3⟩ | ⟨b, h1, h2⟩
      · obtain ⟨b, g1, g2⟩ := ih (k + 1) s' (by omega) h3
        exact ⟨b, by rw [dlp_step, h1]; exact g1, g2⟩
      · exact ⟨b, by rw [dlp_step, h1], h2⟩
  exact fun s hs => key n 0 s (by omega) hs
theorem ob_of {α β : Type} {o : Option α} {a : α} (k : α → Option β) (h : o = some a) : oB o k = k a := by rw [h]; rfl
theorem xb_of {α β : Type} {o : Option ((String × DHp) ⊕ α)} {a : α} (k : α → Option ((String × DHp) ⊕ β)) (h : o = some (.inr a)) : xB o k = k a := by rw [h]; rfl
theorem xt_of {α β : Type} {o : Option ((String × DHp) ⊕ α)} {e : String × DHp} (k : α → Option ((String × DHp) ⊕ β)) (h : o = some (.inl e)) : xB o k = some (.inl e) := by rw [h]; rfl
/-! numbers -/
theorem i_lt (a b : Int32) : a < b ↔ a.toInt < b.toInt := Int32.lt_iff_toInt_lt
theorem i_le (a b : Int32) : a ≤ b ↔ a.toInt ≤ b.toInt := Int32.le_iff_toInt_le
theorem i_eq (a b : Int32) : a = b ↔ a.toInt = b.toInt := Int32.toInt_inj.symm
theorem i_rng (x : Int32) : -2147483648 ≤ x.toInt ∧ x.toInt < 2147483648 := ⟨Int32.le_toInt x, Int32.toInt_lt x⟩
theorem i_bmod {z : Int} (h1 : -2147483648 ≤ z) (h2 : z < 2147483648) : z.bmod (2 ^ 32) = z := by
  apply Int.bmod_eq_of_le <;> omega
theorem i_add {x y : Int32} (h1 : -2147483648 ≤ x.toInt + y.toInt) (h2 : x.toInt + y.toInt < 2147483648) : (x + y).toInt = x.toInt + y.toInt := by
  rw [Int32.toInt_add]; exact i_bmod h1 h2
theorem i_sub {x y : Int32} (h1 : -2147483648 ≤ x.toInt - y.toInt) (h2 : x.toInt - y.toInt < 2147483648) : (x - y).toInt = x.toInt - y.toInt := by
  rw [Int32.toInt_sub]; exact i_bmod h1 h2
theorem i_mul {x y : Int32} (h1 : -2147483648 ≤ x.toInt * y.toInt) (h2 : x.toInt * y.toInt < 2147483648) : (x * y).toInt = x.toInt * y.toInt := by
  rw [Int32.toInt_mul]; exact i_bmod h1 h2
theorem i_div {x y : Int32} (h1 : 0 ≤ x.toInt) (h2 : 0 < y.toInt) : (x / y).toInt = x.toInt / y.toInt := by
  rw [Int32.toInt_div, Int.tdiv_eq_ediv_of_nonneg h1]
  have := i_rng x
  have h3 := Int.ediv_nonneg h1 (Int.le_of_lt h2)
  have h4 := Int.ediv_le_self y.toInt h1
  exact i_bmod (by omega) (by omega)
theorem i_nI {n : Nat} (h : n < 2 ^ 31) : (nI n).toInt = (n : Int) := nI_toInt h
theorem i_max (x y : Int32) : (jmax x y).toInt = max x.toInt y.toInt := by
  unfold jmax
  split
  · rename_i h; rw [i_lt] at h; omega
  · rename_i h; rw [i_lt] at h; omega
theorem i_min (x y : Int32) : (jmin x y).toInt = min x.toInt y.toInt := by
  unfold jmin
  split
  · rename_i h; rw [i_lt] at h; omega
  · rename_i h; rw [i_lt] at h; omega
/-- an index: within, or not -/
def ixO (p : Int32) (n : Nat) : Option Nat := if 0 ≤ p.toInt ∧ p.toInt < (n : Int) then some p.toInt.toNat else none
theorem ixO_some {p : Int32} {n j : Nat} (h : ixO p n = some j) : j < n ∧ p = nI j := by
  unfold ixO at h
  split at h
  · rename_i hp
    cases h
    have := i_rng p
    refine ⟨by omega, ?_⟩
    rw [i_eq, i_nI (by omega)]
    omega
  · cases h
theorem ixO_none {p : Int32} {n : Nat} (h : ixO p n = none) : p.toInt < 0 ∨ (n : Int) ≤ p.toInt := by
  unfold ixO at h
  split at h
  · cases h
  · omega
theorem ixO_nI {j n : Nat} (h : j < n) (hn : n < 2 ^ 31) : ixO (nI j) n = some j := by
  unfold ixO
  rw [i_nI (by omega), if_pos ⟨by omega, by omega⟩]
  simp
