/-! READING AND CHECKING: indices, ranges -/
theorem oz0 : oZ 0 = some 0 := rfl
theorem oz1 : oZ 1 = some 1 := rfl
theorem toN {x : Int32} (N : Nat) (h1 : 0 ≤ x.toInt) (h2 : x.toInt ≤ (N : Int)) (hN : N < 2 ^ 31) : ∃ n, n ≤ N ∧ x = nI n ∧ (n : Int) = x.toInt := by
  refine ⟨x.toInt.toNat, by omega, ?_, by omega⟩
  rw [i_eq, i_nI (by omega)]
  omega
theorem lt_lit {x y : Int32} {a b : Int} (ha : x.toInt = a) (hb : y.toInt = b) : x < y ↔ a < b := by rw [i_lt, ha, hb]
theorem ixO_0 {p : Int32} {n i : Nat} (h : ixO p n = some i) (hn : n < 2 ^ 31) : ¬ p < 0 := by
  obtain ⟨h1, rfl⟩ := ixO_some h
  exact nI_pos (by omega)
theorem i_pred {n : Nat} (h : n < 2 ^ 31) : (nI n - 1).toInt = (n : Int) - 1 := by
  rw [i_sub, i_nI h, show (1 : Int32).toInt = 1 by decide] <;> rw [i_nI h, show (1 : Int32).toInt = 1 by decide] <;> omega
section CCHECK
variable {st : DSt} {ad : Nat → Nat} {day : Int32} {nb ns nx : Nat} {gB wB : Nat → Int32} {cB sS bX : Nat → Nat → Int32} {f6 f7 g8 g9 : Nat → Int32} {Q : Nat → Option DCel} {i : Nat} {p : Int32}
theorem c_bowlAt_t (h : NH st ad (CT ad day nb ns nx gB wB cB sS bX f6 f7 g8 g9 Q)) (hp : ixO p nb = some i) (hb : nb ≤ 5) : fX4_bowlAt st (ad 0) p = some (.inr (some (ad (20 + i)))) := by
  obtain ⟨h1, rfl⟩ := ixO_some hp
  unfold fX4_bowlAt
  rw [if_neg (nI_pos (by omega)), if_pos (show nI i < 5 from nI_lt (a := i) (b := 5) (by omega) (by omega)), ob_of _ (q_rb h), ob_of _ (q_aRb h rfl (by omega)), if_pos h1]
  rfl
theorem c_bowlAt_f (h : NH st ad (CT ad day nb ns nx gB wB cB sS bX f6 f7 g8 g9 Q)) (hp : ixO p nb = none) : fX4_bowlAt st (ad 0) p = some (.inl ("java/lang/IndexOutOfBoundsException", st.2)) := by
  unfold fX4_bowlAt
  by_cases h1 : p < 0
  · rw [if_pos h1]
  · rw [if_neg h1]
    by_cases h2 : p < 5
    · rw [if_pos h2]
      rw [i_lt] at h1 h2
      obtain ⟨n, hn, rfl, hx⟩ := toN (x := p) 4 (by rw [toInt_0] at h1; omega) (by rw [show (5 : Int32).toInt = 5 by decide] at h2; omega) (by omega)
      have := ixO_none hp
      rw [ob_of _ (q_rb h), ob_of _ (q_aRb h rfl (by omega)), if_neg (by omega)]
      rfl
    · rw [if_neg h2]
theorem c_findSlab_t (h : NH st ad (CT ad day nb ns nx gB wB cB sS bX f6 f7 g8 g9 Q)) (hp : ixO p ns = some i) (hs : ns ≤ 8) : fX4_findSlab st (ad 0) p = some (some (ad (60 + i))) := by
  obtain ⟨h1, rfl⟩ := ixO_some hp
  unfold fX4_findSlab
  rw [if_neg (nI_pos (by omega)), if_pos (show nI i < 8 from nI_lt (a := i) (b := 8) (by omega) (by omega)), ob_of _ (q_rs h), ob_of _ (q_aRs h rfl (by omega)), if_pos h1]
theorem c_findSlab_f (h : NH st ad (CT ad day nb ns nx gB wB cB sS bX f6 f7 g8 g9 Q)) (hp : ixO p ns = none) : fX4_findSlab st (ad 0) p = some none := by
  unfold fX4_findSlab
  by_cases h1 : p < 0
  · rw [if_pos h1]
  · rw [if_neg h1]
    by_cases h2 : p < 8
    · rw [if_pos h2]
      rw [i_lt] at h1 h2
      obtain ⟨n, hn, rfl, hx⟩ := toN (x := p) 7 (by rw [toInt_0] at h1; omega) (by rw [toInt_8] at h2; omega) (by omega)
      have := ixO_none hp
      rw [ob_of _ (q_rs h), ob_of _ (q_aRs h rfl (by omega)), if_neg (by omega)]
    · rw [if_neg h2]
theorem c_slabAt_t (h : NH st ad (CT ad day nb ns nx gB wB cB sS bX f6 f7 g8 g9 Q)) (hp : ixO p ns = some i) (hs : ns ≤ 8) : fX4_slabAt st (ad 0) p = some (.inr (some (ad (60 + i)))) := by
  unfold fX4_slabAt
  rw [ob_of _ (q_oR h), ob_of _ (c_findSlab_t h hp hs)]
  rfl
theorem c_slabAt_f (h : NH st ad (CT ad day nb ns nx gB wB cB sS bX f6 f7 g8 g9 Q)) (hp : ixO p ns = none) : fX4_slabAt st (ad 0) p = some (.inl ("java/lang/IndexOutOfBoundsException", st.2)) := by
  unfold fX4_slabAt
  rw [ob_of _ (q_oR h), ob_of _ (c_findSlab_f h hp)]
  rfl
theorem c_boxAt_t (h : NH st ad (CT ad day nb ns nx gB wB cB sS bX f6 f7 g8 g9 Q)) (hp : ixO p nx = some i) (hx : nx ≤ 6) : fX4_boxAt st (ad 0) p = some (.inr (some (ad (50 + i)))) := by
  obtain ⟨h1, rfl⟩ := ixO_some hp
  unfold fX4_boxAt
  rw [if_neg (nI_pos (by omega)), if_pos (show nI i < 6 from nI_lt (a := i) (b := 6) (by omega) (by omega)), ob_of _ (q_rx h), ob_of _ (q_aRx h rfl (by omega)), if_pos h1]
  rfl
theorem c_boxAt_f (h : NH st ad (CT ad day nb ns nx gB wB cB sS bX f6 f7 g8 g9 Q)) (hp : ixO p nx = none) : fX4_boxAt st (ad 0) p = some (.inl ("java/lang/IndexOutOfBoundsException", st.2)) := by
  unfold fX4_boxAt
  by_cases h1 : p < 0
  · rw [if_pos h1]
  · rw [if_neg h1]
    by_cases h2 : p < 6
    · rw [if_pos h2]
      rw [i_lt] at h1 h2
      obtain ⟨n, hn, rfl, hq⟩ := toN (x := p) 5 (by rw [toInt_0] at h1; omega) (by rw [show (6 : Int32).toInt = 6 by decide] at h2; omega) (by omega)
      have := ixO_none hp
      rw [ob_of _ (q_rx h), ob_of _ (q_aRx h rfl (by omega)), if_neg (by omega)]
      rfl
    · rw [if_neg h2]
theorem c_warming_t {a b : Int32} (h1 : ¬ a < 15) (h2 : ¬ 50 < a) (h3 : ¬ b < 1) (h4 : ¬ 40 < b) : fX4_checkWarming st a b = some (.inr ()) := by
  unfold fX4_checkWarming
  rw [if_neg h1, if_neg h2, if_neg h3, if_pos (Int32.not_lt.mp h4)]
theorem c_warming_f {a b : Int32} (h : (a < 15 ∨ 50 < a) ∨ (b < 1 ∨ 40 < b)) : fX4_checkWarming st a b = some (.inl ("java/lang/IllegalArgumentException", st.2)) := by
  unfold fX4_checkWarming
  by_cases h1 : a < 15
  · rw [if_pos h1]
  by_cases h2 : 50 < a
  · rw [if_neg h1, if_pos h2]
  by_cases h3 : b < 1
  · rw [if_neg h1, if_neg h2, if_pos h3]
  have h4 : 40 < b := by
    rcases h with (h | h) | (h | h)
    · exact absurd h h1
    · exact absurd h h2
    · exact absurd h h3
    · exact h
  rw [if_neg h1, if_neg h2, if_neg h3, if_neg (Int32.not_le.mpr h4)]
theorem c_room_t {a : Int32} (h1 : ¬ a < 10) (h2 : ¬ 40 < a) : fX4_checkRoom st a = some (.inr ()) := by
  unfold fX4_checkRoom
  rw [if_neg h1, if_pos (Int32.not_lt.mp h2)]
theorem c_room_f {a : Int32} (h : a < 10 ∨ 40 < a) : fX4_checkRoom st a = some (.inl ("java/lang/IllegalArgumentException", st.2)) := by
  unfold fX4_checkRoom
  by_cases h1 : a < 10
  · rw [if_pos h1]
  · rw [if_neg h1, if_neg (Int32.not_le.mpr (h.resolve_left h1))]
theorem c_what_t {a b : Int32} (h1 : ¬ a < 0) (h2 : ¬ b < a) : fX4_checkWhat st a b = some (.inr ()) := by
  unfold fX4_checkWhat
  rw [if_neg h1, if_pos (Int32.not_lt.mp h2)]
theorem c_what_f {a b : Int32} (h : a < 0 ∨ b < a) : fX4_checkWhat st a b = some (.inl ("java/lang/IndexOutOfBoundsException", st.2)) := by
  unfold fX4_checkWhat
  by_cases h1 : a < 0
  · rw [if_pos h1]
  · rw [if_neg h1, if_neg (Int32.not_le.mpr (h.resolve_left h1))]
end CCHECK
/-! ONE CALL ON BOTH SIDES -/
section JOINT
variable {st : DSt} {ad : Nat → Nat} {day : Int32} {nb ns nx : Nat} {gB wB : Nat → Int32} {cB sS bX : Nat → Nat → Int32} {f6 f7 g8 g9 : Nat → Int32} {Q : Nat → Option DCel} {cd : String → Option Int32} {E : String} {k y : Int32} {G : DSt → Option (Int32 × DSt)}
end JOINT
/-! THE CALLS THAT ALLOCATE NOTHING -/
theorem n10 : ¬ (1 : Int32) = 0 := by decide
def foldN {α : Type} (g : Nat → α → α) : Nat → α → α
  | 0, a => a
  | n + 1, a => g n (foldN g n a)
theorem foldN_ext {α : Type} {g : Nat → α → α} {m n : Nat} {a : α} (h : m ≤ n) (hg : ∀ k, m ≤ k → k < n → ∀ a, g k a = a) : foldN g n a = foldN g m a := by
  induction n with
  | zero => rw [show m = 0 by omega]
  | succ n ih =>
    by_cases hm : m = n + 1
    · rw [hm]
    · show g n (foldN g n a) = _
      rw [hg n (by omega) (by omega), ih (by omega) fun k k1 k2 => hg k k1 (by omega)]
theorem foldN_congr {α : Type} {g g' : Nat → α → α} {n : Nat} {a : α} (hg : ∀ k, k < n → ∀ a, g k a = g' k a) : foldN g n a = foldN g' n a := by
  induction n with
  | zero => rfl
  | succ n ih =>
    show g n (foldN g n a) = g' n (foldN g' n a)
    rw [ih fun k hk => hg k (by omega), hg n (by omega)]
theorem dlp_fold {α : Type} (f : α × Int32 → Option ((α × Int32) ⊕ (α × Int32))) (g : Nat → α → α) (n : Nat) (a0 : α) (hs : ∀ k a, k < n → f (a, nI k) = some (.inl (g k a, nI k + 1))) (he : ∀ a, f (a, nI n) = some (.inr (a, nI n))) : dlp f (a0, 0) = some (foldN g n a0, nI n) := by
  obtain ⟨b, g1, g2⟩ := dlp_run f (fun k z => z = (foldN g k a0, nI k)) (fun b => b = (foldN g n a0, nI n)) n (fun k z hk hz => by
    subst hz
    by_cases h : k = n
    · subst h
      exact Or.inr ⟨_, he _, rfl⟩
    · exact Or.inl ⟨_, hs k _ (by omega), by omega, by rw [nI_1]; rfl⟩) (a0, 0) rfl
  rw [g1, g2]

/-! WHAT IS TOLD -/
def toldV (g w : Int32) (c : Nat → Int32) (k : Nat) : Int32 := if k = 0 then g else if k ≤ 5 then c k else if k = 6 then w else temF c
def firstN (P : Nat → Bool) : Nat → Option Nat
  | 0 => none
  | n + 1 => match firstN P n with
    | some k => some k
    | none => if P n = true then some n else none
theorem firstN_none {P : Nat → Bool} : ∀ {n : Nat}, firstN P n = none ↔ ∀ j, j < n → P j = false
  | 0 => ⟨fun _ j hj => by omega, fun _ => rfl⟩
  | n + 1 => by
    have ih := firstN_none (P := P) (n := n)
    unfold firstN
    rcases h : firstN P n with _ | k
    · have ih := ih.mp h
      dsimp only
      by_cases hp : P n = true
      · rw [if_pos hp]
        exact ⟨fun q => (by cases q), fun q => (by have := q n (by omega); rw [hp] at this; cases this)⟩
      · rw [if_neg hp]
        refine ⟨fun _ j hj => ?_, fun _ => rfl⟩
        by_cases e : j = n
        · rw [e]; exact Bool.eq_false_iff.mpr hp
        · exact ih j (by omega)
    · dsimp only
      refine ⟨fun q => (by cases q), fun q => ?_⟩
      have := ih.mpr fun j hj => q j (by omega)
      rw [h] at this
      cases this
theorem firstN_is {P : Nat → Bool} {k : Nat} : ∀ {n : Nat}, k < n → P k = true → (∀ j, j < k → P j = false) → firstN P n = some k
  | 0, h, _, _ => by omega
  | n + 1, h, hp, hj => by
    unfold firstN
    by_cases e : k = n
    · subst e
      rw [firstN_none.mpr hj]
      dsimp only
      rw [if_pos hp]
    · rw [firstN_is (n := n) (by omega) hp hj]
theorem firstN_some {P : Nat → Bool} {k : Nat} : ∀ {n : Nat}, firstN P n = some k → k < n ∧ P k = true ∧ ∀ j, j < k → P j = false
  | 0, h => by cases h
  | n + 1, h => by
    unfold firstN at h
    rcases h1 : firstN P n with _ | m
    · rw [h1] at h
      dsimp only at h
      split at h
      · rename_i hp
        cases h
        exact ⟨by omega, hp, firstN_none.mp h1⟩
      · cases h
    · rw [h1] at h
      cases h
      obtain ⟨g1, g2, g3⟩ := firstN_some h1
      exact ⟨by omega, g2, g3⟩
theorem firstN_ext {P P' : Nat → Bool} {n : Nat} (h : ∀ j, j < n → P j = P' j) : firstN P n = firstN P' n := by
  induction n with
  | zero => rfl
  | succ n ih =>
    unfold firstN
    rw [ih fun j hj => h j (by omega), h n (by omega)]
theorem firstN_more {P : Nat → Bool} {m n : Nat} (hm : m ≤ n) (h : ∀ j, m ≤ j → j < n → P j = false) : firstN P n = firstN P m := by
  induction n with
  | zero => rw [show m = 0 by omega]
  | succ n ih =>
    by_cases e : m = n + 1
    · rw [e]
    · show (match firstN P n with
        | some k => some k
        | none => if P n = true then some n else none) = firstN P m
      rw [ih (by omega) fun j h1 h2 => h j h1 (by omega), h n (by omega) (by omega)]
      rcases firstN P m with _ | k <;> rfl
def ansN (o : Option Nat) : Int32 := match o with
  | some k => nI k
  | none => -1
theorem dlp_find (f : Int32 → Option (Int32 ⊕ (Int32 ⊕ Int32))) (P : Nat → Bool) (n : Nat) (hs : ∀ k, k < n → f (nI k) = some (if P k = true then .inr (.inr (nI k)) else .inl (nI k + 1))) (he : f (nI n) = some (.inr (.inl (nI n)))) : ∃ b, dlp f 0 = some b ∧ (match b with | .inr r => some r | .inl _ => some (-1)) = some (ansN (firstN P n)) := by
  refine dlp_run f (fun k z => z = nI k ∧ ∀ j, j < k → P j = false) (fun b => (match b with | .inr r => some r | .inl _ => some (-1)) = some (ansN (firstN P n))) n (fun k z hk hz => ?_) 0 ⟨rfl, fun j hj => by omega⟩
  obtain ⟨rfl, hz⟩ := hz
  by_cases h : k = n
  · subst h
    refine Or.inr ⟨_, he, ?_⟩
    rw [firstN_none.mpr hz]
    rfl
  · by_cases hp : P k = true
    · refine Or.inr ⟨_, (hs k (by omega)).trans (by rw [if_pos hp]), ?_⟩
      rw [firstN_is (show k < n by omega) hp hz]
      rfl
    · refine Or.inl ⟨_, (hs k (by omega)).trans (by rw [if_neg hp]), by omega, nI_1 _, fun j hj => ?_⟩
      by_cases e : j = k
      · rw [e]; exact Bool.eq_false_iff.mpr hp
      · exact hz j (by omega)
/-- a slab suits a box -/
def suitB (b s : Nat → Int32) (bl : Int32) : Bool := decide (s 0 * s 1 = b 0 ∧ ¬ s 2 < b 1 ∧ ¬ 20 < bl)
def fitB (b s : Nat → Int32) (bl : Int32) : Bool := decide (b 2 = 0) && suitB b s bl
def bI (b : Bool) : Int32 := if b = true then 1 else 0
theorem bI_0 (b : Bool) : bI b = 0 ↔ ¬ b = true := by cases b <;> decide
def aboutV (s : Nat → Int32) (b : Nat → Nat → Int32) (nx k : Nat) : Int32 := if k < 5 then s k else if k = 5 then s 0 * s 1 else ansN (firstN (fun j => fitB (b j) s (s 3)) nx)
section CTELL
variable {st : DSt} {ad : Nat → Nat} {day : Int32} {nb ns nx : Nat} {gB wB : Nat → Int32} {cB sS bX : Nat → Nat → Int32} {f6 f7 g8 g9 : Nat → Int32} {Q : Nat → Option DCel} {i j : Nat} {p : Int32}
theorem c_told (h : NH st ad (CT ad day nb ns nx gB wB cB sS bX f6 f7 g8 g9 Q)) (hp : ixO p nb = some i) (hb : nb ≤ 5) {k : Nat} (hk : k ≤ 7) : fX4_told st (ad 0) p (nI k) = some (.inr (toldV (gB i) (wB i) (cB i) k)) := by
  obtain ⟨hi, -⟩ := ixO_some hp
  unfold fX4_told
  rw [ob_of _ (q_oR h), xb_of _ (c_bowlAt_t h hp hb), xb_of _ (c_what_t (nI_pos (by omega)) (show ¬ (7 : Int32) < nI k from nI_nlt (a := 7) hk (by omega)))]
  unfold toldV
  by_cases h0 : k = 0
  · subst h0
    rw [if_pos (show nI 0 = 0 from rfl), ob_of _ (q_bg h hi hb), if_pos rfl]
  · rw [if_neg (nI_ne0 (by omega) (by omega)), if_neg h0]
    by_cases h5 : k ≤ 5
    · rw [if_neg (show ¬ (5 : Int32) < nI k from nI_nlt (a := 5) h5 (by omega)), if_pos h5, ob_of _ (q_bc h hi hb), ob_of _ (q_cr h hi hb), ob_of _ (q_ca h hi hb rfl (by omega))]
    · rw [if_pos (show (5 : Int32) < nI k from nI_lt (a := 5) (by omega) (by omega)), if_neg h5]
      by_cases h6 : k = 6
      · subst h6
        rw [if_pos (show nI 6 = 6 from rfl), ob_of _ (q_bw h hi hb), if_pos rfl]
      · rw [if_neg (show ¬ nI k = 6 from fun e => h6 ((nI_eq (b := 6) (by omega) (by omega)).mp e)), if_neg h6, ob_of _ (q_bc h hi hb), ob_of _ (q_co h hi hb), ob_of _ (s_temper h (c_c hi hb) (c_a hi hb))]
theorem c_suits (h : NH st ad (CT ad day nb ns nx gB wB cB sS bX f6 f7 g8 g9 Q)) (hi : i < ns) (hj : j < nx) (hx : nx ≤ 6) (bl : Int32) : fX1_suits st (ad (50 + j)) (some (ad (60 + i))) bl = some (bI (suitB (bX j) (sS i) bl)) := by
  unfold fX1_suits suitB
  rw [ob_of _ (q_so h hi), ob_of _ (q_sq h hi), ob_of _ (q_x0 h hj hx)]
  by_cases h1 : sS i 0 * sS i 1 = bX j 0
  · rw [if_pos h1, ob_of _ (q_s0 h hi), ob_of _ (q_x1 h hj hx)]
    by_cases h2 : sS i 2 < bX j 1
    · rw [if_pos h2, decide_eq_false (fun q => q.2.1 h2)]; rfl
    · rw [if_neg h2]
      by_cases h3 : 20 < bl
      · rw [if_pos h3, decide_eq_false (fun q => q.2.2 h3)]; rfl
      · rw [if_neg h3, decide_eq_true ⟨h1, h2, h3⟩]; rfl
  · rw [if_neg h1, decide_eq_false (fun q => h1 q.1)]; rfl
theorem c_firstBox (h : NH st ad (CT ad day nb ns nx gB wB cB sS bX f6 f7 g8 g9 Q)) (hi : i < ns) (hx : nx ≤ 6) : fX4_firstEmptyBoxFor st (ad 0) (some (ad (60 + i))) = some (ansN (firstN (fun j => fitB (bX j) (sS i) (sS i 3)) nx)) := by
  obtain ⟨b, g1, g2⟩ := dlp_find (fX4_firstEmptyBoxFor_L2 st (ad 0) (some (ad (60 + i)))) (fun j => decide (j < nx) && fitB (bX j) (sS i) (sS i 3)) 6 (fun k hk => by
    unfold fX4_firstEmptyBoxFor_L2
    rw [if_neg (show ¬ (6 : Int32) ≤ nI k from nI_ge (b := 6) (by omega) (by omega)), ob_of _ (q_rx h), ob_of _ (q_aRx h rfl hk)]
    by_cases hj : k < nx
    · rw [if_pos hj]
      show (oB (gI st (some (ad (50 + k))) 1 2) _) = _
      rw [ob_of _ (q_x2 h hj hx), decide_eq_true hj, Bool.true_and]
      unfold fitB
      by_cases h0 : bX k 2 = 0
      · rw [if_pos h0, ob_of _ (q_s3 h hi), ob_of _ (q_xo h hj hx), ob_of _ (c_suits h hi hj hx _), decide_eq_true h0, Bool.true_and]
        cases suitB (bX k) (sS i) (sS i 3) <;> rfl
      · rw [if_neg h0, decide_eq_false h0, Bool.false_and]
        rfl
    · rw [if_neg hj, decide_eq_false hj, Bool.false_and]
      rfl) rfl
  unfold fX4_firstEmptyBoxFor
  rw [ob_of _ g1]
  rw [firstN_more hx (fun j h1 h2 => by rw [decide_eq_false (by omega), Bool.false_and])] at g2
  rw [firstN_ext (P' := fun j => fitB (bX j) (sS i) (sS i 3)) (fun j hj => by rw [decide_eq_true hj, Bool.true_and])] at g2
  exact g2
theorem c_about (h : NH st ad (CT ad day nb ns nx gB wB cB sS bX f6 f7 g8 g9 Q)) (hp : ixO p ns = some i) (hs : ns ≤ 8) (hx : nx ≤ 6) {k : Nat} (hk : k ≤ 6) : fX4_about st (ad 0) p (nI k) = some (.inr (aboutV (sS i) bX nx k)) := by
  obtain ⟨hi, -⟩ := ixO_some hp
  unfold fX4_about
  rw [ob_of _ (q_oR h), xb_of _ (c_slabAt_t h hp hs), xb_of _ (c_what_t (nI_pos (by omega)) (show ¬ (6 : Int32) < nI k from nI_nlt (a := 6) hk (by omega)))]
  unfold aboutV
  rcases (show k = 0 ∨ k = 1 ∨ k = 2 ∨ k = 3 ∨ k = 4 ∨ k = 5 ∨ k = 6 by omega) with rfl | rfl | rfl | rfl | rfl | rfl | rfl
  · rw [if_pos (by decide), ob_of _ (q_s1 h hi)]; rfl
  · rw [if_neg (by decide), if_pos (by decide), ob_of _ (q_s2 h hi)]; rfl
  · rw [if_neg (by decide), if_neg (by decide), if_pos (by decide), ob_of _ (q_s0 h hi)]; rfl
  · rw [if_neg (by decide), if_neg (by decide), if_neg (by decide), if_pos (by decide), ob_of _ (q_s3 h hi)]; rfl
  · rw [if_neg (by decide), if_neg (by decide), if_neg (by decide), if_neg (by decide), if_pos (by decide), ob_of _ (q_s4 h hi)]; rfl
  · rw [if_neg (by decide), if_neg (by decide), if_neg (by decide), if_neg (by decide), if_neg (by decide), if_pos (by decide), ob_of _ (q_so h hi), ob_of _ (q_sq h hi)]; rfl
  · rw [if_neg (by decide), if_neg (by decide), if_neg (by decide), if_neg (by decide), if_neg (by decide), if_neg (by decide), ob_of _ (q_oR h), ob_of _ (c_firstBox h hi hx)]; rfl
theorem c_order (h : NH st ad (CT ad day nb ns nx gB wB cB sS bX f6 f7 g8 g9 Q)) (hp : ixO p nx = some i) (hx : nx ≤ 6) (h01 : bX i 2 = 0 ∨ bX i 2 = 1) {k : Nat} (hk : k ≤ 4) : fX4_order st (ad 0) p (nI k) = some (.inr (bX i k)) := by
  obtain ⟨hi, -⟩ := ixO_some hp
  unfold fX4_order
  rw [ob_of _ (q_oR h), xb_of _ (c_boxAt_t h hp hx), xb_of _ (c_what_t (nI_pos (by omega)) (show ¬ (4 : Int32) < nI k from nI_nlt (a := 4) hk (by omega)))]
  rcases (show k = 0 ∨ k = 1 ∨ k = 2 ∨ k = 3 ∨ k = 4 by omega) with rfl | rfl | rfl | rfl | rfl
  · rw [if_pos (by decide), ob_of _ (q_x0 h hi hx)]
  · rw [if_neg (by decide), if_pos (by decide), ob_of _ (q_x1 h hi hx)]
  · rw [if_neg (by decide), if_neg (by decide), if_pos (by decide), ob_of _ (q_x2 h hi hx)]
    rcases h01 with h01 | h01
    · rw [if_pos h01, h01]
    · rw [if_neg (by rw [h01]; decide), h01]
  · rw [if_neg (by decide), if_neg (by decide), if_neg (by decide), if_pos (by decide), ob_of _ (q_x3 h hi hx)]
  · rw [if_neg (by decide), if_neg (by decide), if_neg (by decide), if_neg (by decide), ob_of _ (q_x4 h hi hx)]
end CTELL
def cntB (sS : Nat → Nat → Int32) (k : Nat) (a : Int32) : Int32 := if sS k 3 ≤ 20 then a else a + 1
def cntX (bX : Nat → Nat → Int32) (k : Nat) (a : Int32) : Int32 := if bX k 2 = 0 then a else a + 1
def cntG (gB : Nat → Int32) (k : Nat) (a : Int32) : Int32 := a + gB k
def cntQ (sS : Nat → Nat → Int32) (k : Nat) (a : Int32) : Int32 := a + sS k 0 * sS k 1
def cntM (sS : Nat → Nat → Int32) (k : Nat) (a : Int32) : Int32 := a + sS k 3
def countV (day : Int32) (nb ns nx : Nat) (gB : Nat → Int32) (sS bX : Nat → Nat → Int32) (k : Nat) : Int32 := if k = 0 then day else if k = 1 then nI nb else if k = 2 then nI ns else if k = 3 then nI nx else if k = 4 then foldN (cntX bX) nx 0 else if k = 5 then foldN (cntG gB) nb 0 else if k = 6 then foldN (cntQ sS) ns 0 else foldN (cntB sS) ns 0
section CCOUNT
variable {st : DSt} {ad : Nat → Nat} {day : Int32} {nb ns nx : Nat} {gB wB : Nat → Int32} {cB sS bX : Nat → Nat → Int32} {f6 f7 g8 g9 : Nat → Int32} {Q : Nat → Option DCel} {i j : Nat} {p : Int32}
theorem fold_most {α : Type} {g : Nat → α → α} {m n : Nat} {a : α} (h : m ≤ n) : foldN (fun k a => if k < m then g k a else a) n a = foldN g m a := by
  rw [foldN_ext h (fun k h1 h2 a => if_neg (by omega))]
  exact foldN_congr fun k hk a => if_pos hk
theorem c_bloomed (h : NH st ad (CT ad day nb ns nx gB wB cB sS bX f6 f7 g8 g9 Q)) (hs : ns ≤ 8) : fX4_bloomedSlabs st (ad 0) = some (foldN (cntB sS) ns 0) := by
  have g := dlp_fold (fX4_bloomedSlabs_L13 st (some (ad 2)) 8) (fun k a => if k < ns then cntB sS k a else a) 8 0 (fun k a hk => by
    unfold fX4_bloomedSlabs_L13
    dsimp only
    rw [if_neg (show ¬ (8 : Int32) ≤ nI k from nI_ge (b := 8) hk (by omega)), ob_of _ (q_aRs h rfl hk)]
    by_cases hi : k < ns
    · rw [if_pos hi, if_pos hi]
      show (oB (oR st (some (ad (60 + k))) 3) _) = _
      unfold cntB
      by_cases h20 : sS k 3 ≤ 20
      · rw [ob_of _ (q_so h hi), ob_of _ (show fX3_isBloomed st (ad (60 + k)) = some 0 by unfold fX3_isBloomed; rw [ob_of _ (q_s3 h hi), if_pos h20]; rfl), if_pos rfl, if_pos h20]
      · rw [ob_of _ (q_so h hi), ob_of _ (show fX3_isBloomed st (ad (60 + k)) = some 1 by unfold fX3_isBloomed; rw [ob_of _ (q_s3 h hi), if_neg h20]; rfl), if_neg n10, if_neg h20]
    · rw [if_neg hi, if_neg hi]
      rfl) (fun a => rfl)
  rw [fold_most hs] at g
  unfold fX4_bloomedSlabs
  rw [ob_of _ (q_rs h), ob_of _ (q_aNs h), ob_of _ g]
theorem c_filled (h : NH st ad (CT ad day nb ns nx gB wB cB sS bX f6 f7 g8 g9 Q)) (hx : nx ≤ 6) : fX4_filledBoxes st (ad 0) = some (foldN (cntX bX) nx 0) := by
  have g := dlp_fold (fX4_filledBoxes_L13 st (some (ad 3)) 6) (fun k a => if k < nx then cntX bX k a else a) 6 0 (fun k a hk => by
    unfold fX4_filledBoxes_L13
    dsimp only
    rw [if_neg (show ¬ (6 : Int32) ≤ nI k from nI_ge (b := 6) hk (by omega)), ob_of _ (q_aRx h rfl hk)]
    by_cases hi : k < nx
    · rw [if_pos hi, if_pos hi]
      show (oB (gI st (some (ad (50 + k))) 1 2) _) = _
      unfold cntX
      rw [ob_of _ (q_x2 h hi hx)]
      by_cases h20 : bX k 2 = 0
      · rw [if_pos h20, if_pos h20]
      · rw [if_neg h20, if_neg h20]
    · rw [if_neg hi, if_neg hi]
      rfl) (fun a => rfl)
  rw [fold_most hx] at g
  unfold fX4_filledBoxes
  rw [ob_of _ (q_rx h), ob_of _ (q_aNx h), ob_of _ g]
theorem c_grams (h : NH st ad (CT ad day nb ns nx gB wB cB sS bX f6 f7 g8 g9 Q)) (hb : nb ≤ 5) : fX4_gramsOfBowls st (ad 0) = some (foldN (cntG gB) nb 0) := by
  have g := dlp_fold (fX4_gramsOfBowls_L13 st (some (ad 1)) 5) (fun k a => if k < nb then cntG gB k a else a) 5 0 (fun k a hk => by
    unfold fX4_gramsOfBowls_L13
    dsimp only
    rw [if_neg (show ¬ (5 : Int32) ≤ nI k from nI_ge (b := 5) hk (by omega)), ob_of _ (q_aRb h rfl hk)]
    by_cases hi : k < nb
    · rw [if_pos hi, if_pos hi]
      show (oB (gI st (some (ad (20 + k))) 0 1) _) = _
      rw [ob_of _ (q_bg h hi hb)]
      rfl
    · rw [if_neg hi, if_neg hi]
      rfl) (fun a => rfl)
  rw [fold_most hb] at g
  unfold fX4_gramsOfBowls
  rw [ob_of _ (q_rb h), ob_of _ (q_aNb h), ob_of _ g]
theorem c_squaresAll (h : NH st ad (CT ad day nb ns nx gB wB cB sS bX f6 f7 g8 g9 Q)) (hs : ns ≤ 8) : fX4_squaresOfSlabs st (ad 0) = some (foldN (cntQ sS) ns 0) := by
  have g := dlp_fold (fX4_squaresOfSlabs_L13 st (some (ad 2)) 8) (fun k a => if k < ns then cntQ sS k a else a) 8 0 (fun k a hk => by
    unfold fX4_squaresOfSlabs_L13
    dsimp only
    rw [if_neg (show ¬ (8 : Int32) ≤ nI k from nI_ge (b := 8) hk (by omega)), ob_of _ (q_aRs h rfl hk)]
    by_cases hi : k < ns
    · rw [if_pos hi, if_pos hi]
      show (oB (oR st (some (ad (60 + k))) 3) _) = _
      rw [ob_of _ (q_so h hi), ob_of _ (q_sq h hi)]
      rfl
    · rw [if_neg hi, if_neg hi]
      rfl) (fun a => rfl)
  rw [fold_most hs] at g
  unfold fX4_squaresOfSlabs
  rw [ob_of _ (q_rs h), ob_of _ (q_aNs h), ob_of _ g]
theorem c_sumBloom (h : NH st ad (CT ad day nb ns nx gB wB cB sS bX f6 f7 g8 g9 Q)) (hs : ns ≤ 8) : dlp (fX4_mean_L13 st (some (ad 2)) 8) (0, 0) = some (foldN (cntM sS) ns 0, nI 8) := by
  have g := dlp_fold (fX4_mean_L13 st (some (ad 2)) 8) (fun k a => if k < ns then cntM sS k a else a) 8 0 (fun k a hk => by
    unfold fX4_mean_L13
    dsimp only
    rw [if_neg (show ¬ (8 : Int32) ≤ nI k from nI_ge (b := 8) hk (by omega)), ob_of _ (q_aRs h rfl hk)]
    by_cases hi : k < ns
    · rw [if_pos hi, if_pos hi]
      show (oB (gI st (some (ad (60 + k))) 3 3) _) = _
      rw [ob_of _ (q_s3 h hi)]
      rfl
    · rw [if_neg hi, if_neg hi]
      rfl) (fun a => rfl)
  rw [fold_most hs] at g
  exact g
theorem c_count (h : NH st ad (CT ad day nb ns nx gB wB cB sS bX f6 f7 g8 g9 Q)) (hb : nb ≤ 5) (hs : ns ≤ 8) (hx : nx ≤ 6) {k : Nat} (hk : k ≤ 7) : fX4_count st (ad 0) (nI k) = some (.inr (countV day nb ns nx gB sS bX k)) := by
  unfold fX4_count
  rw [xb_of _ (c_what_t (nI_pos (by omega)) (show ¬ (7 : Int32) < nI k from nI_nlt (a := 7) hk (by omega)))]
  unfold countV
  rcases (show k = 0 ∨ k = 1 ∨ k = 2 ∨ k = 3 ∨ k = 4 ∨ k = 5 ∨ k = 6 ∨ k = 7 by omega) with rfl | rfl | rfl | rfl | rfl | rfl | rfl | rfl
  · rw [if_pos (by decide), ob_of _ (q_day h)]; rfl
  · rw [if_neg (by decide), if_pos (by decide), ob_of _ (q_nb h)]; rfl
  · rw [if_neg (by decide), if_neg (by decide), if_pos (by decide), ob_of _ (q_ns h)]; rfl
  · rw [if_neg (by decide), if_neg (by decide), if_neg (by decide), if_pos (by decide), ob_of _ (q_nx h)]; rfl
  · rw [if_neg (by decide), if_neg (by decide), if_neg (by decide), if_neg (by decide), if_pos (by decide), ob_of _ (q_oR h), ob_of _ (c_filled h hx)]; rfl
  · rw [if_neg (by decide), if_neg (by decide), if_neg (by decide), if_neg (by decide), if_neg (by decide), if_pos (by decide), ob_of _ (q_oR h), ob_of _ (c_grams h hb)]; rfl
  · rw [if_neg (by decide), if_neg (by decide), if_neg (by decide), if_neg (by decide), if_neg (by decide), if_neg (by decide), if_pos (by decide), ob_of _ (q_oR h), ob_of _ (c_squaresAll h hs)]; rfl
  · rw [if_neg (by decide), if_neg (by decide), if_neg (by decide), if_neg (by decide), if_neg (by decide), if_neg (by decide), if_neg (by decide), ob_of _ (q_oR h), ob_of _ (c_bloomed h hs)]; rfl
end CCOUNT
