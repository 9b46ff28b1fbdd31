/-! THE METHODS AS FUNCTIONS OVER THE ABSTRACT HEAP, written by program out of the bytecode -/
/-- division of doubles that is no NaN -/
noncomputable def oDD (x y : UInt64) : Option UInt64 := @ite _ (vf_n64 (FP.ddiv x y)) (Classical.propDecidable _) (some (FP.ddiv x y)) none
theorem oDD_spec {x y z : UInt64} (h : oDD x y = some z) : vf_n64 (FP.ddiv x y) ∧ z = FP.ddiv x y := by
  unfold oDD at h
  split at h
  · rename_i h0
    cases h
    exact ⟨h0, rfl⟩
  · cases h
theorem r_ddivO {Y : DY} {cc : ByteArray} {own : String} {rm : Room} {cs ss pc : Nat} {st : DSt} {lv : List (Nat × DV)} {stk : List DV} {x y z : UInt64} (C : dm_C Y cc own rm) (hd : decode cc pc = .ok (.ddiv, 1)) (hz : oDD x y = some z) (k : dm_W Y cs ss st (pc + 1) lv (DD z :: stk)) : dm_W Y cs ss st pc lv (DD y :: DD x :: stk) := by
  obtain ⟨h0, rfl⟩ := oDD_spec hz
  exact r_ddiv C hd h0 k
theorem f0xI {x v : Int32} {s t : DSt} (h : some (Sum.inr (x, s) : (String × DHp) ⊕ (Int32 × DSt)) = some (.inr (v, t))) : some (DI x) = some (DI v) ∧ s = t := by cases h; exact ⟨rfl, rfl⟩
theorem f0pI {x v : Int32} {s : DSt} (h : some (Sum.inr x : (String × DHp) ⊕ Int32) = some (.inr v)) : some (DI x) = some (DI v) ∧ s = s := by cases h; exact ⟨rfl, rfl⟩
theorem f0pR {x v : Option Nat} {s : DSt} (h : some (Sum.inr x : (String × DHp) ⊕ Option Nat) = some (.inr v)) : some (DR x) = some (DR v) ∧ s = s := by cases h; exact ⟨rfl, rfl⟩
noncomputable def fX2_init (st : DSt) (x : Nat) : Option (DSt) :=
  oB (some (nC st (.inl (0, nI0 6)))) fun s1 =>
  oB (pV s1 (some x) 2 0 (DR (some st.1))) fun s2 =>
  some s2
noncomputable def fX0_init (st : DSt) (x : Nat) (a0 : Int32) : Option (DSt) :=
  oB (some (nC st (.inr (2, [DR none])))) fun s1 =>
  oB (fX2_init s1 st.1) fun q2 =>
  oB (pV q2 (some x) 0 0 (DR (some st.1))) fun s3 =>
  oB (pV s3 (some x) 0 1 (DI a0)) fun s4 =>
  oB (pV s4 (some x) 0 2 (DI 20)) fun s5 =>
  some s5
noncomputable def fX0_mixed (st : DSt) (x : Nat) (a0 : Int32) (a1 : Int32) (a2 : Int32) : Option (Int32) :=
  oB (gI st (some x) 0 1) fun v1 =>
  if 0 < (v1 + a2) then
    oB (gI st (some x) 0 1) fun v2 =>
    oB (oD ((a0 * v2) + (a1 * a2)) (v1 + a2)) fun v3 =>
    some v3
  else
    some a0
noncomputable def fX2_vanish_L2 (x : Nat) (z1 : DSt × Int32) : Option ((DSt × Int32) ⊕ (DSt × Int32)) :=
  if 5 < z1.2 then
    some (.inr (z1.1, z1.2))
  else
    oB (gR z1.1 (some x) 2 0) fun v2 =>
    oB (sI z1.1 v2 0 z1.2 0) fun s3 =>
    some (.inl (s3, (z1.2 + 1)))
noncomputable def fX2_vanish (st : DSt) (x : Nat) : Option (DSt) :=
  oB (dlp (fX2_vanish_L2 x) (st, 1)) fun b1 =>
  some b1.1
noncomputable def fX0_takeIn_L2 (x : Nat) (a0 : Option Nat) (z1 : DSt × Int32) : Option ((DSt × Int32) ⊕ (DSt × Int32)) :=
  if 5 < z1.2 then
    some (.inr (z1.1, z1.2))
  else
    oB (gR z1.1 (some x) 0 0) fun v2 =>
    oB (gR z1.1 v2 2 0) fun v3 =>
    oB (gR z1.1 (some x) 0 0) fun v4 =>
    oB (gR z1.1 v4 2 0) fun v5 =>
    oB (aI z1.1 v5 0 z1.2) fun v6 =>
    oB (gR z1.1 a0 0 0) fun v7 =>
    oB (gR z1.1 v7 2 0) fun v8 =>
    oB (aI z1.1 v8 0 z1.2) fun v9 =>
    oB (gI z1.1 a0 0 1) fun v10 =>
    oB (oR z1.1 (some x) 0) fun b11 =>
    oB (fX0_mixed z1.1 b11 v6 v9 v10) fun q12 =>
    oB (sI z1.1 v3 0 z1.2 q12) fun s13 =>
    some (.inl (s13, (z1.2 + 1)))
noncomputable def fX0_takeIn (st : DSt) (x : Nat) (a0 : Option Nat) : Option (DSt) :=
  oB (dlp (fX0_takeIn_L2 x a0) (st, 1)) fun b1 =>
  oB (gI b1.1 (some x) 0 2) fun v15 =>
  oB (gI b1.1 a0 0 2) fun v16 =>
  oB (gI b1.1 a0 0 1) fun v17 =>
  oB (oR b1.1 (some x) 0) fun b18 =>
  oB (fX0_mixed b1.1 b18 v15 v16 v17) fun q19 =>
  oB (pV b1.1 (some x) 0 2 (DI q19)) fun s20 =>
  oB (gI s20 (some x) 0 1) fun v21 =>
  oB (gI s20 a0 0 1) fun v22 =>
  oB (pV s20 (some x) 0 1 (DI (v21 + v22))) fun s23 =>
  oB (pV s23 a0 0 1 (DI 0)) fun s24 =>
  oB (gR s24 a0 0 0) fun v25 =>
  oB (oR s24 v25 2) fun b26 =>
  oB (fX2_vanish s24 b26) fun q27 =>
  some q27
noncomputable def fX1_init (st : DSt) (x : Nat) (a0 : Int32) (a1 : Int32) : Option (DSt) :=
  oB (pV st (some x) 1 0 (DI a0)) fun s1 =>
  oB (pV s1 (some x) 1 1 (DI a1)) fun s2 =>
  oB (pV s2 (some x) 1 3 (DI (-1))) fun s3 =>
  oB (pV s3 (some x) 1 4 (DI (-1))) fun s4 =>
  some s4
noncomputable def fX3_squares (st : DSt) (x : Nat) : Option (Int32) :=
  oB (gI st (some x) 3 1) fun v1 =>
  oB (gI st (some x) 3 2) fun v2 =>
  some (v1 * v2)
noncomputable def fX1_suits (st : DSt) (x : Nat) (a0 : Option Nat) (a1 : Int32) : Option (Int32) :=
  oB (oR st a0 3) fun b1 =>
  oB (fX3_squares st b1) fun q2 =>
  oB (gI st (some x) 1 0) fun v3 =>
  if q2 = v3 then
    oB (gI st a0 3 0) fun v5 =>
    oB (gI st (some x) 1 1) fun v6 =>
    if v5 < v6 then
      oB (oZ 0) fun v7 =>
      some v7
    else
      if 20 < a1 then
        oB (oZ 0) fun v8 =>
        some v8
      else
        oB (oZ 1) fun v9 =>
        some v9
  else
    oB (oZ 0) fun v4 =>
    some v4
noncomputable def fX1_take (st : DSt) (x : Nat) (a0 : Option Nat) : Option (DSt) :=
  oB (pV st (some x) 1 2 (DI 1)) fun s1 =>
  oB (gI s1 a0 3 0) fun v2 =>
  oB (pV s1 (some x) 1 3 (DI v2)) fun s3 =>
  oB (gI s3 a0 3 3) fun v4 =>
  oB (pV s3 (some x) 1 4 (DI v4)) fun s5 =>
  some s5
noncomputable def fX2_becomeLike_L2 (x : Nat) (a0 : Option Nat) (z1 : DSt × Int32) : Option ((DSt × Int32) ⊕ (DSt × Int32)) :=
  if 5 < z1.2 then
    some (.inr (z1.1, z1.2))
  else
    oB (gR z1.1 (some x) 2 0) fun v2 =>
    oB (gR z1.1 a0 2 0) fun v3 =>
    oB (aI z1.1 v3 0 z1.2) fun v4 =>
    oB (sI z1.1 v2 0 z1.2 v4) fun s5 =>
    some (.inl (s5, (z1.2 + 1)))
noncomputable def fX2_becomeLike (st : DSt) (x : Nat) (a0 : Option Nat) : Option (DSt) :=
  oB (dlp (fX2_becomeLike_L2 x a0) (st, 1)) fun b1 =>
  some b1.1
noncomputable def fX2_meltingPoint (st : DSt) (a0 : Int32) : Option (Int32) :=
  some (15 + (4 * a0))
noncomputable def fX2_halveWhatMelts_L2 (x : Nat) (a0 : Int32) (z1 : DSt × Int32) : Option ((DSt × Int32) ⊕ (DSt × Int32)) :=
  if 5 < z1.2 then
    some (.inr (z1.1, z1.2))
  else
    oB (fX2_meltingPoint z1.1 z1.2) fun q2 =>
    if a0 < q2 then
      some (.inl (z1.1, (z1.2 + 1)))
    else
      oB (gR z1.1 (some x) 2 0) fun v3 =>
      oB (aI z1.1 v3 0 z1.2) fun v4 =>
      oB (oD v4 2) fun v5 =>
      oB (sI z1.1 v3 0 z1.2 v5) fun s6 =>
      some (.inl (s6, (z1.2 + 1)))
noncomputable def fX2_halveWhatMelts (st : DSt) (x : Nat) (a0 : Int32) : Option (DSt) :=
  oB (dlp (fX2_halveWhatMelts_L2 x a0) (st, 1)) fun b1 =>
  some b1.1
noncomputable def fX2_growingSort_L2 (st : DSt) (a0 : Int32) (z1 : Int32) : Option ((Int32) ⊕ ((Int32) ⊕ (Int32))) :=
  if 5 < z1 then
    some (.inr (.inl z1))
  else
    oB (fX2_meltingPoint st z1) fun q2 =>
    if q2 ≤ (a0 + 3) then
      some (.inl (z1 + 1))
    else
      some (.inr (.inr z1))
noncomputable def fX2_growingSort (st : DSt) (a0 : Int32) : Option (Int32) :=
  oB (dlp (fX2_growingSort_L2 st a0) 1) fun b1 =>
  match b1 with
  | .inr r9 => some r9
  | .inl yb1 =>
    some 5
noncomputable def fX2_total_L4 (st : DSt) (x : Nat) (z1 : Int32 × Int32) : Option ((Int32 × Int32) ⊕ (Int32 × Int32)) :=
  if 5 < z1.2 then
    some (.inr (z1.1, z1.2))
  else
    oB (gR st (some x) 2 0) fun v2 =>
    oB (aI st v2 0 z1.2) fun v3 =>
    some (.inl ((z1.1 + v3), (z1.2 + 1)))
noncomputable def fX2_total (st : DSt) (x : Nat) : Option (Int32) :=
  oB (dlp (fX2_total_L4 st x) (0, 1)) fun b1 =>
  some b1.1
noncomputable def fX2_increase (st : DSt) (x : Nat) (a0 : Int32) (a1 : Int32) : Option (DSt) :=
  oB (gR st (some x) 2 0) fun v1 =>
  oB (aI st v1 0 a0) fun v2 =>
  oB (oR st (some x) 2) fun b3 =>
  oB (fX2_total st b3) fun q4 =>
  oB (sI st v1 0 a0 (v2 + (jmax 0 (jmin a1 (100 - q4))))) fun s5 =>
  some s5
noncomputable def fX2_letGrow (st : DSt) (x : Nat) (a0 : Int32) : Option (DSt) :=
  if 34 ≤ a0 then
    some st
  else
    oB (fX2_growingSort st a0) fun q1 =>
    oB (gR st (some x) 2 0) fun v2 =>
    oB (aI st v2 0 q1) fun v3 =>
    oB (oD v3 4) fun v4 =>
    oB (oR st (some x) 2) fun b5 =>
    oB (fX2_increase st b5 q1 (8 + v4)) fun q6 =>
    some q6
noncomputable def fX2_keepAt_L2 (x : Nat) (a0 : Int32) (a1 : Int32) (z1 : DSt × Int32) : Option ((DSt × Int32) ⊕ (DSt × Int32)) :=
  if a1 ≤ z1.2 then
    some (.inr (z1.1, z1.2))
  else
    oB (oR z1.1 (some x) 2) fun b2 =>
    oB (fX2_halveWhatMelts z1.1 b2 a0) fun q3 =>
    oB (oR q3 (some x) 2) fun b4 =>
    oB (fX2_letGrow q3 b4 a0) fun q5 =>
    some (.inl (q5, (z1.2 + 1)))
noncomputable def fX2_keepAt (st : DSt) (x : Nat) (a0 : Int32) (a1 : Int32) : Option (DSt) :=
  oB (dlp (fX2_keepAt_L2 x a0 a1) (st, 0)) fun b1 =>
  some b1.1
noncomputable def fX2_temper (st : DSt) (x : Nat) : Option (Int32) :=
  oB (gR st (some x) 2 0) fun v1 =>
  oB (aI st v1 0 5) fun v2 =>
  oB (gR st (some x) 2 0) fun v3 =>
  oB (aI st v3 0 4) fun v4 =>
  oB (gR st (some x) 2 0) fun v5 =>
  oB (aI st v5 0 1) fun v6 =>
  oB (gR st (some x) 2 0) fun v7 =>
  oB (aI st v7 0 2) fun v8 =>
  oB (gR st (some x) 2 0) fun v9 =>
  oB (aI st v9 0 3) fun v10 =>
  some (jmax 0 (jmin (((((2 * v2) + v4) - v6) - v8) - v10) 100))
noncomputable def fX3_init (st : DSt) (x : Nat) (a0 : Int32) (a1 : Int32) (a2 : Int32) : Option (DSt) :=
  oB (pV st (some x) 3 1 (DI a0)) fun s1 =>
  oB (pV s1 (some x) 3 2 (DI a1)) fun s2 =>
  oB (pV s2 (some x) 3 0 (DI a2)) fun s3 =>
  some s3
noncomputable def fX3_grams (st : DSt) (x : Nat) : Option (Int32) :=
  oB (oR st (some x) 3) fun b1 =>
  oB (fX3_squares st b1) fun q2 =>
  some (q2 * 10)
noncomputable def fX3_isBloomed (st : DSt) (x : Nat) : Option (Int32) :=
  oB (gI st (some x) 3 3) fun v1 =>
  if v1 ≤ 20 then
    oB (oZ 0) fun v2 =>
    some v2
  else
    oB (oZ 1) fun v3 =>
    some v3
noncomputable def fX3_bloomBehindPolish (st : DSt) (x : Nat) : Option (Int32) :=
  oB (gI st (some x) 3 3) fun v1 =>
  some (jmax 0 (v1 - 15))
noncomputable def fX3_bloomOfADay (st : DSt) (x : Nat) (a0 : Int32) : Option (Int32) :=
  oB (gI st (some x) 3 0) fun v1 =>
  oB (oD (100 - v1) 10) fun v2 =>
  some (v2 + (2 * (jmax 0 (a0 - 24))))
noncomputable def fX3_standFor (st : DSt) (x : Nat) (a0 : Int32) (a1 : Int32) : Option (DSt) :=
  oB (gI st (some x) 3 3) fun v1 =>
  oB (oR st (some x) 3) fun b2 =>
  oB (fX3_bloomOfADay st b2 a1) fun q3 =>
  oB (pV st (some x) 3 3 (DI (jmin 100 (v1 + (a0 * q3))))) fun s4 =>
  oB (gI s4 (some x) 3 4) fun v5 =>
  oB (pV s4 (some x) 3 4 (DI (v5 + a0))) fun s6 =>
  some s6
noncomputable def fX3_partBehind (st : DSt) (x : Nat) (a0 : Int32) (a1 : Int32) : Option (Option Nat × DSt) :=
  if a1 = 0 then
    oB (some (nC st (.inr (3, [DI 0, DI 0, DI 0, DI 0, DI 0])))) fun s1 =>
    oB (gI s1 (some x) 3 1) fun v2 =>
    oB (gI s1 (some x) 3 2) fun v3 =>
    oB (gI s1 (some x) 3 0) fun v4 =>
    oB (fX3_init s1 st.1 (v2 - a0) v3 v4) fun q5 =>
    oB (gI q5 (some x) 3 3) fun v6 =>
    oB (pV q5 (some st.1) 3 3 (DI v6)) fun s7 =>
    oB (gI s7 (some x) 3 4) fun v8 =>
    oB (pV s7 (some st.1) 3 4 (DI v8)) fun s9 =>
    some ((some st.1), s9)
  else
    oB (some (nC st (.inr (3, [DI 0, DI 0, DI 0, DI 0, DI 0])))) fun s10 =>
    oB (gI s10 (some x) 3 1) fun v11 =>
    oB (gI s10 (some x) 3 2) fun v12 =>
    oB (gI s10 (some x) 3 0) fun v13 =>
    oB (fX3_init s10 st.1 v11 (v12 - a0) v13) fun q14 =>
    oB (gI q14 (some x) 3 3) fun v15 =>
    oB (pV q14 (some st.1) 3 3 (DI v15)) fun s16 =>
    oB (gI s16 (some x) 3 4) fun v17 =>
    oB (pV s16 (some st.1) 3 4 (DI v17)) fun s18 =>
    some ((some st.1), s18)
noncomputable def fX3_cutDownTo (st : DSt) (x : Nat) (a0 : Int32) (a1 : Int32) : Option (DSt) :=
  if a1 = 0 then
    oB (pV st (some x) 3 1 (DI a0)) fun s1 =>
    some s1
  else
    oB (pV st (some x) 3 2 (DI a0)) fun s2 =>
    some s2
noncomputable def fX4_init (st : DSt) (x : Nat) : Option (DSt) :=
  oB (some (nC st (.inl (2, nR0 5)))) fun s1 =>
  oB (pV s1 (some x) 4 0 (DR (some st.1))) fun s2 =>
  oB (some (nC s2 (.inl (3, nR0 8)))) fun s3 =>
  oB (pV s3 (some x) 4 1 (DR (some s2.1))) fun s4 =>
  oB (some (nC s4 (.inl (4, nR0 6)))) fun s5 =>
  oB (pV s5 (some x) 4 2 (DR (some s4.1))) fun s6 =>
  oB (some (nC s6 (.inr (2, [DR none])))) fun s7 =>
  oB (fX2_init s7 s6.1) fun q8 =>
  oB (pV q8 (some x) 4 7 (DR (some s6.1))) fun s9 =>
  oB (some (nC s9 (.inr (2, [DR none])))) fun s10 =>
  oB (fX2_init s10 s9.1) fun q11 =>
  oB (pV q11 (some x) 4 8 (DR (some s9.1))) fun s12 =>
  oB (some (nC s12 (.inl (0, nI0 6)))) fun s13 =>
  oB (pV s13 (some x) 4 9 (DR (some s12.1))) fun s14 =>
  oB (some (nC s14 (.inl (1, nI0 8)))) fun s15 =>
  oB (pV s15 (some x) 4 10 (DR (some s14.1))) fun s16 =>
  some s16
noncomputable def fX4_bowl (st : DSt) (x : Nat) (a0 : Int32) : Option ((String × DHp) ⊕ (Int32 × DSt)) :=
  if a0 < 0 then
    some (.inl ("java/lang/IllegalArgumentException", st.2))
  else
    if a0 ≤ 2000 then
      oB (gI st (some x) 4 3) fun v1 =>
      if v1 < 5 then
        oB (gR st (some x) 4 0) fun v2 =>
        oB (some (nC st (.inr (0, [DR none, DI 0, DI 0])))) fun s3 =>
        oB (fX0_init s3 st.1 a0) fun q4 =>
        oB (sR q4 v2 2 0 v1 (some st.1)) fun s5 =>
        oB (pV s5 (some x) 4 3 (DI (v1 + 1))) fun s6 =>
        some (.inr (v1, s6))
      else
        some (.inl ("java/lang/IllegalStateException", st.2))
    else
      some (.inl ("java/lang/IllegalArgumentException", st.2))
noncomputable def fX4_bowlAt (st : DSt) (x : Nat) (a0 : Int32) : Option ((String × DHp) ⊕ (Option Nat)) :=
  if a0 < 0 then
    some (.inl ("java/lang/IndexOutOfBoundsException", st.2))
  else
    if a0 < 5 then
      oB (gR st (some x) 4 0) fun v2 =>
      oB (aR st v2 2 a0) fun v3 =>
      oN v3 (
        some (.inl ("java/lang/IndexOutOfBoundsException", st.2))
      ) fun n5 =>
      some (.inr (some n5))
    else
      some (.inl ("java/lang/IndexOutOfBoundsException", st.2))
noncomputable def fX4_checkWarming (st : DSt) (a0 : Int32) (a1 : Int32) : Option ((String × DHp) ⊕ (Unit)) :=
  if a0 < 15 then
    some (.inl ("java/lang/IllegalArgumentException", st.2))
  else
    if 50 < a0 then
      some (.inl ("java/lang/IllegalArgumentException", st.2))
    else
      if a1 < 1 then
        some (.inl ("java/lang/IllegalArgumentException", st.2))
      else
        if a1 ≤ 40 then
          some (.inr ())
        else
          some (.inl ("java/lang/IllegalArgumentException", st.2))
noncomputable def fX4_warm (st : DSt) (x : Nat) (a0 : Int32) (a1 : Int32) (a2 : Int32) : Option ((String × DHp) ⊕ (Int32 × DSt)) :=
  oB (oR st (some x) 4) fun b1 =>
  xB (fX4_bowlAt st b1 a0) fun q2 =>
  xB (fX4_checkWarming st a1 a2) fun q3 =>
  oB (pV st q2 0 2 (DI a1)) fun s4 =>
  oB (gR s4 q2 0 0) fun v5 =>
  oB (oR s4 v5 2) fun b6 =>
  oB (fX2_keepAt s4 b6 a1 a2) fun q7 =>
  oB (gR q7 q2 0 0) fun v8 =>
  oB (oR q7 v8 2) fun b9 =>
  oB (fX2_temper q7 b9) fun q10 =>
  some (.inr (q10, q7))
noncomputable def fX4_seed (st : DSt) (x : Nat) (a0 : Int32) (a1 : Int32) : Option ((String × DHp) ⊕ (Int32 × DSt)) :=
  oB (oR st (some x) 4) fun b1 =>
  xB (fX4_bowlAt st b1 a0) fun q2 =>
  if a1 < 1 then
    some (.inl ("java/lang/IllegalArgumentException", st.2))
  else
    if a1 ≤ 30 then
      oB (gR st q2 0 0) fun v3 =>
      oB (oR st v3 2) fun b4 =>
      oB (fX2_increase st b4 5 a1) fun q5 =>
      oB (gR q5 q2 0 0) fun v6 =>
      oB (gR q5 v6 2 0) fun v7 =>
      oB (aI q5 v7 0 5) fun v8 =>
      some (.inr (v8, q5))
    else
      some (.inl ("java/lang/IllegalArgumentException", st.2))
noncomputable def fX4_pour (st : DSt) (x : Nat) (a0 : Int32) (a1 : Int32) : Option ((String × DHp) ⊕ (Int32 × DSt)) :=
  oB (oR st (some x) 4) fun b1 =>
  xB (fX4_bowlAt st b1 a0) fun q2 =>
  oB (oR st (some x) 4) fun b3 =>
  xB (fX4_bowlAt st b3 a1) fun q4 =>
  oB (gI st q2 0 1) fun v5 =>
  oB (gI st q4 0 1) fun v6 =>
  if a0 = a1 then
    some (.inl ("java/lang/IllegalArgumentException", st.2))
  else
    if (v5 + v6) = 0 then
      some (.inl ("java/lang/IllegalArgumentException", st.2))
    else
      if (v5 + v6) ≤ 2000 then
        oB (oR st q4 0) fun b7 =>
        oB (fX0_takeIn st b7 q2) fun q8 =>
        oB (gI q8 q4 0 1) fun v9 =>
        some (.inr (v9, q8))
      else
        some (.inl ("java/lang/IllegalArgumentException", st.2))
noncomputable def fX4_addSlab (st : DSt) (x : Nat) (a0 : Option Nat) : Option ((String × DHp) ⊕ (Int32 × DSt)) :=
  oB (gI st (some x) 4 4) fun v1 =>
  if v1 < 8 then
    oB (gR st (some x) 4 1) fun v2 =>
    oB (sR st v2 3 3 v1 a0) fun s3 =>
    oB (pV s3 (some x) 4 4 (DI (v1 + 1))) fun s4 =>
    some (.inr (v1, s4))
  else
    some (.inl ("java/lang/IllegalStateException", st.2))
noncomputable def fX4_cast (st : DSt) (x : Nat) (a0 : Int32) (a1 : Int32) (a2 : Int32) : Option ((String × DHp) ⊕ (Int32 × DSt)) :=
  oB (oR st (some x) 4) fun b1 =>
  xB (fX4_bowlAt st b1 a0) fun q2 =>
  if a1 < 1 then
    some (.inl ("java/lang/IllegalArgumentException", st.2))
  else
    if 6 < a1 then
      some (.inl ("java/lang/IllegalArgumentException", st.2))
    else
      if a2 < 1 then
        some (.inl ("java/lang/IllegalArgumentException", st.2))
      else
        if a2 ≤ 6 then
          oB (some (nC st (.inr (3, [DI 0, DI 0, DI 0, DI 0, DI 0])))) fun s3 =>
          oB (gR s3 q2 0 0) fun v4 =>
          oB (oR s3 v4 2) fun b5 =>
          oB (fX2_temper s3 b5) fun q6 =>
          oB (fX3_init s3 st.1 a1 a2 q6) fun q7 =>
          oB (gI q7 q2 0 1) fun v8 =>
          oB (oR q7 (some st.1) 3) fun b9 =>
          oB (fX3_grams q7 b9) fun q10 =>
          if q10 ≤ v8 then
            oB (oR q7 (some x) 4) fun b11 =>
            xB (fX4_addSlab q7 b11 (some st.1)) fun q12 =>
            oB (gI q12.2 q2 0 1) fun v13 =>
            oB (oR q12.2 (some st.1) 3) fun b14 =>
            oB (fX3_grams q12.2 b14) fun q15 =>
            oB (pV q12.2 q2 0 1 (DI (v13 - q15))) fun s16 =>
            some (.inr (q12.1, s16))
          else
            some (.inl ("java/lang/IllegalStateException", q7.2))
        else
          some (.inl ("java/lang/IllegalArgumentException", st.2))
noncomputable def fX4_findSlab (st : DSt) (x : Nat) (a0 : Int32) : Option (Option Nat) :=
  if a0 < 0 then
    some none
  else
    if a0 < 8 then
      oB (gR st (some x) 4 1) fun v1 =>
      oB (aR st v1 3 a0) fun v2 =>
      some v2
    else
      some none
noncomputable def fX4_slabAt (st : DSt) (x : Nat) (a0 : Int32) : Option ((String × DHp) ⊕ (Option Nat)) :=
  oB (oR st (some x) 4) fun b1 =>
  oB (fX4_findSlab st b1 a0) fun q2 =>
  oN q2 (
    some (.inl ("java/lang/IndexOutOfBoundsException", st.2))
  ) fun n4 =>
  some (.inr (some n4))
noncomputable def fX4_polish (st : DSt) (x : Nat) (a0 : Int32) : Option ((String × DHp) ⊕ (Int32 × DSt)) :=
  oB (oR st (some x) 4) fun b1 =>
  xB (fX4_slabAt st b1 a0) fun q2 =>
  oB (oR st q2 3) fun b3 =>
  oB (fX3_bloomBehindPolish st b3) fun q4 =>
  oB (pV st q2 3 3 (DI q4)) fun s5 =>
  oB (gI s5 q2 3 3) fun v6 =>
  some (.inr (v6, s5))
noncomputable def fX4_split (st : DSt) (x : Nat) (a0 : Int32) (a1 : Int32) (a2 : Int32) : Option ((String × DHp) ⊕ (Int32 × DSt)) :=
  oB (oR st (some x) 4) fun b1 =>
  xB (fX4_slabAt st b1 a0) fun q2 =>
  if a2 = 0 then
    oB (gI st q2 3 1) fun v3 =>
    if a1 < 1 then
      some (.inl ("java/lang/IndexOutOfBoundsException", st.2))
    else
      if a1 < v3 then
        oB (oR st q2 3) fun b4 =>
        oB (fX3_partBehind st b4 a1 a2) fun q5 =>
        oB (oR q5.2 (some x) 4) fun b6 =>
        xB (fX4_addSlab q5.2 b6 q5.1) fun q7 =>
        oB (oR q7.2 q2 3) fun b8 =>
        oB (fX3_cutDownTo q7.2 b8 a1 a2) fun q9 =>
        some (.inr (q7.1, q9))
      else
        some (.inl ("java/lang/IndexOutOfBoundsException", st.2))
  else
    oB (gI st q2 3 2) fun v12 =>
    if a1 < 1 then
      some (.inl ("java/lang/IndexOutOfBoundsException", st.2))
    else
      if a1 < v12 then
        oB (oR st q2 3) fun b13 =>
        oB (fX3_partBehind st b13 a1 a2) fun q14 =>
        oB (oR q14.2 (some x) 4) fun b15 =>
        xB (fX4_addSlab q14.2 b15 q14.1) fun q16 =>
        oB (oR q16.2 q2 3) fun b17 =>
        oB (fX3_cutDownTo q16.2 b17 a1 a2) fun q18 =>
        some (.inr (q16.1, q18))
      else
        some (.inl ("java/lang/IndexOutOfBoundsException", st.2))
noncomputable def fX4_closeGaps_L4 (x : Nat) (z1 : DSt × Int32 × Int32) : Option ((DSt × Int32 × Int32) ⊕ (DSt × Int32 × Int32)) :=
  if 8 ≤ z1.2.2 then
    some (.inr (z1.1, z1.2.1, z1.2.2))
  else
    oB (gR z1.1 (some x) 4 1) fun v2 =>
    oB (aR z1.1 v2 3 z1.2.2) fun v3 =>
    oB (gR z1.1 (some x) 4 1) fun v4 =>
    oB (sR z1.1 v4 3 3 z1.2.2 none) fun s5 =>
    oN v3 (
      some (.inl (s5, z1.2.1, (z1.2.2 + 1)))
    ) fun n7 =>
    oB (gR s5 (some x) 4 1) fun v8 =>
    oB (sR s5 v8 3 3 z1.2.1 (some n7)) fun s9 =>
    some (.inl (s9, (z1.2.1 + 1), (z1.2.2 + 1)))
noncomputable def fX4_closeGaps (st : DSt) (x : Nat) : Option (DSt) :=
  oB (dlp (fX4_closeGaps_L4 x) (st, 0, 0)) fun b1 =>
  oB (pV b1.1 (some x) 4 4 (DI b1.2.1)) fun s11 =>
  some s11
noncomputable def fX4_melt (st : DSt) (x : Nat) (a0 : Int32) (a1 : Int32) : Option ((String × DHp) ⊕ (Int32 × DSt)) :=
  oB (oR st (some x) 4) fun b1 =>
  xB (fX4_slabAt st b1 a0) fun q2 =>
  oB (oR st q2 3) fun b3 =>
  oB (fX3_grams st b3) fun q4 =>
  oB (oR st (some x) 4) fun b5 =>
  xB (fX4_bowlAt st b5 a1) fun q6 =>
  oB (gI st q6 0 1) fun v7 =>
  if (v7 + q4) ≤ 2000 then
    oB (gI st q6 0 1) fun v8 =>
    oB (pV st q6 0 1 (DI (v8 + q4))) fun s9 =>
    oB (gR s9 (some x) 4 1) fun v10 =>
    oB (sR s9 v10 3 3 a0 none) fun s11 =>
    oB (oR s11 (some x) 4) fun b12 =>
    oB (fX4_closeGaps s11 b12) fun q13 =>
    oB (gI q13 q6 0 1) fun v14 =>
    some (.inr (v14, q13))
  else
    some (.inl ("java/lang/IllegalArgumentException", st.2))
noncomputable def fX4_box (st : DSt) (x : Nat) (a0 : Int32) (a1 : Int32) : Option ((String × DHp) ⊕ (Int32 × DSt)) :=
  if a0 < 1 then
    some (.inl ("java/lang/IllegalArgumentException", st.2))
  else
    if 36 < a0 then
      some (.inl ("java/lang/IllegalArgumentException", st.2))
    else
      if a1 < 0 then
        some (.inl ("java/lang/IllegalArgumentException", st.2))
      else
        if a1 ≤ 100 then
          oB (gI st (some x) 4 5) fun v1 =>
          if v1 < 6 then
            oB (gR st (some x) 4 2) fun v2 =>
            oB (some (nC st (.inr (1, [DI 0, DI 0, DI 0, DI 0, DI 0])))) fun s3 =>
            oB (fX1_init s3 st.1 a0 a1) fun q4 =>
            oB (sR q4 v2 4 1 v1 (some st.1)) fun s5 =>
            oB (pV s5 (some x) 4 5 (DI (v1 + 1))) fun s6 =>
            some (.inr (v1, s6))
          else
            some (.inl ("java/lang/IllegalStateException", st.2))
        else
          some (.inl ("java/lang/IllegalArgumentException", st.2))
noncomputable def fX4_planSlab_L2 (x : Nat) (a0 : Option Nat) (a1 : Int32) (z1 : DSt × Int32) : Option ((DSt × Int32) ⊕ ((DSt × Int32) ⊕ (Int32 × DSt))) :=
  if 8 ≤ z1.2 then
    some (.inr (.inl (z1.1, z1.2)))
  else
    oB (gR z1.1 (some x) 4 1) fun v2 =>
    oB (aR z1.1 v2 3 z1.2) fun v3 =>
    oN v3 (
      some (.inl (z1.1, (z1.2 + 1)))
    ) fun n5 =>
    oB (gR z1.1 (some x) 4 10) fun v6 =>
    oB (aI z1.1 v6 1 z1.2) fun v7 =>
    if v7 = 0 then
      if z1.2 = a1 then
        oB (oR z1.1 (some n5) 3) fun b14 =>
        oB (fX3_bloomBehindPolish z1.1 b14) fun q15 =>
        oB (oR z1.1 a0 1) fun b16 =>
        oB (fX1_suits z1.1 b16 (some n5) q15) fun q17 =>
        if q17 = 0 then
          some (.inl (z1.1, (z1.2 + 1)))
        else
          oB (gR z1.1 (some x) 4 10) fun v18 =>
          oB (sI z1.1 v18 1 z1.2 (vp_nar .boolean 1)) fun s19 =>
          some (.inr (.inr (z1.2, s19)))
      else
        oB (gI z1.1 (some n5) 3 3) fun v8 =>
        oB (oR z1.1 a0 1) fun b9 =>
        oB (fX1_suits z1.1 b9 (some n5) v8) fun q10 =>
        if q10 = 0 then
          some (.inl (z1.1, (z1.2 + 1)))
        else
          oB (gR z1.1 (some x) 4 10) fun v11 =>
          oB (sI z1.1 v11 1 z1.2 (vp_nar .boolean 1)) fun s12 =>
          some (.inr (.inr (z1.2, s12)))
    else
      some (.inl (z1.1, (z1.2 + 1)))
noncomputable def fX4_planSlab (st : DSt) (x : Nat) (a0 : Option Nat) (a1 : Int32) : Option (Int32 × DSt) :=
  oB (dlp (fX4_planSlab_L2 x a0 a1) (st, 0)) fun b1 =>
  match b1 with
  | .inr r9 => some r9
  | .inl yb1 =>
    some ((-1), yb1.1)
noncomputable def fX4_planFilling_L2 (x : Nat) (z1 : DSt × Int32) : Option ((DSt × Int32) ⊕ (DSt × Int32)) :=
  if 8 ≤ z1.2 then
    some (.inr (z1.1, z1.2))
  else
    oB (gR z1.1 (some x) 4 10) fun v2 =>
    oB (sI z1.1 v2 1 z1.2 (vp_nar .boolean 0)) fun s3 =>
    some (.inl (s3, (z1.2 + 1)))
noncomputable def fX4_planFilling_L25 (x : Nat) (a0 : Int32) (z5 : DSt × Int32 × Int32) : Option ((DSt × Int32 × Int32) ⊕ (DSt × Int32 × Int32)) :=
  if 6 ≤ z5.2.2 then
    some (.inr (z5.1, z5.2.1, z5.2.2))
  else
    oB (gR z5.1 (some x) 4 2) fun v6 =>
    oB (aR z5.1 v6 4 z5.2.2) fun v7 =>
    oB (gR z5.1 (some x) 4 9) fun v8 =>
    oN v7 (
      oB (sI z5.1 v8 0 z5.2.2 (-1)) fun s11 =>
      oB (gR s11 (some x) 4 9) fun v12 =>
      oB (aI s11 v12 0 z5.2.2) fun v13 =>
      if v13 = (-1) then
        some (.inl (s11, z5.2.1, (z5.2.2 + 1)))
      else
        some (.inl (s11, (z5.2.1 + 1), (z5.2.2 + 1)))
    ) fun n10 =>
    oB (gI z5.1 (some n10) 1 2) fun v15 =>
    if v15 = 0 then
      oB (oR z5.1 (some x) 4) fun b16 =>
      oB (fX4_planSlab z5.1 b16 (some n10) a0) fun q17 =>
      oB (sI q17.2 v8 0 z5.2.2 q17.1) fun s18 =>
      oB (gR s18 (some x) 4 9) fun v19 =>
      oB (aI s18 v19 0 z5.2.2) fun v20 =>
      if v20 = (-1) then
        some (.inl (s18, z5.2.1, (z5.2.2 + 1)))
      else
        some (.inl (s18, (z5.2.1 + 1), (z5.2.2 + 1)))
    else
      oB (sI z5.1 v8 0 z5.2.2 (-1)) fun s22 =>
      oB (gR s22 (some x) 4 9) fun v23 =>
      oB (aI s22 v23 0 z5.2.2) fun v24 =>
      if v24 = (-1) then
        some (.inl (s22, z5.2.1, (z5.2.2 + 1)))
      else
        some (.inl (s22, (z5.2.1 + 1), (z5.2.2 + 1)))
noncomputable def fX4_planFilling (st : DSt) (x : Nat) (a0 : Int32) : Option (Int32 × DSt) :=
  oB (dlp (fX4_planFilling_L2 x) (st, 0)) fun b1 =>
  oB (dlp (fX4_planFilling_L25 x a0) (b1.1, 0, 0)) fun b5 =>
  some (b5.2.1, b5.1)
noncomputable def fX4_moveIntoBox (st : DSt) (x : Nat) (a0 : Int32) (a1 : Option Nat) : Option (DSt) :=
  oB (oR st (some x) 4) fun b1 =>
  oB (fX4_findSlab st b1 a0) fun q2 =>
  oN q2 (
    some st
  ) fun n4 =>
  oN a1 (
    some st
  ) fun n6 =>
  oB (oR st (some n6) 1) fun b7 =>
  oB (fX1_take st b7 (some n4)) fun q8 =>
  oB (gR q8 (some x) 4 1) fun v9 =>
  oB (sR q8 v9 3 3 a0 none) fun s10 =>
  some s10
noncomputable def fX4_fill_L8 (x : Nat) (z3 : DSt × Int32) : Option ((DSt × Int32) ⊕ (DSt × Int32)) :=
  if 6 ≤ z3.2 then
    some (.inr (z3.1, z3.2))
  else
    oB (gR z3.1 (some x) 4 9) fun v4 =>
    oB (aI z3.1 v4 0 z3.2) fun v5 =>
    oB (gR z3.1 (some x) 4 2) fun v6 =>
    oB (aR z3.1 v6 4 z3.2) fun v7 =>
    oB (oR z3.1 (some x) 4) fun b8 =>
    oB (fX4_moveIntoBox z3.1 b8 v5 v7) fun q9 =>
    some (.inl (q9, (z3.2 + 1)))
noncomputable def fX4_fill (st : DSt) (x : Nat) : Option (Int32 × DSt) :=
  oB (oR st (some x) 4) fun b1 =>
  oB (fX4_planFilling st b1 (-1)) fun q2 =>
  oB (dlp (fX4_fill_L8 x) (q2.2, 0)) fun b3 =>
  oB (oR b3.1 (some x) 4) fun b11 =>
  oB (fX4_closeGaps b3.1 b11) fun q12 =>
  some (q2.1, q12)
noncomputable def fX4_checkRoom (st : DSt) (a0 : Int32) : Option ((String × DHp) ⊕ (Unit)) :=
  if a0 < 10 then
    some (.inl ("java/lang/IllegalArgumentException", st.2))
  else
    if a0 ≤ 40 then
      some (.inr ())
    else
      some (.inl ("java/lang/IllegalArgumentException", st.2))
noncomputable def fX4_bloomedSlabs_L13 (st : DSt) (v1 : Option Nat) (v2 : Int32) (z3 : Int32 × Int32) : Option ((Int32 × Int32) ⊕ (Int32 × Int32)) :=
  if v2 ≤ z3.2 then
    some (.inr (z3.1, z3.2))
  else
    oB (aR st v1 3 z3.2) fun v4 =>
    oN v4 (
      some (.inl (z3.1, (z3.2 + 1)))
    ) fun n6 =>
    oB (oR st (some n6) 3) fun b7 =>
    oB (fX3_isBloomed st b7) fun q8 =>
    if q8 = 0 then
      some (.inl (z3.1, (z3.2 + 1)))
    else
      some (.inl ((z3.1 + 1), (z3.2 + 1)))
noncomputable def fX4_bloomedSlabs (st : DSt) (x : Nat) : Option (Int32) :=
  oB (gR st (some x) 4 1) fun v1 =>
  oB (aN st v1 3) fun v2 =>
  oB (dlp (fX4_bloomedSlabs_L13 st v1 v2) (0, 0)) fun b3 =>
  some b3.1
noncomputable def fX4_pass_L37 (a0 : Int32) (a1 : Int32) (v2 : Option Nat) (v3 : Int32) (z4 : DSt × Int32) : Option ((DSt × Int32) ⊕ (DSt × Int32)) :=
  if v3 ≤ z4.2 then
    some (.inr (z4.1, z4.2))
  else
    oB (aR z4.1 v2 3 z4.2) fun v5 =>
    oN v5 (
      some (.inl (z4.1, (z4.2 + 1)))
    ) fun n7 =>
    oB (oR z4.1 (some n7) 3) fun b8 =>
    oB (fX3_standFor z4.1 b8 a1 a0) fun q9 =>
    some (.inl (q9, (z4.2 + 1)))
noncomputable def fX4_pass (st : DSt) (x : Nat) (a0 : Int32) (a1 : Int32) : Option ((String × DHp) ⊕ (Int32 × DSt)) :=
  xB (fX4_checkRoom st a0) fun q1 =>
  if a1 < 1 then
    some (.inl ("java/lang/IllegalArgumentException", st.2))
  else
    if a1 ≤ 60 then
      oB (gR st (some x) 4 1) fun v2 =>
      oB (aN st v2 3) fun v3 =>
      oB (dlp (fX4_pass_L37 a0 a1 v2 v3) (st, 0)) fun b4 =>
      oB (gI b4.1 (some x) 4 6) fun v11 =>
      oB (pV b4.1 (some x) 4 6 (DI (v11 + a1))) fun s12 =>
      oB (oR s12 (some x) 4) fun b13 =>
      oB (fX4_bloomedSlabs s12 b13) fun q14 =>
      some (.inr (q14, s12))
    else
      some (.inl ("java/lang/IllegalArgumentException", st.2))
noncomputable def fX4_checkWhat (st : DSt) (a0 : Int32) (a1 : Int32) : Option ((String × DHp) ⊕ (Unit)) :=
  if a0 < 0 then
    some (.inl ("java/lang/IndexOutOfBoundsException", st.2))
  else
    if a0 ≤ a1 then
      some (.inr ())
    else
      some (.inl ("java/lang/IndexOutOfBoundsException", st.2))
noncomputable def fX4_told (st : DSt) (x : Nat) (a0 : Int32) (a1 : Int32) : Option ((String × DHp) ⊕ (Int32)) :=
  oB (oR st (some x) 4) fun b1 =>
  xB (fX4_bowlAt st b1 a0) fun q2 =>
  xB (fX4_checkWhat st a1 7) fun q3 =>
  if a1 = 0 then
    oB (gI st q2 0 1) fun v13 =>
    some (.inr v13)
  else
    if 5 < a1 then
      if a1 = 6 then
        oB (gI st q2 0 2) fun v7 =>
        some (.inr v7)
      else
        oB (gR st q2 0 0) fun v4 =>
        oB (oR st v4 2) fun b5 =>
        oB (fX2_temper st b5) fun q6 =>
        some (.inr q6)
    else
      oB (gR st q2 0 0) fun v9 =>
      oB (gR st v9 2 0) fun v10 =>
      oB (aI st v10 0 a1) fun v11 =>
      some (.inr v11)
noncomputable def fX4_firstEmptyBoxFor_L2 (st : DSt) (x : Nat) (a0 : Option Nat) (z1 : Int32) : Option ((Int32) ⊕ ((Int32) ⊕ (Int32))) :=
  if 6 ≤ z1 then
    some (.inr (.inl z1))
  else
    oB (gR st (some x) 4 2) fun v2 =>
    oB (aR st v2 4 z1) fun v3 =>
    oN v3 (
      some (.inl (z1 + 1))
    ) fun n5 =>
    oB (gI st (some n5) 1 2) fun v6 =>
    if v6 = 0 then
      oB (gI st a0 3 3) fun v7 =>
      oB (oR st (some n5) 1) fun b8 =>
      oB (fX1_suits st b8 a0 v7) fun q9 =>
      if q9 = 0 then
        some (.inl (z1 + 1))
      else
        some (.inr (.inr z1))
    else
      some (.inl (z1 + 1))
noncomputable def fX4_firstEmptyBoxFor (st : DSt) (x : Nat) (a0 : Option Nat) : Option (Int32) :=
  oB (dlp (fX4_firstEmptyBoxFor_L2 st x a0) 0) fun b1 =>
  match b1 with
  | .inr r9 => some r9
  | .inl yb1 =>
    some (-1)
noncomputable def fX4_about (st : DSt) (x : Nat) (a0 : Int32) (a1 : Int32) : Option ((String × DHp) ⊕ (Int32)) :=
  oB (oR st (some x) 4) fun b1 =>
  xB (fX4_slabAt st b1 a0) fun q2 =>
  xB (fX4_checkWhat st a1 6) fun q3 =>
  if a1 = 0 then
    oB (gI st q2 3 1) fun v11 =>
    some (.inr v11)
  else
  if a1 = 1 then
    oB (gI st q2 3 2) fun v12 =>
    some (.inr v12)
  else
  if a1 = 2 then
    oB (gI st q2 3 0) fun v13 =>
    some (.inr v13)
  else
  if a1 = 3 then
    oB (gI st q2 3 3) fun v14 =>
    some (.inr v14)
  else
  if a1 = 4 then
    oB (gI st q2 3 4) fun v15 =>
    some (.inr v15)
  else
  if a1 = 5 then
    oB (oR st q2 3) fun b16 =>
    oB (fX3_squares st b16) fun q17 =>
    some (.inr q17)
  else
  oB (oR st (some x) 4) fun b18 =>
  oB (fX4_firstEmptyBoxFor st b18 q2) fun q19 =>
  some (.inr q19)
noncomputable def fX4_boxAt (st : DSt) (x : Nat) (a0 : Int32) : Option ((String × DHp) ⊕ (Option Nat)) :=
  if a0 < 0 then
    some (.inl ("java/lang/IndexOutOfBoundsException", st.2))
  else
    if a0 < 6 then
      oB (gR st (some x) 4 2) fun v2 =>
      oB (aR st v2 4 a0) fun v3 =>
      oN v3 (
        some (.inl ("java/lang/IndexOutOfBoundsException", st.2))
      ) fun n5 =>
      some (.inr (some n5))
    else
      some (.inl ("java/lang/IndexOutOfBoundsException", st.2))
noncomputable def fX4_order (st : DSt) (x : Nat) (a0 : Int32) (a1 : Int32) : Option ((String × DHp) ⊕ (Int32)) :=
  oB (oR st (some x) 4) fun b1 =>
  xB (fX4_boxAt st b1 a0) fun q2 =>
  xB (fX4_checkWhat st a1 4) fun q3 =>
  if a1 = 0 then
    oB (gI st q2 1 0) fun v9 =>
    some (.inr v9)
  else
  if a1 = 1 then
    oB (gI st q2 1 1) fun v10 =>
    some (.inr v10)
  else
  if a1 = 2 then
    oB (gI st q2 1 2) fun v11 =>
    if v11 = 0 then
      some (.inr 0)
    else
      some (.inr 1)
  else
  if a1 = 3 then
    oB (gI st q2 1 3) fun v13 =>
    some (.inr v13)
  else
  oB (gI st q2 1 4) fun v14 =>
  some (.inr v14)
noncomputable def fX4_filledBoxes_L13 (st : DSt) (v1 : Option Nat) (v2 : Int32) (z3 : Int32 × Int32) : Option ((Int32 × Int32) ⊕ (Int32 × Int32)) :=
  if v2 ≤ z3.2 then
    some (.inr (z3.1, z3.2))
  else
    oB (aR st v1 4 z3.2) fun v4 =>
    oN v4 (
      some (.inl (z3.1, (z3.2 + 1)))
    ) fun n6 =>
    oB (gI st (some n6) 1 2) fun v7 =>
    if v7 = 0 then
      some (.inl (z3.1, (z3.2 + 1)))
    else
      some (.inl ((z3.1 + 1), (z3.2 + 1)))
noncomputable def fX4_filledBoxes (st : DSt) (x : Nat) : Option (Int32) :=
  oB (gR st (some x) 4 2) fun v1 =>
  oB (aN st v1 4) fun v2 =>
  oB (dlp (fX4_filledBoxes_L13 st v1 v2) (0, 0)) fun b3 =>
  some b3.1
noncomputable def fX4_gramsOfBowls_L13 (st : DSt) (v1 : Option Nat) (v2 : Int32) (z3 : Int32 × Int32) : Option ((Int32 × Int32) ⊕ (Int32 × Int32)) :=
  if v2 ≤ z3.2 then
    some (.inr (z3.1, z3.2))
  else
    oB (aR st v1 2 z3.2) fun v4 =>
    oN v4 (
      some (.inl (z3.1, (z3.2 + 1)))
    ) fun n6 =>
    oB (gI st (some n6) 0 1) fun v7 =>
    some (.inl ((z3.1 + v7), (z3.2 + 1)))
noncomputable def fX4_gramsOfBowls (st : DSt) (x : Nat) : Option (Int32) :=
  oB (gR st (some x) 4 0) fun v1 =>
  oB (aN st v1 2) fun v2 =>
  oB (dlp (fX4_gramsOfBowls_L13 st v1 v2) (0, 0)) fun b3 =>
  some b3.1
noncomputable def fX4_squaresOfSlabs_L13 (st : DSt) (v1 : Option Nat) (v2 : Int32) (z3 : Int32 × Int32) : Option ((Int32 × Int32) ⊕ (Int32 × Int32)) :=
  if v2 ≤ z3.2 then
    some (.inr (z3.1, z3.2))
  else
    oB (aR st v1 3 z3.2) fun v4 =>
    oN v4 (
      some (.inl (z3.1, (z3.2 + 1)))
    ) fun n6 =>
    oB (oR st (some n6) 3) fun b7 =>
    oB (fX3_squares st b7) fun q8 =>
    some (.inl ((z3.1 + q8), (z3.2 + 1)))
noncomputable def fX4_squaresOfSlabs (st : DSt) (x : Nat) : Option (Int32) :=
  oB (gR st (some x) 4 1) fun v1 =>
  oB (aN st v1 3) fun v2 =>
  oB (dlp (fX4_squaresOfSlabs_L13 st v1 v2) (0, 0)) fun b3 =>
  some b3.1
noncomputable def fX4_count (st : DSt) (x : Nat) (a0 : Int32) : Option ((String × DHp) ⊕ (Int32)) :=
  xB (fX4_checkWhat st a0 7) fun q1 =>
  if a0 = 0 then
    oB (gI st (some x) 4 6) fun v10 =>
    some (.inr v10)
  else
  if a0 = 1 then
    oB (gI st (some x) 4 3) fun v11 =>
    some (.inr v11)
  else
  if a0 = 2 then
    oB (gI st (some x) 4 4) fun v12 =>
    some (.inr v12)
  else
  if a0 = 3 then
    oB (gI st (some x) 4 5) fun v13 =>
    some (.inr v13)
  else
  if a0 = 4 then
    oB (oR st (some x) 4) fun b14 =>
    oB (fX4_filledBoxes st b14) fun q15 =>
    some (.inr q15)
  else
  if a0 = 5 then
    oB (oR st (some x) 4) fun b16 =>
    oB (fX4_gramsOfBowls st b16) fun q17 =>
    some (.inr q17)
  else
  if a0 = 6 then
    oB (oR st (some x) 4) fun b18 =>
    oB (fX4_squaresOfSlabs st b18) fun q19 =>
    some (.inr q19)
  else
  oB (oR st (some x) 4) fun b20 =>
  oB (fX4_bloomedSlabs st b20) fun q21 =>
  some (.inr q21)
noncomputable def fX4_would (st : DSt) (x : Nat) (a0 : Int32) (a1 : Int32) (a2 : Int32) : Option ((String × DHp) ⊕ (Int32 × DSt)) :=
  oB (oR st (some x) 4) fun b1 =>
  xB (fX4_bowlAt st b1 a0) fun q2 =>
  xB (fX4_checkWarming st a1 a2) fun q3 =>
  oB (gR st (some x) 4 7) fun v4 =>
  oB (gR st q2 0 0) fun v5 =>
  oB (oR st v4 2) fun b6 =>
  oB (fX2_becomeLike st b6 v5) fun q7 =>
  oB (gR q7 (some x) 4 7) fun v8 =>
  oB (oR q7 v8 2) fun b9 =>
  oB (fX2_keepAt q7 b9 a1 a2) fun q10 =>
  oB (gR q10 (some x) 4 7) fun v11 =>
  oB (oR q10 v11 2) fun b12 =>
  oB (fX2_temper q10 b12) fun q13 =>
  some (.inr (q13, q10))
noncomputable def fX4_best_L86 (x : Nat) (a1 : Int32) (z4 : DSt × Int32 × Int32 × Int32 × Int32) (z12 : DSt × Int32 × Int32 × Int32 × Int32) : Option ((DSt × Int32 × Int32 × Int32 × Int32) ⊕ (DSt × Int32 × Int32 × Int32 × Int32)) :=
  if 50 < z12.2.2.2.2 then
    some (.inr (z12.1, z12.2.1, z12.2.2.1, z12.2.2.2.1, z12.2.2.2.2))
  else
    if 100 ≤ z12.2.2.2.1 then
      some (.inr (z12.1, z12.2.1, z12.2.2.1, z12.2.2.2.1, z12.2.2.2.2))
    else
      oB (gR z12.1 (some x) 4 8) fun v13 =>
      oB (gR z12.1 (some x) 4 7) fun v14 =>
      oB (oR z12.1 v13 2) fun b15 =>
      oB (fX2_becomeLike z12.1 b15 v14) fun q16 =>
      oB (gR q16 (some x) 4 8) fun v17 =>
      oB (oR q16 v17 2) fun b18 =>
      oB (fX2_keepAt q16 b18 z12.2.2.2.2 a1) fun q19 =>
      oB (gR q19 (some x) 4 8) fun v20 =>
      oB (oR q19 v20 2) fun b21 =>
      oB (fX2_temper q19 b21) fun q22 =>
      if q22 ≤ z12.2.2.2.1 then
        some (.inl (q19, z12.2.1, z12.2.2.1, z12.2.2.2.1, (z12.2.2.2.2 + 1)))
      else
        some (.inl (q19, z4.2.2.2.2, z12.2.2.2.2, q22, (z12.2.2.2.2 + 1)))
noncomputable def fX4_best_L46 (x : Nat) (a1 : Int32) (q2 : Option Nat) (z4 : DSt × Int32 × Int32 × Int32 × Int32) : Option ((DSt × Int32 × Int32 × Int32 × Int32) ⊕ (DSt × Int32 × Int32 × Int32 × Int32)) :=
  if 50 < z4.2.2.2.2 then
    some (.inr (z4.1, z4.2.1, z4.2.2.1, z4.2.2.2.1, z4.2.2.2.2))
  else
    if 100 ≤ z4.2.2.2.1 then
      some (.inr (z4.1, z4.2.1, z4.2.2.1, z4.2.2.2.1, z4.2.2.2.2))
    else
      oB (gR z4.1 (some x) 4 7) fun v5 =>
      oB (gR z4.1 q2 0 0) fun v6 =>
      oB (oR z4.1 v5 2) fun b7 =>
      oB (fX2_becomeLike z4.1 b7 v6) fun q8 =>
      oB (gR q8 (some x) 4 7) fun v9 =>
      oB (oR q8 v9 2) fun b10 =>
      oB (fX2_keepAt q8 b10 z4.2.2.2.2 a1) fun q11 =>
      oB (dlp (fX4_best_L86 x a1 z4) (q11, z4.2.1, z4.2.2.1, z4.2.2.2.1, 15)) fun b12 =>
      some (.inl (b12.1, b12.2.1, b12.2.2.1, b12.2.2.2.1, (z4.2.2.2.2 + 1)))
noncomputable def fX4_best (st : DSt) (x : Nat) (a0 : Int32) (a1 : Int32) (a2 : Int32) : Option ((String × DHp) ⊕ (Int32 × DSt)) :=
  oB (oR st (some x) 4) fun b1 =>
  xB (fX4_bowlAt st b1 a0) fun q2 =>
  xB (fX4_checkWhat st a2 2) fun q3 =>
  if a1 < 1 then
    some (.inl ("java/lang/IllegalArgumentException", st.2))
  else
    if a1 ≤ 10 then
      oB (dlp (fX4_best_L46 x a1 q2) (st, (-1), (-1), (-1), 15)) fun b4 =>
      if a2 = 0 then
        some (.inr (b4.2.1, b4.1))
      else
        if a2 = 1 then
          some (.inr (b4.2.2.1, b4.1))
        else
          some (.inr (b4.2.2.2.1, b4.1))
    else
      some (.inl ("java/lang/IllegalArgumentException", st.2))
noncomputable def fX4_until (st : DSt) (x : Nat) (a0 : Int32) (a1 : Int32) : Option ((String × DHp) ⊕ (Int32)) :=
  oB (oR st (some x) 4) fun b1 =>
  xB (fX4_slabAt st b1 a0) fun q2 =>
  xB (fX4_checkRoom st a1) fun q3 =>
  oB (oR st q2 3) fun b4 =>
  oB (fX3_isBloomed st b4) fun q5 =>
  if q5 = 0 then
    oB (oR st q2 3) fun b6 =>
    oB (fX3_bloomOfADay st b6 a1) fun q7 =>
    if 0 < q7 then
      oB (gI st q2 3 3) fun v8 =>
      oB (oD (20 - v8) q7) fun v9 =>
      some (.inr (v9 + 1))
    else
      some (.inr (-1))
  else
    some (.inr 0)
noncomputable def fX4_advise_L10 (x : Nat) (z3 : DSt × Int32 × Int32 × Int32) : Option ((DSt × Int32 × Int32 × Int32) ⊕ (DSt × Int32 × Int32 × Int32)) :=
  oB (gI z3.1 (some x) 4 4) fun v4 =>
  if v4 ≤ z3.2.2.2 then
    some (.inr (z3.1, z3.2.1, z3.2.2.1, z3.2.2.2))
  else
    oB (oR z3.1 (some x) 4) fun b5 =>
    oB (fX4_planFilling z3.1 b5 z3.2.2.2) fun q6 =>
    if q6.1 ≤ z3.2.2.1 then
      some (.inl (q6.2, z3.2.1, z3.2.2.1, (z3.2.2.2 + 1)))
    else
      some (.inl (q6.2, z3.2.2.2, q6.1, (z3.2.2.2 + 1)))
noncomputable def fX4_advise (st : DSt) (x : Nat) : Option (Int32 × DSt) :=
  oB (oR st (some x) 4) fun b1 =>
  oB (fX4_planFilling st b1 (-1)) fun q2 =>
  oB (dlp (fX4_advise_L10 x) (q2.2, (-1), q2.1, 0)) fun b3 =>
  some (b3.2.1, b3.1)
noncomputable def fX4_mean_L13 (st : DSt) (v1 : Option Nat) (v2 : Int32) (z3 : Int32 × Int32) : Option ((Int32 × Int32) ⊕ (Int32 × Int32)) :=
  if v2 ≤ z3.2 then
    some (.inr (z3.1, z3.2))
  else
    oB (aR st v1 3 z3.2) fun v4 =>
    oN v4 (
      some (.inl (z3.1, (z3.2 + 1)))
    ) fun n6 =>
    oB (gI st (some n6) 3 3) fun v7 =>
    some (.inl ((z3.1 + v7), (z3.2 + 1)))
noncomputable def fX4_mean (st : DSt) (x : Nat) : Option (UInt64) :=
  oB (gR st (some x) 4 1) fun v1 =>
  oB (aN st v1 3) fun v2 =>
  oB (dlp (fX4_mean_L13 st v1 v2) (0, 0)) fun b3 =>
  oB (gI st (some x) 4 4) fun v9 =>
  if 0 < v9 then
    oB (gI st (some x) 4 4) fun v10 =>
    oB (oDD (FP.i2d b3.1) (FP.i2d v10)) fun v11 =>
    some v11
  else
    some FP.dconst0
noncomputable def fX4_digest_L6 (st : DSt) (x : Nat) (z1 : Int64 × Int32) : Option ((Int64 × Int32) ⊕ (Int64 × Int32)) :=
  if 7 < z1.2 then
    some (.inr (z1.1, z1.2))
  else
    oB (oR st (some x) 4) fun b2 =>
    oB (nX (fX4_count st b2 z1.2)) fun q3 =>
    some (.inl (((z1.1 * 31) + (q3).toInt64), (z1.2 + 1)))
noncomputable def fX4_digest_L44 (st : DSt) (x : Nat) (z5 : Int64 × Int32) (z7 : Int64 × Int32) : Option ((Int64 × Int32) ⊕ (Int64 × Int32)) :=
  if 7 < z7.2 then
    some (.inr (z7.1, z7.2))
  else
    oB (oR st (some x) 4) fun b8 =>
    oB (nX (fX4_told st b8 z5.2 z7.2)) fun q9 =>
    some (.inl (((z7.1 * 31) + (q9).toInt64), (z7.2 + 1)))
noncomputable def fX4_digest_L33 (st : DSt) (x : Nat) (z5 : Int64 × Int32) : Option ((Int64 × Int32) ⊕ (Int64 × Int32)) :=
  oB (gI st (some x) 4 3) fun v6 =>
  if v6 ≤ z5.2 then
    some (.inr (z5.1, z5.2))
  else
    oB (dlp (fX4_digest_L44 st x z5) (z5.1, 0)) fun b7 =>
    some (.inl (b7.1, (z5.2 + 1)))
noncomputable def fX4_digest_L91 (st : DSt) (x : Nat) (z12 : Int64 × Int32) (z14 : Int64 × Int32) : Option ((Int64 × Int32) ⊕ (Int64 × Int32)) :=
  if 6 < z14.2 then
    some (.inr (z14.1, z14.2))
  else
    oB (oR st (some x) 4) fun b15 =>
    oB (nX (fX4_about st b15 z12.2 z14.2)) fun q16 =>
    some (.inl (((z14.1 * 31) + (q16).toInt64), (z14.2 + 1)))
noncomputable def fX4_digest_L80 (st : DSt) (x : Nat) (z12 : Int64 × Int32) : Option ((Int64 × Int32) ⊕ (Int64 × Int32)) :=
  oB (gI st (some x) 4 4) fun v13 =>
  if v13 ≤ z12.2 then
    some (.inr (z12.1, z12.2))
  else
    oB (dlp (fX4_digest_L91 st x z12) (z12.1, 0)) fun b14 =>
    some (.inl (b14.1, (z12.2 + 1)))
noncomputable def fX4_digest_L138 (st : DSt) (x : Nat) (z19 : Int64 × Int32) (z21 : Int64 × Int32) : Option ((Int64 × Int32) ⊕ (Int64 × Int32)) :=
  if 4 < z21.2 then
    some (.inr (z21.1, z21.2))
  else
    oB (oR st (some x) 4) fun b22 =>
    oB (nX (fX4_order st b22 z19.2 z21.2)) fun q23 =>
    some (.inl (((z21.1 * 31) + (q23).toInt64), (z21.2 + 1)))
noncomputable def fX4_digest_L127 (st : DSt) (x : Nat) (z19 : Int64 × Int32) : Option ((Int64 × Int32) ⊕ (Int64 × Int32)) :=
  oB (gI st (some x) 4 5) fun v20 =>
  if v20 ≤ z19.2 then
    some (.inr (z19.1, z19.2))
  else
    oB (dlp (fX4_digest_L138 st x z19) (z19.1, 0)) fun b21 =>
    some (.inl (b21.1, (z19.2 + 1)))
noncomputable def fX4_digest (st : DSt) (x : Nat) : Option (Int64) :=
  oB (dlp (fX4_digest_L6 st x) (1789, 0)) fun b1 =>
  oB (dlp (fX4_digest_L33 st x) (b1.1, 0)) fun b5 =>
  oB (dlp (fX4_digest_L80 st x) (b5.1, 0)) fun b12 =>
  oB (dlp (fX4_digest_L127 st x) (b12.1, 0)) fun b19 =>
  some b19.1
noncomputable def fX5_init (st : DSt) (x : Nat) : Option (DSt) :=
  oB (some (nC st (.inl (0, nI0 35)))) fun s1 =>
  oB (pV s1 (some x) 5 5 (DR (some st.1))) fun s2 =>
  oB (some (nC s2 (.inl (0, nI0 40)))) fun s3 =>
  oB (pV s3 (some x) 5 6 (DR (some s2.1))) fun s4 =>
  oB (some (nC s4 (.inl (0, nI0 30)))) fun s5 =>
  oB (pV s5 (some x) 5 7 (DR (some s4.1))) fun s6 =>
  oB (some (nC s6 (.inl (0, nI0 40)))) fun s7 =>
  oB (pV s7 (some x) 5 8 (DR (some s6.1))) fun s8 =>
  oB (some (nC s8 (.inl (0, nI0 30)))) fun s9 =>
  oB (pV s9 (some x) 5 9 (DR (some s8.1))) fun s10 =>
  oB (some (nC s10 (.inl (0, nI0 6)))) fun s11 =>
  oB (pV s11 (some x) 5 10 (DR (some s10.1))) fun s12 =>
  oB (some (nC s12 (.inl (0, nI0 6)))) fun s13 =>
  oB (pV s13 (some x) 5 11 (DR (some s12.1))) fun s14 =>
  some s14
noncomputable def fX5_thrown (st : DSt) (x : Nat) : Option (Int32) :=
  oB (gI st (some x) 5 0) fun v1 =>
  some v1
noncomputable def fX5_fail (st : DSt) (x : Nat) (a0 : Int32) : Option (Int32 × DSt) :=
  oB (pV st (some x) 5 0 (DI a0)) fun s1 =>
  some (0, s1)
noncomputable def fX5_isIn (st : DSt) (a0 : Int32) (a1 : Int32) (a2 : Int32) : Option (Int32) :=
  if a0 < a1 then
    oB (oZ 0) fun v1 =>
    some v1
  else
    if a2 < a0 then
      oB (oZ 0) fun v2 =>
      some v2
    else
      oB (oZ 1) fun v3 =>
      some v3
noncomputable def fX5_isBowl (st : DSt) (x : Nat) (a0 : Int32) : Option (Int32) :=
  oB (gI st (some x) 5 2) fun v1 =>
  oB (fX5_isIn st a0 0 (v1 - 1)) fun q2 =>
  oB (oZ q2) fun v3 =>
  some v3
noncomputable def fX5_isSlab (st : DSt) (x : Nat) (a0 : Int32) : Option (Int32) :=
  oB (gI st (some x) 5 3) fun v1 =>
  oB (fX5_isIn st a0 0 (v1 - 1)) fun q2 =>
  oB (oZ q2) fun v3 =>
  some v3
noncomputable def fX5_bo (st : DSt) (x : Nat) (a0 : Int32) (a1 : Int32) : Option (Int32) :=
  oB (gR st (some x) 5 5) fun v1 =>
  oB (aI st v1 0 ((7 * a0) + a1)) fun v2 =>
  some v2
noncomputable def fX5_letBowl (st : DSt) (x : Nat) (a0 : Int32) (a1 : Int32) (a2 : Int32) : Option (DSt) :=
  oB (gR st (some x) 5 5) fun v1 =>
  oB (sI st v1 0 ((7 * a0) + a1) a2) fun s2 =>
  some s2
noncomputable def fX5_sl (st : DSt) (x : Nat) (a0 : Int32) (a1 : Int32) : Option (Int32) :=
  oB (gR st (some x) 5 6) fun v1 =>
  oB (aI st v1 0 ((5 * a0) + a1)) fun v2 =>
  some v2
noncomputable def fX5_letSlab (st : DSt) (x : Nat) (a0 : Int32) (a1 : Int32) (a2 : Int32) : Option (DSt) :=
  oB (gR st (some x) 5 6) fun v1 =>
  oB (sI st v1 0 ((5 * a0) + a1) a2) fun s2 =>
  some s2
noncomputable def fX5_bx (st : DSt) (x : Nat) (a0 : Int32) (a1 : Int32) : Option (Int32) :=
  oB (gR st (some x) 5 7) fun v1 =>
  oB (aI st v1 0 ((5 * a0) + a1)) fun v2 =>
  some v2
noncomputable def fX5_meltsAt (st : DSt) (a0 : Int32) : Option (Int32) :=
  some (15 + (4 * a0))
noncomputable def fX5_sum_L4 (st : DSt) (a0 : Option Nat) (z1 : Int32 × Int32) : Option ((Int32 × Int32) ⊕ (Int32 × Int32)) :=
  if 5 < z1.2 then
    some (.inr (z1.1, z1.2))
  else
    oB (aI st a0 0 z1.2) fun v2 =>
    some (.inl ((z1.1 + v2), (z1.2 + 1)))
noncomputable def fX5_sum (st : DSt) (a0 : Option Nat) : Option (Int32) :=
  oB (dlp (fX5_sum_L4 st a0) (0, 1)) fun b1 =>
  some b1.1
noncomputable def fX5_turn_L2 (a0 : Option Nat) (a1 : Int32) (z1 : DSt × Int32) : Option ((DSt × Int32) ⊕ (DSt × Int32)) :=
  if 5 < z1.2 then
    some (.inr (z1.1, z1.2))
  else
    oB (fX5_meltsAt z1.1 z1.2) fun q2 =>
    if a1 < q2 then
      some (.inl (z1.1, (z1.2 + 1)))
    else
      oB (aI z1.1 a0 0 z1.2) fun v3 =>
      oB (oD v3 2) fun v4 =>
      oB (sI z1.1 a0 0 z1.2 v4) fun s5 =>
      some (.inl (s5, (z1.2 + 1)))
noncomputable def fX5_turn_L37 (a1 : Int32) (b1 : DSt × Int32) (z8 : Int32) : Option ((Int32) ⊕ (Int32)) :=
  if 5 ≤ z8 then
    some (.inr z8)
  else
    oB (fX5_meltsAt b1.1 z8) fun q9 =>
    if (a1 + 3) < q9 then
      some (.inr z8)
    else
      some (.inl (z8 + 1))
noncomputable def fX5_turn (st : DSt) (a0 : Option Nat) (a1 : Int32) : Option (DSt) :=
  oB (dlp (fX5_turn_L2 a0 a1) (st, 1)) fun b1 =>
  if a1 < 34 then
    oB (dlp (fX5_turn_L37 a1 b1) 1) fun b8 =>
    oB (aI b1.1 a0 0 b8) fun v12 =>
    oB (fX5_sum b1.1 a0) fun q13 =>
    oB (aI b1.1 a0 0 b8) fun v14 =>
    oB (oD v14 4) fun v15 =>
    oB (sI b1.1 a0 0 b8 (v12 + (jmin (100 - q13) (8 + v15)))) fun s16 =>
    some s16
  else
    some b1.1
noncomputable def fX5_turns_L2 (a0 : Option Nat) (a1 : Int32) (a2 : Int32) (z1 : DSt × Int32) : Option ((DSt × Int32) ⊕ (DSt × Int32)) :=
  if a2 ≤ z1.2 then
    some (.inr (z1.1, z1.2))
  else
    oB (fX5_turn z1.1 a0 a1) fun q2 =>
    some (.inl (q2, (z1.2 + 1)))
noncomputable def fX5_turns (st : DSt) (a0 : Option Nat) (a1 : Int32) (a2 : Int32) : Option (DSt) :=
  oB (dlp (fX5_turns_L2 a0 a1 a2) (st, 0)) fun b1 =>
  some b1.1
noncomputable def fX5_temper (st : DSt) (a0 : Option Nat) : Option (Int32) :=
  oB (aI st a0 0 5) fun v1 =>
  oB (aI st a0 0 4) fun v2 =>
  oB (aI st a0 0 1) fun v3 =>
  oB (aI st a0 0 2) fun v4 =>
  oB (aI st a0 0 3) fun v5 =>
  some (jmax 0 (jmin 100 (((((2 * v1) + v2) - v3) - v4) - v5)))
noncomputable def fX5_look_L2 (x : Nat) (a0 : Int32) (z1 : DSt × Int32) : Option ((DSt × Int32) ⊕ (DSt × Int32)) :=
  if 5 < z1.2 then
    some (.inr (z1.1, z1.2))
  else
    oB (gR z1.1 (some x) 5 10) fun v2 =>
    oB (oR z1.1 (some x) 5) fun b3 =>
    oB (fX5_bo z1.1 b3 a0 z1.2) fun q4 =>
    oB (sI z1.1 v2 0 z1.2 q4) fun s5 =>
    some (.inl (s5, (z1.2 + 1)))
noncomputable def fX5_look (st : DSt) (x : Nat) (a0 : Int32) : Option (DSt) :=
  oB (dlp (fX5_look_L2 x a0) (st, 1)) fun b1 =>
  some b1.1
noncomputable def fX5_temperOf (st : DSt) (x : Nat) (a0 : Int32) : Option (Int32 × DSt) :=
  oB (oR st (some x) 5) fun b1 =>
  oB (fX5_look st b1 a0) fun q2 =>
  oB (gR q2 (some x) 5 10) fun v3 =>
  oB (fX5_temper q2 v3) fun q4 =>
  some (q4, q2)
noncomputable def fX5_bowl (st : DSt) (x : Nat) (a0 : Int32) : Option (Int32 × DSt) :=
  oB (pV st (some x) 5 0 (DI 0)) fun s1 =>
  oB (fX5_isIn s1 a0 0 2000) fun q2 =>
  if q2 = 0 then
    oB (oR s1 (some x) 5) fun b16 =>
    oB (fX5_fail s1 b16 1) fun q17 =>
    some (q17.1, q17.2)
  else
    oB (gI s1 (some x) 5 2) fun v3 =>
    if v3 = 5 then
      oB (oR s1 (some x) 5) fun b13 =>
      oB (fX5_fail s1 b13 2) fun q14 =>
      some (q14.1, q14.2)
    else
      oB (gI s1 (some x) 5 2) fun v4 =>
      oB (oR s1 (some x) 5) fun b5 =>
      oB (fX5_letBowl s1 b5 v4 0 a0) fun q6 =>
      oB (gI q6 (some x) 5 2) fun v7 =>
      oB (oR q6 (some x) 5) fun b8 =>
      oB (fX5_letBowl q6 b8 v7 6 20) fun q9 =>
      oB (gI q9 (some x) 5 2) fun v10 =>
      oB (pV q9 (some x) 5 2 (DI (v10 + 1))) fun s11 =>
      oB (gI s11 (some x) 5 2) fun v12 =>
      some ((v12 - 1), s11)
noncomputable def fX5_isWarmth (st : DSt) (x : Nat) (a0 : Int32) (a1 : Int32) : Option (Int32) :=
  oB (fX5_isIn st a0 15 50) fun q1 =>
  if q1 = 0 then
    oB (oZ 0) fun v2 =>
    some v2
  else
    oB (fX5_isIn st a1 1 40) fun q3 =>
    if q3 = 0 then
      oB (oZ 0) fun v4 =>
      some v4
    else
      oB (oZ 1) fun v5 =>
      some v5
noncomputable def fX5_warm_L51 (x : Nat) (a0 : Int32) (z10 : DSt × Int32) : Option ((DSt × Int32) ⊕ (DSt × Int32)) :=
  if 5 < z10.2 then
    some (.inr (z10.1, z10.2))
  else
    oB (gR z10.1 (some x) 5 10) fun v11 =>
    oB (aI z10.1 v11 0 z10.2) fun v12 =>
    oB (oR z10.1 (some x) 5) fun b13 =>
    oB (fX5_letBowl z10.1 b13 a0 z10.2 v12) fun q14 =>
    some (.inl (q14, (z10.2 + 1)))
noncomputable def fX5_warm (st : DSt) (x : Nat) (a0 : Int32) (a1 : Int32) (a2 : Int32) : Option (Int32 × DSt) :=
  oB (pV st (some x) 5 0 (DI 0)) fun s1 =>
  oB (oR s1 (some x) 5) fun b2 =>
  oB (fX5_isBowl s1 b2 a0) fun q3 =>
  if q3 = 0 then
    oB (oR s1 (some x) 5) fun b23 =>
    oB (fX5_fail s1 b23 1) fun q24 =>
    some (q24.1, q24.2)
  else
    oB (oR s1 (some x) 5) fun b4 =>
    oB (fX5_isWarmth s1 b4 a1 a2) fun q5 =>
    if q5 = 0 then
      oB (oR s1 (some x) 5) fun b20 =>
      oB (fX5_fail s1 b20 2) fun q21 =>
      some (q21.1, q21.2)
    else
      oB (oR s1 (some x) 5) fun b6 =>
      oB (fX5_look s1 b6 a0) fun q7 =>
      oB (gR q7 (some x) 5 10) fun v8 =>
      oB (fX5_turns q7 v8 a1 a2) fun q9 =>
      oB (dlp (fX5_warm_L51 x a0) (q9, 1)) fun b10 =>
      oB (oR b10.1 (some x) 5) fun b16 =>
      oB (fX5_letBowl b10.1 b16 a0 6 a1) fun q17 =>
      oB (gR q17 (some x) 5 10) fun v18 =>
      oB (fX5_temper q17 v18) fun q19 =>
      some (q19, q17)
noncomputable def fX5_seed (st : DSt) (x : Nat) (a0 : Int32) (a1 : Int32) : Option (Int32 × DSt) :=
  oB (pV st (some x) 5 0 (DI 0)) fun s1 =>
  oB (oR s1 (some x) 5) fun b2 =>
  oB (fX5_isBowl s1 b2 a0) fun q3 =>
  if q3 = 0 then
    oB (oR s1 (some x) 5) fun b18 =>
    oB (fX5_fail s1 b18 1) fun q19 =>
    some (q19.1, q19.2)
  else
    oB (fX5_isIn s1 a1 1 30) fun q4 =>
    if q4 = 0 then
      oB (oR s1 (some x) 5) fun b15 =>
      oB (fX5_fail s1 b15 2) fun q16 =>
      some (q16.1, q16.2)
    else
      oB (oR s1 (some x) 5) fun b5 =>
      oB (fX5_look s1 b5 a0) fun q6 =>
      oB (gR q6 (some x) 5 10) fun v7 =>
      oB (aI q6 v7 0 5) fun v8 =>
      oB (gR q6 (some x) 5 10) fun v9 =>
      oB (fX5_sum q6 v9) fun q10 =>
      oB (oR q6 (some x) 5) fun b11 =>
      oB (fX5_letBowl q6 b11 a0 5 (v8 + (jmin a1 (100 - q10)))) fun q12 =>
      oB (oR q12 (some x) 5) fun b13 =>
      oB (fX5_bo q12 b13 a0 5) fun q14 =>
      some (q14, q12)
noncomputable def fX5_pour_L66 (x : Nat) (a0 : Int32) (a1 : Int32) (q9 : Int32) (q11 : Int32) (z16 : DSt × Int32) : Option ((DSt × Int32) ⊕ (DSt × Int32)) :=
  if 6 < z16.2 then
    some (.inr (z16.1, z16.2))
  else
    oB (oR z16.1 (some x) 5) fun b17 =>
    oB (fX5_bo z16.1 b17 a1 z16.2) fun q18 =>
    oB (oR z16.1 (some x) 5) fun b19 =>
    oB (fX5_bo z16.1 b19 a1 0) fun q20 =>
    oB (oR z16.1 (some x) 5) fun b21 =>
    oB (fX5_bo z16.1 b21 a0 z16.2) fun q22 =>
    oB (oR z16.1 (some x) 5) fun b23 =>
    oB (fX5_bo z16.1 b23 a0 0) fun q24 =>
    oB (oD ((q18 * q20) + (q22 * q24)) (q9 + q11)) fun v25 =>
    oB (oR z16.1 (some x) 5) fun b26 =>
    oB (fX5_letBowl z16.1 b26 a1 z16.2 v25) fun q27 =>
    some (.inl (q27, (z16.2 + 1)))
noncomputable def fX5_pour_L127 (x : Nat) (a0 : Int32) (z31 : DSt × Int32) : Option ((DSt × Int32) ⊕ (DSt × Int32)) :=
  if 6 ≤ z31.2 then
    some (.inr (z31.1, z31.2))
  else
    oB (oR z31.1 (some x) 5) fun b32 =>
    oB (fX5_letBowl z31.1 b32 a0 z31.2 0) fun q33 =>
    some (.inl (q33, (z31.2 + 1)))
noncomputable def fX5_pour (st : DSt) (x : Nat) (a0 : Int32) (a1 : Int32) : Option (Int32 × DSt) :=
  oB (pV st (some x) 5 0 (DI 0)) fun s1 =>
  oB (oR s1 (some x) 5) fun b2 =>
  oB (fX5_isBowl s1 b2 a0) fun q3 =>
  if q3 = 0 then
    oB (oR s1 (some x) 5) fun b4 =>
    oB (fX5_fail s1 b4 1) fun q5 =>
    some (q5.1, q5.2)
  else
    oB (oR s1 (some x) 5) fun b6 =>
    oB (fX5_isBowl s1 b6 a1) fun q7 =>
    if q7 = 0 then
      oB (oR s1 (some x) 5) fun b40 =>
      oB (fX5_fail s1 b40 1) fun q41 =>
      some (q41.1, q41.2)
    else
      oB (oR s1 (some x) 5) fun b8 =>
      oB (fX5_bo s1 b8 a0 0) fun q9 =>
      oB (oR s1 (some x) 5) fun b10 =>
      oB (fX5_bo s1 b10 a1 0) fun q11 =>
      if a0 = a1 then
        oB (oR s1 (some x) 5) fun b12 =>
        oB (fX5_fail s1 b12 2) fun q13 =>
        some (q13.1, q13.2)
      else
        if (q9 + q11) = 0 then
          oB (oR s1 (some x) 5) fun b14 =>
          oB (fX5_fail s1 b14 2) fun q15 =>
          some (q15.1, q15.2)
        else
          if (q9 + q11) ≤ 2000 then
            oB (dlp (fX5_pour_L66 x a0 a1 q9 q11) (s1, 1)) fun b16 =>
            oB (oR b16.1 (some x) 5) fun b29 =>
            oB (fX5_letBowl b16.1 b29 a1 0 (q9 + q11)) fun q30 =>
            oB (dlp (fX5_pour_L127 x a0) (q30, 0)) fun b31 =>
            some ((q9 + q11), b31.1)
          else
            oB (oR s1 (some x) 5) fun b35 =>
            oB (fX5_fail s1 b35 2) fun q36 =>
            some (q36.1, q36.2)
noncomputable def fX5_put (st : DSt) (x : Nat) (a0 : Int32) (a1 : Int32) (a2 : Int32) (a3 : Int32) (a4 : Int32) (a5 : Int32) : Option (DSt) :=
  oB (oR st (some x) 5) fun b1 =>
  oB (fX5_letSlab st b1 a0 0 a1) fun q2 =>
  oB (oR q2 (some x) 5) fun b3 =>
  oB (fX5_letSlab q2 b3 a0 1 a2) fun q4 =>
  oB (oR q4 (some x) 5) fun b5 =>
  oB (fX5_letSlab q4 b5 a0 2 a3) fun q6 =>
  oB (oR q6 (some x) 5) fun b7 =>
  oB (fX5_letSlab q6 b7 a0 3 a4) fun q8 =>
  oB (oR q8 (some x) 5) fun b9 =>
  oB (fX5_letSlab q8 b9 a0 4 a5) fun q10 =>
  some q10
noncomputable def fX5_squares (st : DSt) (x : Nat) (a0 : Int32) : Option (Int32) :=
  oB (oR st (some x) 5) fun b1 =>
  oB (fX5_sl st b1 a0 0) fun q2 =>
  oB (oR st (some x) 5) fun b3 =>
  oB (fX5_sl st b3 a0 1) fun q4 =>
  some (q2 * q4)
noncomputable def fX5_away (st : DSt) (x : Nat) (a0 : Int32) : Option (DSt) :=
  oB (gI st (some x) 5 3) fun v1 =>
  oB (pV st (some x) 5 3 (DI (v1 - 1))) fun s2 =>
  oB (gR s2 (some x) 5 6) fun v3 =>
  oB (gR s2 (some x) 5 6) fun v4 =>
  oB (gI s2 (some x) 5 3) fun v5 =>
  oB (cpI s2 v3 (5 * (a0 + 1)) v4 (5 * a0) (5 * (v5 - a0)) 0) fun s6 =>
  some s6
noncomputable def fX5_cast (st : DSt) (x : Nat) (a0 : Int32) (a1 : Int32) (a2 : Int32) : Option (Int32 × DSt) :=
  oB (pV st (some x) 5 0 (DI 0)) fun s1 =>
  oB (oR s1 (some x) 5) fun b2 =>
  oB (fX5_isBowl s1 b2 a0) fun q3 =>
  if q3 = 0 then
    oB (oR s1 (some x) 5) fun b33 =>
    oB (fX5_fail s1 b33 1) fun q34 =>
    some (q34.1, q34.2)
  else
    oB (fX5_isIn s1 a1 1 6) fun q4 =>
    if q4 = 0 then
      oB (oR s1 (some x) 5) fun b5 =>
      oB (fX5_fail s1 b5 2) fun q6 =>
      some (q6.1, q6.2)
    else
      oB (fX5_isIn s1 a2 1 6) fun q7 =>
      if q7 = 0 then
        oB (oR s1 (some x) 5) fun b29 =>
        oB (fX5_fail s1 b29 2) fun q30 =>
        some (q30.1, q30.2)
      else
        oB (gI s1 (some x) 5 3) fun v8 =>
        if v8 = 8 then
          oB (oR s1 (some x) 5) fun b9 =>
          oB (fX5_fail s1 b9 3) fun q10 =>
          some (q10.1, q10.2)
        else
          oB (oR s1 (some x) 5) fun b11 =>
          oB (fX5_bo s1 b11 a0 0) fun q12 =>
          if ((10 * a1) * a2) ≤ q12 then
            oB (oR s1 (some x) 5) fun b13 =>
            oB (fX5_bo s1 b13 a0 0) fun q14 =>
            oB (oR s1 (some x) 5) fun b15 =>
            oB (fX5_letBowl s1 b15 a0 0 (q14 - ((10 * a1) * a2))) fun q16 =>
            oB (gI q16 (some x) 5 3) fun v17 =>
            oB (oR q16 (some x) 5) fun b18 =>
            oB (fX5_temperOf q16 b18 a0) fun q19 =>
            oB (oR q19.2 (some x) 5) fun b20 =>
            oB (fX5_put q19.2 b20 v17 a1 a2 q19.1 0 0) fun q21 =>
            oB (gI q21 (some x) 5 3) fun v22 =>
            oB (pV q21 (some x) 5 3 (DI (v22 + 1))) fun s23 =>
            oB (gI s23 (some x) 5 3) fun v24 =>
            some ((v24 - 1), s23)
          else
            oB (oR s1 (some x) 5) fun b25 =>
            oB (fX5_fail s1 b25 3) fun q26 =>
            some (q26.1, q26.2)
noncomputable def fX5_polish (st : DSt) (x : Nat) (a0 : Int32) : Option (Int32 × DSt) :=
  oB (pV st (some x) 5 0 (DI 0)) fun s1 =>
  oB (oR s1 (some x) 5) fun b2 =>
  oB (fX5_isSlab s1 b2 a0) fun q3 =>
  if q3 = 0 then
    oB (oR s1 (some x) 5) fun b10 =>
    oB (fX5_fail s1 b10 1) fun q11 =>
    some (q11.1, q11.2)
  else
    oB (oR s1 (some x) 5) fun b4 =>
    oB (fX5_sl s1 b4 a0 3) fun q5 =>
    oB (oR s1 (some x) 5) fun b6 =>
    oB (fX5_letSlab s1 b6 a0 3 (jmax 0 (q5 - 15))) fun q7 =>
    oB (oR q7 (some x) 5) fun b8 =>
    oB (fX5_sl q7 b8 a0 3) fun q9 =>
    some (q9, q7)
noncomputable def fX5_split (st : DSt) (x : Nat) (a0 : Int32) (a1 : Int32) (a2 : Int32) : Option (Int32 × DSt) :=
  oB (pV st (some x) 5 0 (DI 0)) fun s1 =>
  if a2 = 0 then
    oB (oR s1 (some x) 5) fun b2 =>
    oB (fX5_isSlab s1 b2 a0) fun q3 =>
    if q3 = 0 then
      oB (oR s1 (some x) 5) fun b4 =>
      oB (fX5_fail s1 b4 1) fun q5 =>
      some (q5.1, q5.2)
    else
      oB (oR s1 (some x) 5) fun b6 =>
      oB (fX5_sl s1 b6 a0 0) fun q7 =>
      oB (fX5_isIn s1 a1 1 (q7 - 1)) fun q8 =>
      if q8 = 0 then
        oB (oR s1 (some x) 5) fun b27 =>
        oB (fX5_fail s1 b27 1) fun q28 =>
        some (q28.1, q28.2)
      else
        oB (gI s1 (some x) 5 3) fun v9 =>
        if v9 = 8 then
          oB (oR s1 (some x) 5) fun b24 =>
          oB (fX5_fail s1 b24 2) fun q25 =>
          some (q25.1, q25.2)
        else
          oB (gR s1 (some x) 5 6) fun v10 =>
          oB (gR s1 (some x) 5 6) fun v11 =>
          oB (gI s1 (some x) 5 3) fun v12 =>
          oB (cpI s1 v10 (5 * a0) v11 (5 * v12) 5 0) fun s13 =>
          oB (gI s13 (some x) 5 3) fun v14 =>
          oB (oR s13 (some x) 5) fun b15 =>
          oB (fX5_sl s13 b15 a0 0) fun q16 =>
          oB (oR s13 (some x) 5) fun b17 =>
          oB (fX5_letSlab s13 b17 v14 0 (q16 - a1)) fun q18 =>
          oB (oR q18 (some x) 5) fun b19 =>
          oB (fX5_letSlab q18 b19 a0 0 a1) fun q20 =>
          oB (gI q20 (some x) 5 3) fun v21 =>
          oB (pV q20 (some x) 5 3 (DI (v21 + 1))) fun s22 =>
          oB (gI s22 (some x) 5 3) fun v23 =>
          some ((v23 - 1), s22)
  else
    oB (oR s1 (some x) 5) fun b31 =>
    oB (fX5_isSlab s1 b31 a0) fun q32 =>
    if q32 = 0 then
      oB (oR s1 (some x) 5) fun b33 =>
      oB (fX5_fail s1 b33 1) fun q34 =>
      some (q34.1, q34.2)
    else
      oB (oR s1 (some x) 5) fun b35 =>
      oB (fX5_sl s1 b35 a0 1) fun q36 =>
      oB (fX5_isIn s1 a1 1 (q36 - 1)) fun q37 =>
      if q37 = 0 then
        oB (oR s1 (some x) 5) fun b56 =>
        oB (fX5_fail s1 b56 1) fun q57 =>
        some (q57.1, q57.2)
      else
        oB (gI s1 (some x) 5 3) fun v38 =>
        if v38 = 8 then
          oB (oR s1 (some x) 5) fun b53 =>
          oB (fX5_fail s1 b53 2) fun q54 =>
          some (q54.1, q54.2)
        else
          oB (gR s1 (some x) 5 6) fun v39 =>
          oB (gR s1 (some x) 5 6) fun v40 =>
          oB (gI s1 (some x) 5 3) fun v41 =>
          oB (cpI s1 v39 (5 * a0) v40 (5 * v41) 5 0) fun s42 =>
          oB (gI s42 (some x) 5 3) fun v43 =>
          oB (oR s42 (some x) 5) fun b44 =>
          oB (fX5_sl s42 b44 a0 1) fun q45 =>
          oB (oR s42 (some x) 5) fun b46 =>
          oB (fX5_letSlab s42 b46 v43 1 (q45 - a1)) fun q47 =>
          oB (oR q47 (some x) 5) fun b48 =>
          oB (fX5_letSlab q47 b48 a0 1 a1) fun q49 =>
          oB (gI q49 (some x) 5 3) fun v50 =>
          oB (pV q49 (some x) 5 3 (DI (v50 + 1))) fun s51 =>
          oB (gI s51 (some x) 5 3) fun v52 =>
          some ((v52 - 1), s51)
noncomputable def fX5_melt (st : DSt) (x : Nat) (a0 : Int32) (a1 : Int32) : Option (Int32 × DSt) :=
  oB (pV st (some x) 5 0 (DI 0)) fun s1 =>
  oB (oR s1 (some x) 5) fun b2 =>
  oB (fX5_isSlab s1 b2 a0) fun q3 =>
  if q3 = 0 then
    oB (oR s1 (some x) 5) fun b4 =>
    oB (fX5_fail s1 b4 1) fun q5 =>
    some (q5.1, q5.2)
  else
    oB (oR s1 (some x) 5) fun b6 =>
    oB (fX5_isBowl s1 b6 a1) fun q7 =>
    if q7 = 0 then
      oB (oR s1 (some x) 5) fun b19 =>
      oB (fX5_fail s1 b19 1) fun q20 =>
      some (q20.1, q20.2)
    else
      oB (oR s1 (some x) 5) fun b8 =>
      oB (fX5_bo s1 b8 a1 0) fun q9 =>
      oB (oR s1 (some x) 5) fun b10 =>
      oB (fX5_squares s1 b10 a0) fun q11 =>
      if (q9 + (10 * q11)) ≤ 2000 then
        oB (oR s1 (some x) 5) fun b12 =>
        oB (fX5_letBowl s1 b12 a1 0 (q9 + (10 * q11))) fun q13 =>
        oB (oR q13 (some x) 5) fun b14 =>
        oB (fX5_away q13 b14 a0) fun q15 =>
        some ((q9 + (10 * q11)), q15)
      else
        oB (oR s1 (some x) 5) fun b16 =>
        oB (fX5_fail s1 b16 2) fun q17 =>
        some (q17.1, q17.2)
noncomputable def fX5_box (st : DSt) (x : Nat) (a0 : Int32) (a1 : Int32) : Option (Int32 × DSt) :=
  oB (pV st (some x) 5 0 (DI 0)) fun s1 =>
  oB (fX5_isIn s1 a0 1 36) fun q2 =>
  if q2 = 0 then
    oB (oR s1 (some x) 5) fun b3 =>
    oB (fX5_fail s1 b3 1) fun q4 =>
    some (q4.1, q4.2)
  else
    oB (fX5_isIn s1 a1 0 100) fun q5 =>
    if q5 = 0 then
      oB (oR s1 (some x) 5) fun b22 =>
      oB (fX5_fail s1 b22 1) fun q23 =>
      some (q23.1, q23.2)
    else
      oB (gI s1 (some x) 5 4) fun v6 =>
      if v6 = 6 then
        oB (oR s1 (some x) 5) fun b19 =>
        oB (fX5_fail s1 b19 2) fun q20 =>
        some (q20.1, q20.2)
      else
        oB (some (nC s1 (.inl (0, nI0 5)))) fun s7 =>
        oB (sI s7 (some s1.1) 0 0 a0) fun s8 =>
        oB (sI s8 (some s1.1) 0 1 a1) fun s9 =>
        oB (sI s9 (some s1.1) 0 2 0) fun s10 =>
        oB (sI s10 (some s1.1) 0 3 (-1)) fun s11 =>
        oB (sI s11 (some s1.1) 0 4 (-1)) fun s12 =>
        oB (gR s12 (some x) 5 7) fun v13 =>
        oB (gI s12 (some x) 5 4) fun v14 =>
        oB (cpI s12 (some s1.1) 0 v13 (5 * v14) 5 0) fun s15 =>
        oB (gI s15 (some x) 5 4) fun v16 =>
        oB (pV s15 (some x) 5 4 (DI (v16 + 1))) fun s17 =>
        oB (gI s17 (some x) 5 4) fun v18 =>
        some ((v18 - 1), s17)
noncomputable def fX5_fits (st : DSt) (x : Nat) (a0 : Int32) (a1 : Int32) : Option (Int32) :=
  oB (oR st (some x) 5) fun b1 =>
  oB (fX5_bx st b1 a1 2) fun q2 =>
  if q2 = 0 then
    oB (oR st (some x) 5) fun b4 =>
    oB (fX5_squares st b4 a0) fun q5 =>
    oB (oR st (some x) 5) fun b6 =>
    oB (fX5_bx st b6 a1 0) fun q7 =>
    if q5 = q7 then
      oB (oR st (some x) 5) fun b9 =>
      oB (fX5_sl st b9 a0 2) fun q10 =>
      oB (oR st (some x) 5) fun b11 =>
      oB (fX5_bx st b11 a1 1) fun q12 =>
      if q10 < q12 then
        oB (oZ 0) fun v13 =>
        some v13
      else
        oB (oR st (some x) 5) fun b14 =>
        oB (fX5_sl st b14 a0 3) fun q15 =>
        if 20 < q15 then
          oB (oZ 0) fun v16 =>
          some v16
        else
          oB (oZ 1) fun v17 =>
          some v17
    else
      oB (oZ 0) fun v8 =>
      some v8
  else
    oB (oZ 0) fun v3 =>
    some v3
noncomputable def fX5_fillOne_L2 (x : Nat) (a0 : Int32) (z1 : DSt × Int32) : Option ((DSt × Int32) ⊕ ((DSt × Int32) ⊕ (Int32 × DSt))) :=
  oB (gI z1.1 (some x) 5 3) fun v2 =>
  if v2 ≤ z1.2 then
    some (.inr (.inl (z1.1, z1.2)))
  else
    oB (oR z1.1 (some x) 5) fun b3 =>
    oB (fX5_fits z1.1 b3 z1.2 a0) fun q4 =>
    if q4 = 0 then
      some (.inl (z1.1, (z1.2 + 1)))
    else
      oB (gR z1.1 (some x) 5 7) fun v5 =>
      oB (sI z1.1 v5 0 ((5 * a0) + 2) 1) fun s6 =>
      oB (gR s6 (some x) 5 7) fun v7 =>
      oB (oR s6 (some x) 5) fun b8 =>
      oB (fX5_sl s6 b8 z1.2 2) fun q9 =>
      oB (sI s6 v7 0 ((5 * a0) + 3) q9) fun s10 =>
      oB (gR s10 (some x) 5 7) fun v11 =>
      oB (oR s10 (some x) 5) fun b12 =>
      oB (fX5_sl s10 b12 z1.2 3) fun q13 =>
      oB (sI s10 v11 0 ((5 * a0) + 4) q13) fun s14 =>
      oB (oR s14 (some x) 5) fun b15 =>
      oB (fX5_away s14 b15 z1.2) fun q16 =>
      oB (oZ 1) fun v17 =>
      some (.inr (.inr (v17, q16)))
noncomputable def fX5_fillOne (st : DSt) (x : Nat) (a0 : Int32) : Option (Int32 × DSt) :=
  oB (dlp (fX5_fillOne_L2 x a0) (st, 0)) fun b1 =>
  match b1 with
  | .inr r9 => some r9
  | .inl yb1 =>
    oB (oZ 0) fun v20 =>
    some (v20, yb1.1)
noncomputable def fX5_fillAll_L4 (x : Nat) (z1 : DSt × Int32 × Int32) : Option ((DSt × Int32 × Int32) ⊕ (DSt × Int32 × Int32)) :=
  oB (gI z1.1 (some x) 5 4) fun v2 =>
  if v2 ≤ z1.2.2 then
    some (.inr (z1.1, z1.2.1, z1.2.2))
  else
    oB (oR z1.1 (some x) 5) fun b3 =>
    oB (fX5_fillOne z1.1 b3 z1.2.2) fun q4 =>
    if q4.1 = 0 then
      some (.inl (q4.2, (z1.2.1 + 0), (z1.2.2 + 1)))
    else
      some (.inl (q4.2, (z1.2.1 + 1), (z1.2.2 + 1)))
noncomputable def fX5_fillAll (st : DSt) (x : Nat) : Option (Int32 × DSt) :=
  oB (dlp (fX5_fillAll_L4 x) (st, 0, 0)) fun b1 =>
  some (b1.2.1, b1.1)
noncomputable def fX5_fill (st : DSt) (x : Nat) : Option (Int32 × DSt) :=
  oB (pV st (some x) 5 0 (DI 0)) fun s1 =>
  oB (oR s1 (some x) 5) fun b2 =>
  oB (fX5_fillAll s1 b2) fun q3 =>
  some (q3.1, q3.2)
noncomputable def fX5_more (st : DSt) (x : Nat) (a0 : Int32) (a1 : Int32) : Option (Int32) :=
  oB (oR st (some x) 5) fun b1 =>
  oB (fX5_sl st b1 a0 2) fun q2 =>
  oB (oD (100 - q2) 10) fun v3 =>
  some (v3 + (2 * (jmax 0 (a1 - 24))))
noncomputable def fX5_bloomed_L4 (st : DSt) (x : Nat) (z1 : Int32 × Int32) : Option ((Int32 × Int32) ⊕ (Int32 × Int32)) :=
  oB (gI st (some x) 5 3) fun v2 =>
  if v2 ≤ z1.2 then
    some (.inr (z1.1, z1.2))
  else
    oB (oR st (some x) 5) fun b3 =>
    oB (fX5_sl st b3 z1.2 3) fun q4 =>
    if q4 ≤ 20 then
      some (.inl ((z1.1 + 0), (z1.2 + 1)))
    else
      some (.inl ((z1.1 + 1), (z1.2 + 1)))
noncomputable def fX5_bloomed (st : DSt) (x : Nat) : Option (Int32) :=
  oB (dlp (fX5_bloomed_L4 st x) (0, 0)) fun b1 =>
  some b1.1
noncomputable def fX5_pass_L34 (x : Nat) (a0 : Int32) (a1 : Int32) (z6 : DSt × Int32) : Option ((DSt × Int32) ⊕ (DSt × Int32)) :=
  oB (gI z6.1 (some x) 5 3) fun v7 =>
  if v7 ≤ z6.2 then
    some (.inr (z6.1, z6.2))
  else
    oB (oR z6.1 (some x) 5) fun b8 =>
    oB (fX5_sl z6.1 b8 z6.2 3) fun q9 =>
    oB (oR z6.1 (some x) 5) fun b10 =>
    oB (fX5_more z6.1 b10 z6.2 a0) fun q11 =>
    oB (oR z6.1 (some x) 5) fun b12 =>
    oB (fX5_letSlab z6.1 b12 z6.2 3 (jmin 100 (q9 + (a1 * q11)))) fun q13 =>
    oB (oR q13 (some x) 5) fun b14 =>
    oB (fX5_sl q13 b14 z6.2 4) fun q15 =>
    oB (oR q13 (some x) 5) fun b16 =>
    oB (fX5_letSlab q13 b16 z6.2 4 (q15 + a1)) fun q17 =>
    some (.inl (q17, (z6.2 + 1)))
noncomputable def fX5_pass (st : DSt) (x : Nat) (a0 : Int32) (a1 : Int32) : Option (Int32 × DSt) :=
  oB (pV st (some x) 5 0 (DI 0)) fun s1 =>
  oB (fX5_isIn s1 a0 10 40) fun q2 =>
  if q2 = 0 then
    oB (oR s1 (some x) 5) fun b3 =>
    oB (fX5_fail s1 b3 1) fun q4 =>
    some (q4.1, q4.2)
  else
    oB (fX5_isIn s1 a1 1 60) fun q5 =>
    if q5 = 0 then
      oB (oR s1 (some x) 5) fun b23 =>
      oB (fX5_fail s1 b23 1) fun q24 =>
      some (q24.1, q24.2)
    else
      oB (dlp (fX5_pass_L34 x a0 a1) (s1, 0)) fun b6 =>
      oB (gI b6.1 (some x) 5 1) fun v19 =>
      oB (pV b6.1 (some x) 5 1 (DI (v19 + a1))) fun s20 =>
      oB (oR s20 (some x) 5) fun b21 =>
      oB (fX5_bloomed s20 b21) fun q22 =>
      some (q22, s20)
noncomputable def fX5_bowlTold (st : DSt) (x : Nat) (a0 : Int32) (a1 : Int32) : Option (Int32 × DSt) :=
  if a1 = 7 then
    oB (oR st (some x) 5) fun b3 =>
    oB (fX5_temperOf st b3 a0) fun q4 =>
    some (q4.1, q4.2)
  else
    oB (oR st (some x) 5) fun b1 =>
    oB (fX5_bo st b1 a0 a1) fun q2 =>
    some (q2, st)
noncomputable def fX5_told (st : DSt) (x : Nat) (a0 : Int32) (a1 : Int32) : Option (Int32 × DSt) :=
  oB (pV st (some x) 5 0 (DI 0)) fun s1 =>
  oB (oR s1 (some x) 5) fun b2 =>
  oB (fX5_isBowl s1 b2 a0) fun q3 =>
  if q3 = 0 then
    oB (oR s1 (some x) 5) fun b4 =>
    oB (fX5_fail s1 b4 1) fun q5 =>
    some (q5.1, q5.2)
  else
    oB (fX5_isIn s1 a1 0 7) fun q6 =>
    if q6 = 0 then
      oB (oR s1 (some x) 5) fun b7 =>
      oB (fX5_fail s1 b7 1) fun q8 =>
      some (q8.1, q8.2)
    else
      oB (oR s1 (some x) 5) fun b9 =>
      oB (fX5_bowlTold s1 b9 a0 a1) fun q10 =>
      some (q10.1, q10.2)
noncomputable def fX5_slabTold_L25 (st : DSt) (x : Nat) (a0 : Int32) (z1 : Int32) : Option ((Int32) ⊕ ((Int32) ⊕ (Int32))) :=
  oB (gI st (some x) 5 4) fun v2 =>
  if v2 ≤ z1 then
    some (.inr (.inl z1))
  else
    oB (oR st (some x) 5) fun b3 =>
    oB (fX5_fits st b3 a0 z1) fun q4 =>
    if q4 = 0 then
      some (.inl (z1 + 1))
    else
      some (.inr (.inr z1))
noncomputable def fX5_slabTold (st : DSt) (x : Nat) (a0 : Int32) (a1 : Int32) : Option (Int32) :=
  if 5 ≤ a1 then
    if a1 = 5 then
      oB (oR st (some x) 5) fun b7 =>
      oB (fX5_squares st b7 a0) fun q8 =>
      some q8
    else
      oB (dlp (fX5_slabTold_L25 st x a0) 0) fun b1 =>
      match b1 with
      | .inr r9 => some r9
      | .inl yb1 =>
        some (-1)
  else
    oB (oR st (some x) 5) fun b10 =>
    oB (fX5_sl st b10 a0 a1) fun q11 =>
    some q11
noncomputable def fX5_about (st : DSt) (x : Nat) (a0 : Int32) (a1 : Int32) : Option (Int32 × DSt) :=
  oB (pV st (some x) 5 0 (DI 0)) fun s1 =>
  oB (oR s1 (some x) 5) fun b2 =>
  oB (fX5_isSlab s1 b2 a0) fun q3 =>
  if q3 = 0 then
    oB (oR s1 (some x) 5) fun b4 =>
    oB (fX5_fail s1 b4 1) fun q5 =>
    some (q5.1, q5.2)
  else
    oB (fX5_isIn s1 a1 0 6) fun q6 =>
    if q6 = 0 then
      oB (oR s1 (some x) 5) fun b7 =>
      oB (fX5_fail s1 b7 1) fun q8 =>
      some (q8.1, q8.2)
    else
      oB (oR s1 (some x) 5) fun b9 =>
      oB (fX5_slabTold s1 b9 a0 a1) fun q10 =>
      some (q10, s1)
noncomputable def fX5_order (st : DSt) (x : Nat) (a0 : Int32) (a1 : Int32) : Option (Int32 × DSt) :=
  oB (pV st (some x) 5 0 (DI 0)) fun s1 =>
  oB (gI s1 (some x) 5 4) fun v2 =>
  oB (fX5_isIn s1 a0 0 (v2 - 1)) fun q3 =>
  if q3 = 0 then
    oB (oR s1 (some x) 5) fun b4 =>
    oB (fX5_fail s1 b4 1) fun q5 =>
    some (q5.1, q5.2)
  else
    oB (fX5_isIn s1 a1 0 4) fun q6 =>
    if q6 = 0 then
      oB (oR s1 (some x) 5) fun b7 =>
      oB (fX5_fail s1 b7 1) fun q8 =>
      some (q8.1, q8.2)
    else
      oB (oR s1 (some x) 5) fun b9 =>
      oB (fX5_bx s1 b9 a0 a1) fun q10 =>
      some (q10, s1)
noncomputable def fX5_counted_L66 (st : DSt) (x : Nat) (z13 : Int32 × Int32) : Option ((Int32 × Int32) ⊕ (Int32 × Int32)) :=
  oB (gI st (some x) 5 4) fun v14 =>
  if v14 ≤ z13.2 then
    some (.inr (z13.1, z13.2))
  else
    oB (oR st (some x) 5) fun b15 =>
    oB (fX5_bx st b15 z13.2 2) fun q16 =>
    some (.inl ((z13.1 + q16), (z13.2 + 1)))
noncomputable def fX5_counted_L93 (st : DSt) (x : Nat) (z18 : Int32 × Int32) : Option ((Int32 × Int32) ⊕ (Int32 × Int32)) :=
  oB (gI st (some x) 5 2) fun v19 =>
  if v19 ≤ z18.2 then
    some (.inr (z18.1, z18.2))
  else
    oB (oR st (some x) 5) fun b20 =>
    oB (fX5_bo st b20 z18.2 0) fun q21 =>
    some (.inl ((z18.1 + q21), (z18.2 + 1)))
noncomputable def fX5_counted_L120 (st : DSt) (x : Nat) (z23 : Int32 × Int32) : Option ((Int32 × Int32) ⊕ (Int32 × Int32)) :=
  oB (gI st (some x) 5 3) fun v24 =>
  if v24 ≤ z23.2 then
    some (.inr (z23.1, z23.2))
  else
    oB (oR st (some x) 5) fun b25 =>
    oB (fX5_squares st b25 z23.2) fun q26 =>
    some (.inl ((z23.1 + q26), (z23.2 + 1)))
noncomputable def fX5_counted (st : DSt) (x : Nat) (a0 : Int32) : Option (Int32) :=
  if a0 = 0 then
    oB (gI st (some x) 5 1) fun v9 =>
    some v9
  else
  if a0 = 1 then
    oB (gI st (some x) 5 2) fun v10 =>
    some v10
  else
  if a0 = 2 then
    oB (gI st (some x) 5 3) fun v11 =>
    some v11
  else
  if a0 = 3 then
    oB (gI st (some x) 5 4) fun v12 =>
    some v12
  else
  if a0 = 4 then
    oB (dlp (fX5_counted_L66 st x) (0, 0)) fun b13 =>
    some b13.1
  else
  if a0 = 5 then
    oB (dlp (fX5_counted_L93 st x) (0, 0)) fun b18 =>
    some b18.1
  else
  if a0 = 6 then
    oB (dlp (fX5_counted_L120 st x) (0, 0)) fun b23 =>
    some b23.1
  else
  oB (oR st (some x) 5) fun b28 =>
  oB (fX5_bloomed st b28) fun q29 =>
  some q29
noncomputable def fX5_count (st : DSt) (x : Nat) (a0 : Int32) : Option (Int32 × DSt) :=
  oB (pV st (some x) 5 0 (DI 0)) fun s1 =>
  oB (fX5_isIn s1 a0 0 7) fun q2 =>
  if q2 = 0 then
    oB (oR s1 (some x) 5) fun b3 =>
    oB (fX5_fail s1 b3 1) fun q4 =>
    some (q4.1, q4.2)
  else
    oB (oR s1 (some x) 5) fun b5 =>
    oB (fX5_counted s1 b5 a0) fun q6 =>
    some (q6, s1)
noncomputable def fX5_would (st : DSt) (x : Nat) (a0 : Int32) (a1 : Int32) (a2 : Int32) : Option (Int32 × DSt) :=
  oB (pV st (some x) 5 0 (DI 0)) fun s1 =>
  oB (oR s1 (some x) 5) fun b2 =>
  oB (fX5_isBowl s1 b2 a0) fun q3 =>
  if q3 = 0 then
    oB (oR s1 (some x) 5) fun b15 =>
    oB (fX5_fail s1 b15 1) fun q16 =>
    some (q16.1, q16.2)
  else
    oB (oR s1 (some x) 5) fun b4 =>
    oB (fX5_isWarmth s1 b4 a1 a2) fun q5 =>
    if q5 = 0 then
      oB (oR s1 (some x) 5) fun b12 =>
      oB (fX5_fail s1 b12 2) fun q13 =>
      some (q13.1, q13.2)
    else
      oB (oR s1 (some x) 5) fun b6 =>
      oB (fX5_look s1 b6 a0) fun q7 =>
      oB (gR q7 (some x) 5 10) fun v8 =>
      oB (fX5_turns q7 v8 a1 a2) fun q9 =>
      oB (gR q9 (some x) 5 10) fun v10 =>
      oB (fX5_temper q9 v10) fun q11 =>
      some (q11, q9)
noncomputable def fX5_best_L101 (x : Nat) (a1 : Int32) (z8 : DSt × Int32 × Int32 × Int32 × Int32) (z18 : DSt × Int32 × Int32 × Int32 × Int32) : Option ((DSt × Int32 × Int32 × Int32 × Int32) ⊕ (DSt × Int32 × Int32 × Int32 × Int32)) :=
  if 50 < z18.2.2.2.2 then
    some (.inr (z18.1, z18.2.1, z18.2.2.1, z18.2.2.2.1, z18.2.2.2.2))
  else
    oB (gR z18.1 (some x) 5 11) fun v19 =>
    oB (gR z18.1 (some x) 5 10) fun v20 =>
    oB (gR z18.1 (some x) 5 10) fun v21 =>
    oB (aN z18.1 v21 0) fun v22 =>
    oB (cpI z18.1 v19 0 v20 0 v22 0) fun s23 =>
    oB (gR s23 (some x) 5 10) fun v24 =>
    oB (fX5_turns s23 v24 z18.2.2.2.2 a1) fun q25 =>
    oB (gR q25 (some x) 5 10) fun v26 =>
    oB (fX5_temper q25 v26) fun q27 =>
    if z18.2.1 < q27 then
      oB (gR q25 (some x) 5 10) fun v28 =>
      oB (fX5_temper q25 v28) fun q29 =>
      some (.inl (q25, q29, z8.2.2.2.2, z18.2.2.2.2, (z18.2.2.2.2 + 1)))
    else
      some (.inl (q25, z18.2.1, z18.2.2.1, z18.2.2.2.1, (z18.2.2.2.2 + 1)))
noncomputable def fX5_best_L57 (x : Nat) (a0 : Int32) (a1 : Int32) (z8 : DSt × Int32 × Int32 × Int32 × Int32) : Option ((DSt × Int32 × Int32 × Int32 × Int32) ⊕ (DSt × Int32 × Int32 × Int32 × Int32)) :=
  if 50 < z8.2.2.2.2 then
    some (.inr (z8.1, z8.2.1, z8.2.2.1, z8.2.2.2.1, z8.2.2.2.2))
  else
    oB (oR z8.1 (some x) 5) fun b9 =>
    oB (fX5_look z8.1 b9 a0) fun q10 =>
    oB (gR q10 (some x) 5 10) fun v11 =>
    oB (fX5_turns q10 v11 z8.2.2.2.2 a1) fun q12 =>
    oB (gR q12 (some x) 5 10) fun v13 =>
    oB (gR q12 (some x) 5 11) fun v14 =>
    oB (gR q12 (some x) 5 10) fun v15 =>
    oB (aN q12 v15 0) fun v16 =>
    oB (cpI q12 v13 0 v14 0 v16 0) fun s17 =>
    oB (dlp (fX5_best_L101 x a1 z8) (s17, z8.2.1, z8.2.2.1, z8.2.2.2.1, 15)) fun b18 =>
    some (.inl (b18.1, b18.2.1, b18.2.2.1, b18.2.2.2.1, (z8.2.2.2.2 + 1)))
noncomputable def fX5_best (st : DSt) (x : Nat) (a0 : Int32) (a1 : Int32) (a2 : Int32) : Option (Int32 × DSt) :=
  oB (pV st (some x) 5 0 (DI 0)) fun s1 =>
  oB (oR s1 (some x) 5) fun b2 =>
  oB (fX5_isBowl s1 b2 a0) fun q3 =>
  if q3 = 0 then
    oB (oR s1 (some x) 5) fun b4 =>
    oB (fX5_fail s1 b4 1) fun q5 =>
    some (q5.1, q5.2)
  else
    oB (fX5_isIn s1 a2 0 2) fun q6 =>
    if q6 = 0 then
      oB (oR s1 (some x) 5) fun b38 =>
      oB (fX5_fail s1 b38 1) fun q39 =>
      some (q39.1, q39.2)
    else
      oB (fX5_isIn s1 a1 1 10) fun q7 =>
      if q7 = 0 then
        oB (oR s1 (some x) 5) fun b35 =>
        oB (fX5_fail s1 b35 2) fun q36 =>
        some (q36.1, q36.2)
      else
        oB (dlp (fX5_best_L57 x a0 a1) (s1, (-1), 0, 0, 15)) fun b8 =>
        if a2 = 0 then
          some (b8.2.2.1, b8.1)
        else
          if a2 = 1 then
            some (b8.2.2.2.1, b8.1)
          else
            some (b8.2.1, b8.1)
noncomputable def fX5_until (st : DSt) (x : Nat) (a0 : Int32) (a1 : Int32) : Option (Int32 × DSt) :=
  oB (pV st (some x) 5 0 (DI 0)) fun s1 =>
  oB (oR s1 (some x) 5) fun b2 =>
  oB (fX5_isSlab s1 b2 a0) fun q3 =>
  if q3 = 0 then
    oB (oR s1 (some x) 5) fun b15 =>
    oB (fX5_fail s1 b15 1) fun q16 =>
    some (q16.1, q16.2)
  else
    oB (fX5_isIn s1 a1 10 40) fun q4 =>
    if q4 = 0 then
      oB (oR s1 (some x) 5) fun b12 =>
      oB (fX5_fail s1 b12 2) fun q13 =>
      some (q13.1, q13.2)
    else
      oB (oR s1 (some x) 5) fun b5 =>
      oB (fX5_sl s1 b5 a0 3) fun q6 =>
      oB (oR s1 (some x) 5) fun b7 =>
      oB (fX5_more s1 b7 a0 a1) fun q8 =>
      if 0 < (21 - q6) then
        if q8 = 0 then
          some ((-1), s1)
        else
          oB (oD (((21 - q6) + q8) - 1) q8) fun v9 =>
          some (v9, s1)
      else
        some (0, s1)
noncomputable def fX5_filledBy (st : DSt) (x : Nat) (a0 : Int32) : Option (Int32 × DSt) :=
  oB (gI st (some x) 5 3) fun v1 =>
  oB (gR st (some x) 5 6) fun v2 =>
  oB (gR st (some x) 5 8) fun v3 =>
  oB (gR st (some x) 5 6) fun v4 =>
  oB (aN st v4 0) fun v5 =>
  oB (cpI st v2 0 v3 0 v5 0) fun s6 =>
  oB (gR s6 (some x) 5 7) fun v7 =>
  oB (gR s6 (some x) 5 9) fun v8 =>
  oB (gR s6 (some x) 5 7) fun v9 =>
  oB (aN s6 v9 0) fun v10 =>
  oB (cpI s6 v7 0 v8 0 v10 0) fun s11 =>
  if a0 = (-1) then
    oB (oR s11 (some x) 5) fun b12 =>
    oB (fX5_fillAll s11 b12) fun q13 =>
    oB (pV q13.2 (some x) 5 3 (DI v1)) fun s14 =>
    oB (gR s14 (some x) 5 8) fun v15 =>
    oB (gR s14 (some x) 5 6) fun v16 =>
    oB (gR s14 (some x) 5 6) fun v17 =>
    oB (aN s14 v17 0) fun v18 =>
    oB (cpI s14 v15 0 v16 0 v18 0) fun s19 =>
    oB (gR s19 (some x) 5 9) fun v20 =>
    oB (gR s19 (some x) 5 7) fun v21 =>
    oB (gR s19 (some x) 5 7) fun v22 =>
    oB (aN s19 v22 0) fun v23 =>
    oB (cpI s19 v20 0 v21 0 v23 0) fun s24 =>
    some (q13.1, s24)
  else
    oB (oR s11 (some x) 5) fun b25 =>
    oB (fX5_sl s11 b25 a0 3) fun q26 =>
    oB (oR s11 (some x) 5) fun b27 =>
    oB (fX5_letSlab s11 b27 a0 3 (jmax 0 (q26 - 15))) fun q28 =>
    oB (oR q28 (some x) 5) fun b29 =>
    oB (fX5_fillAll q28 b29) fun q30 =>
    oB (pV q30.2 (some x) 5 3 (DI v1)) fun s31 =>
    oB (gR s31 (some x) 5 8) fun v32 =>
    oB (gR s31 (some x) 5 6) fun v33 =>
    oB (gR s31 (some x) 5 6) fun v34 =>
    oB (aN s31 v34 0) fun v35 =>
    oB (cpI s31 v32 0 v33 0 v35 0) fun s36 =>
    oB (gR s36 (some x) 5 9) fun v37 =>
    oB (gR s36 (some x) 5 7) fun v38 =>
    oB (gR s36 (some x) 5 7) fun v39 =>
    oB (aN s36 v39 0) fun v40 =>
    oB (cpI s36 v37 0 v38 0 v40 0) fun s41 =>
    some (q30.1, s41)
noncomputable def fX5_advise_L15 (x : Nat) (z4 : DSt × Int32 × Int32 × Int32) : Option ((DSt × Int32 × Int32 × Int32) ⊕ (DSt × Int32 × Int32 × Int32)) :=
  oB (gI z4.1 (some x) 5 3) fun v5 =>
  if v5 ≤ z4.2.2.2 then
    some (.inr (z4.1, z4.2.1, z4.2.2.1, z4.2.2.2))
  else
    oB (oR z4.1 (some x) 5) fun b6 =>
    oB (fX5_filledBy z4.1 b6 z4.2.2.2) fun q7 =>
    if z4.2.2.1 < q7.1 then
      some (.inl (q7.2, z4.2.2.2, q7.1, (z4.2.2.2 + 1)))
    else
      some (.inl (q7.2, z4.2.1, z4.2.2.1, (z4.2.2.2 + 1)))
noncomputable def fX5_advise (st : DSt) (x : Nat) : Option (Int32 × DSt) :=
  oB (pV st (some x) 5 0 (DI 0)) fun s1 =>
  oB (oR s1 (some x) 5) fun b2 =>
  oB (fX5_filledBy s1 b2 (-1)) fun q3 =>
  oB (dlp (fX5_advise_L15 x) (q3.2, (-1), q3.1, 0)) fun b4 =>
  some (b4.2.1, b4.1)
noncomputable def fX5_mean_L9 (x : Nat) (s1 : DSt) (z2 : Int32 × Int32) : Option ((Int32 × Int32) ⊕ (Int32 × Int32)) :=
  oB (gI s1 (some x) 5 3) fun v3 =>
  if v3 ≤ z2.2 then
    some (.inr (z2.1, z2.2))
  else
    oB (oR s1 (some x) 5) fun b4 =>
    oB (fX5_sl s1 b4 z2.2 3) fun q5 =>
    some (.inl ((z2.1 + q5), (z2.2 + 1)))
noncomputable def fX5_mean (st : DSt) (x : Nat) : Option (UInt64 × DSt) :=
  oB (pV st (some x) 5 0 (DI 0)) fun s1 =>
  oB (dlp (fX5_mean_L9 x s1) (0, 0)) fun b2 =>
  oB (gI s1 (some x) 5 3) fun v7 =>
  if v7 = 0 then
    some (FP.dconst0, s1)
  else
    oB (gI s1 (some x) 5 3) fun v8 =>
    oB (oDD (FP.i2d b2.1) (FP.i2d v8)) fun v9 =>
    some (v9, s1)
noncomputable def fX5_digest_L11 (x : Nat) (s1 : DSt) (z2 : Int64 × Int32) : Option ((Int64 × Int32) ⊕ (Int64 × Int32)) :=
  if 8 ≤ z2.2 then
    some (.inr (z2.1, z2.2))
  else
    oB (oR s1 (some x) 5) fun b3 =>
    oB (fX5_counted s1 b3 z2.2) fun q4 =>
    some (.inl (((z2.1 * 31) + (q4).toInt64), (z2.2 + 1)))
noncomputable def fX5_digest_L49 (x : Nat) (z6 : DSt × Int64 × Int32) (z8 : DSt × Int64 × Int32) : Option ((DSt × Int64 × Int32) ⊕ (DSt × Int64 × Int32)) :=
  if 8 ≤ z8.2.2 then
    some (.inr (z8.1, z8.2.1, z8.2.2))
  else
    oB (oR z8.1 (some x) 5) fun b9 =>
    oB (fX5_bowlTold z8.1 b9 z6.2.2 z8.2.2) fun q10 =>
    some (.inl (q10.2, ((z8.2.1 * 31) + (q10.1).toInt64), (z8.2.2 + 1)))
noncomputable def fX5_digest_L38 (x : Nat) (z6 : DSt × Int64 × Int32) : Option ((DSt × Int64 × Int32) ⊕ (DSt × Int64 × Int32)) :=
  oB (gI z6.1 (some x) 5 2) fun v7 =>
  if v7 ≤ z6.2.2 then
    some (.inr (z6.1, z6.2.1, z6.2.2))
  else
    oB (dlp (fX5_digest_L49 x z6) (z6.1, z6.2.1, 0)) fun b8 =>
    some (.inl (b8.1, b8.2.1, (z6.2.2 + 1)))
noncomputable def fX5_digest_L96 (x : Nat) (b6 : DSt × Int64 × Int32) (z13 : Int64 × Int32) (z15 : Int64 × Int32) : Option ((Int64 × Int32) ⊕ (Int64 × Int32)) :=
  if 7 ≤ z15.2 then
    some (.inr (z15.1, z15.2))
  else
    oB (oR b6.1 (some x) 5) fun b16 =>
    oB (fX5_slabTold b6.1 b16 z13.2 z15.2) fun q17 =>
    some (.inl (((z15.1 * 31) + (q17).toInt64), (z15.2 + 1)))
noncomputable def fX5_digest_L85 (x : Nat) (b6 : DSt × Int64 × Int32) (z13 : Int64 × Int32) : Option ((Int64 × Int32) ⊕ (Int64 × Int32)) :=
  oB (gI b6.1 (some x) 5 3) fun v14 =>
  if v14 ≤ z13.2 then
    some (.inr (z13.1, z13.2))
  else
    oB (dlp (fX5_digest_L96 x b6 z13) (z13.1, 0)) fun b15 =>
    some (.inl (b15.1, (z13.2 + 1)))
noncomputable def fX5_digest_L143 (x : Nat) (b6 : DSt × Int64 × Int32) (z20 : Int64 × Int32) (z22 : Int64 × Int32) : Option ((Int64 × Int32) ⊕ (Int64 × Int32)) :=
  if 5 ≤ z22.2 then
    some (.inr (z22.1, z22.2))
  else
    oB (oR b6.1 (some x) 5) fun b23 =>
    oB (fX5_bx b6.1 b23 z20.2 z22.2) fun q24 =>
    some (.inl (((z22.1 * 31) + (q24).toInt64), (z22.2 + 1)))
noncomputable def fX5_digest_L132 (x : Nat) (b6 : DSt × Int64 × Int32) (z20 : Int64 × Int32) : Option ((Int64 × Int32) ⊕ (Int64 × Int32)) :=
  oB (gI b6.1 (some x) 5 4) fun v21 =>
  if v21 ≤ z20.2 then
    some (.inr (z20.1, z20.2))
  else
    oB (dlp (fX5_digest_L143 x b6 z20) (z20.1, 0)) fun b22 =>
    some (.inl (b22.1, (z20.2 + 1)))
noncomputable def fX5_digest (st : DSt) (x : Nat) : Option (Int64 × DSt) :=
  oB (pV st (some x) 5 0 (DI 0)) fun s1 =>
  oB (dlp (fX5_digest_L11 x s1) (1789, 0)) fun b2 =>
  oB (dlp (fX5_digest_L38 x) (s1, b2.1, 0)) fun b6 =>
  oB (dlp (fX5_digest_L85 x b6) (b6.2.1, 0)) fun b13 =>
  oB (dlp (fX5_digest_L132 x b6) (b13.1, 0)) fun b20 =>
  some (b20.1, b6.1)
