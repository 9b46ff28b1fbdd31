/-! THE METHODS AS FUNCTIONS OVER THE ABSTRACT HEAP, written by program out of the bytecode -/
/-- division of doubles that is no NaN -/
noncomputable def oDD (x y : UInt64) : Option UInt64 := @ite _ (vf_n64 (FP.ddiv x y)) (Classical.propDecidable _) (some (FP.ddiv x y)) none
theorem oDD_spec {x y z : UInt64} (h : oDD x y = some z) : vf_n64 (FP.ddiv x y) ∧ z = FP.ddiv x y := by
  unfold oDD at h
  split at h
  · rename_i h0
    cases h
    exact ⟨h0, rfl⟩
  · cases h
theorem r_ddivO {Y : DY} {cc : ByteArray} {own : String} {rm : Room} {cs ss pc : Nat} {st : DSt} {lv : List (Nat × DV)} {stk : List DV} {x y z : UInt64} (C : dm_C Y cc own rm) (hd : decode cc pc = .ok (.ddiv, 1)) (hz : oDD x y = some z) (k : dm_W Y cs ss st (pc + 1) lv (DD z :: stk)) : dm_W Y cs ss st pc lv (DD y :: DD x :: stk) := by
  obtain ⟨h0, rfl⟩ := oDD_spec hz
  exact r_ddiv C hd h0 k
theorem f0xI {x v : Int32} {s t : DSt} (h : some (Sum.inr (x, s) : (String × DHp) ⊕ (Int32 × DSt)) = some (.inr (v, t))) : some (DI x) = some (DI v) ∧ s = t := by cases h; exact ⟨rfl, rfl⟩
theorem f0pI {x v : Int32} {s : DSt} (h : some (Sum.inr x : (String × DHp) ⊕ Int32) = some (.inr v)) : some (DI x) = some (DI v) ∧ s = s := by cases h; exact ⟨rfl, rfl⟩
theorem f0pR {x v : Option Nat} {s : DSt} (h : some (Sum.inr x : (String × DHp) ⊕ Option Nat) = some (.inr v)) : some (DR x) = some (DR v) ∧ s = s := by cases h; exact ⟨rfl, rfl⟩
noncomputable def fX2_init (st : DSt) (x : Nat) : Option (DSt) :=
  oB (some (nC st (.inl (0, nI0 6)))) fun s1 =>
  oB (pV s1 (some x) 2 0 (DR (some st.1))) fun s2 =>
  some s2
noncomputable def fX0_init (st : DSt) (x : Nat) (a0 : Int32) : Option (DSt) :=
  oB (some (nC st (.inr (2, [DR none])))) fun s1 =>
  oB (fX2_init s1 st.1) fun q2 =>
  oB (pV q2 (some x) 0 0 (DR (some st.1))) fun s3 =>
  oB (pV s3 (some x) 0 1 (DI a0)) fun s4 =>
  oB (pV s4 (some x) 0 2 (DI 20)) fun s5 =>
  some s5
noncomputable def fX0_mixed (st : DSt) (x : Nat) (a0 : Int32) (a1 : Int32) (a2 : Int32) : Option (Int32) :=
  oB (gI st (some x) 0 1) fun v1 =>
  if 0 < (v1 + a2) then
    oB (gI st (some x) 0 1) fun v2 =>
    oB (oD ((a0 * v2) + (a1 * a2)) (v1 + a2)) fun v3 =>
    some v3
  else
    some a0
noncomputable def fX2_vanish_L2 (x : Nat) (z1 : DSt × Int32) : Option ((DSt × Int32) ⊕ (DSt × Int32)) :=
  if 5 < z1.2 then
    some (.inr (z1.1, z1.2))
  else
    oB (gR z1.1 (some x) 2 0) fun v2 =>
    oB (sI z1.1 v2 0 z1.2 0) fun s3 =>
    some (.inl (s3, (z1.2 + 1)))
noncomputable def fX2_vanish (st : DSt) (x : Nat) : Option (DSt) :=
  oB (dlp (fX2_vanish_L2 x) (st, 1)) fun b1 =>
  some b1.1
noncomputable def fX0_takeIn_L2 (x : Nat) (a0 : Option Nat) (z1 : DSt × Int32) : Option ((DSt × Int32) ⊕ (DSt × Int32)) :=
  if 5 < z1.2 then
    some (.inr (z1.1, z1.2))
  else
    oB (gR z1.1 (some x) 0 0) fun v2 =>
    oB (gR z1.1 v2 2 0) fun v3 =>
    oB (gR z1.1 (some x) 0 0) fun v4 =>
    oB (gR z1.1 v4 2 0) fun v5 =>
    oB (aI z1.1 v5 0 z1.2) fun v6 =>
    oB (gR z1.1 a0 0 0) fun v7 =>
    oB (gR z1.1 v7 2 0) fun v8 =>
    oB (aI z1.1 v8 0 z1.2) fun v9 =>
    oB (gI z1.1 a0 0 1) fun v10 =>
    oB (oR z1.1 (some x) 0) fun b11 =>
    oB (fX0_mixed z1.1 b11 v6 v9 v10) fun q12 =>
    oB (sI z1.1 v3 0 z1.2 q12) fun s13 =>
    some (.inl (s13, (z1.2 + 1)))
noncomputable def fX0_takeIn (st : DSt) (x : Nat) (a0 : Option Nat) : Option (DSt) :=
  oB (dlp (fX0_takeIn_L2 x a0) (st, 1)) fun b1 =>
  oB (gI b1.1 (some x) 0 2) fun v15 =>
  oB (gI b1.1 a0 0 2) fun v16 =>
  oB (gI b1.1 a0 0 1) fun v17 =>
  oB (oR b1.1 (some x) 0) fun b18 =>
  oB (fX0_mixed b1.1 b18 v15 v16 v17) fun q19 =>
  oB (pV b1.1 (some x) 0 2 (DI q19)) fun s20 =>
  oB (gI s20 (some x) 0 1) fun v21 =>
  oB (gI s20 a0 0 1) fun v22 =>
  oB (pV s20 (some x) 0 1 (DI (v21 + v22))) fun s23 =>
  oB (pV s23 a0 0 1 (DI 0)) fun s24 =>
  oB (gR s24 a0 0 0) fun v25 =>
  oB (oR s24 v25 2) fun b26 =>
  oB (fX2_vanish s24 b26) fun q27 =>
  some q27
noncomputable def fX1_init (st : DSt) (x : Nat) (a0 : Int32) (a1 : Int32) : Option (DSt) :=
  oB (pV st (some x) 1 0 (DI a0)) fun s1 =>
  oB (pV s1 (some x) 1 1 (DI a1)) fun s2 =>
  oB (pV s2 (some x) 1 3 (DI (-1))) fun s3 =>
  oB (pV s3 (some x) 1 4 (DI (-1))) fun s4 =>
  some s4
noncomputable def fX3_squares (st : DSt) (x : Nat) : Option (Int32) :=
  oB (gI st (some x) 3 1) fun v1 =>
  oB (gI st (some x) 3 2) fun v2 =>
  some (v1 * v2)
noncomputable def fX1_suits (st : DSt) (x : Nat) (a0 : Option Nat) (a1 : Int32) : Option (Int32) :=
  oB (oR st a0 3) fun b1 =>
  oB (fX3_squares st b1) fun q2 =>
  oB (gI st (some x) 1 0) fun v3 =>
  if q2 = v3 then
    oB (gI st a0 3 0) fun v5 =>
    oB (gI st (some x) 1 1) fun v6 =>
    if v5 < v6 then
      oB (oZ 0) fun v7 =>
      some v7
    else
      if 20 < a1 then
        oB (oZ 0) fun v8 =>
        some v8
      else
        oB (oZ 1) fun v9 =>
        some v9
  else
    oB (oZ 0) fun v4 =>
    some v4
noncomputable def fX1_take (st : DSt) (x : Nat) (a0 : Option Nat) : Option (DSt) :=
  oB (pV st (some x) 1 2 (DI 1)) fun s1 =>
  oB (gI s1 a0 3 0) fun v2 =>
  oB (pV s1 (some x) 1 3 (DI v2)) fun s3 =>
  oB (gI s3 a0 3 3) fun v4 =>
  oB (pV s3 (some x) 1 4 (DI v4)) fun s5 =>
  some s5
noncomputable def fX2_meltingPoint (st : DSt) (a0 : Int32) : Option (Int32) :=
  some (15 + (4 * a0))
noncomputable def fX2_halveWhatMelts_L2 (x : Nat) (a0 : Int32) (z1 : DSt × Int32) : Option ((DSt × Int32) ⊕ (DSt × Int32)) :=
  if 5 < z1.2 then
    some (.inr (z1.1, z1.2))
  else
    oB (fX2_meltingPoint z1.1 z1.2) fun q2 =>
    if a0 < q2 then
      some (.inl (z1.1, (z1.2 + 1)))
    else
      oB (gR z1.1 (some x) 2 0) fun v3 =>
      oB (aI z1.1 v3 0 z1.2) fun v4 =>
      oB (oD v4 2) fun v5 =>
      oB (sI z1.1 v3 0 z1.2 v5) fun s6 =>
      some (.inl (s6, (z1.2 + 1)))
noncomputable def fX2_halveWhatMelts (st : DSt) (x : Nat) (a0 : Int32) : Option (DSt) :=
  oB (dlp (fX2_halveWhatMelts_L2 x a0) (st, 1)) fun b1 =>
  some b1.1
noncomputable def fX2_growingSort_L2 (st : DSt) (a0 : Int32) (z1 : Int32) : Option ((Int32) ⊕ ((Int32) ⊕ (Int32))) :=
  if 5 < z1 then
    some (.inr (.inl z1))
  else
    oB (fX2_meltingPoint st z1) fun q2 =>
    if q2 ≤ (a0 + 3) then
      some (.inl (z1 + 1))
    else
      some (.inr (.inr z1))
noncomputable def fX2_growingSort (st : DSt) (a0 : Int32) : Option (Int32) :=
  oB (dlp (fX2_growingSort_L2 st a0) 1) fun b1 =>
  match b1 with
  | .inr r9 => some r9
  | .inl yb1 =>
    some 5
noncomputable def fX2_total_L4 (st : DSt) (x : Nat) (z1 : Int32 × Int32) : Option ((Int32 × Int32) ⊕ (Int32 × Int32)) :=
  if 5 < z1.2 then
    some (.inr (z1.1, z1.2))
  else
    oB (gR st (some x) 2 0) fun v2 =>
    oB (aI st v2 0 z1.2) fun v3 =>
    some (.inl ((z1.1 + v3), (z1.2 + 1)))
noncomputable def fX2_total (st : DSt) (x : Nat) : Option (Int32) :=
  oB (dlp (fX2_total_L4 st x) (0, 1)) fun b1 =>
  some b1.1
noncomputable def fX2_increase (st : DSt) (x : Nat) (a0 : Int32) (a1 : Int32) : Option (DSt) :=
  oB (gR st (some x) 2 0) fun v1 =>
  oB (aI st v1 0 a0) fun v2 =>
  oB (oR st (some x) 2) fun b3 =>
  oB (fX2_total st b3) fun q4 =>
  oB (sI st v1 0 a0 (v2 + (jmax 0 (jmin a1 (100 - q4))))) fun s5 =>
  some s5
noncomputable def fX2_letGrow (st : DSt) (x : Nat) (a0 : Int32) : Option (DSt) :=
  if 34 ≤ a0 then
    some st
  else
    oB (fX2_growingSort st a0) fun q1 =>
    oB (gR st (some x) 2 0) fun v2 =>
    oB (aI st v2 0 q1) fun v3 =>
    oB (oD v3 4) fun v4 =>
    oB (oR st (some x) 2) fun b5 =>
    oB (fX2_increase st b5 q1 (8 + v4)) fun q6 =>
    some q6
noncomputable def fX2_keepAt_L2 (x : Nat) (a0 : Int32) (a1 : Int32) (z1 : DSt × Int32) : Option ((DSt × Int32) ⊕ (DSt × Int32)) :=
  if a1 ≤ z1.2 then
    some (.inr (z1.1, z1.2))
  else
    oB (oR z1.1 (some x) 2) fun b2 =>
    oB (fX2_halveWhatMelts z1.1 b2 a0) fun q3 =>
    oB (oR q3 (some x) 2) fun b4 =>
    oB (fX2_letGrow q3 b4 a0) fun q5 =>
    some (.inl (q5, (z1.2 + 1)))
noncomputable def fX2_keepAt (st : DSt) (x : Nat) (a0 : Int32) (a1 : Int32) : Option (DSt) :=
  oB (dlp (fX2_keepAt_L2 x a0 a1) (st, 0)) fun b1 =>
  some b1.1
noncomputable def fX2_temper (st : DSt) (x : Nat) : Option (Int32) :=
  oB (gR st (some x) 2 0) fun v1 =>
  oB (aI st v1 0 5) fun v2 =>
  oB (gR st (some x) 2 0) fun v3 =>
  oB (aI st v3 0 4) fun v4 =>
  oB (gR st (some x) 2 0) fun v5 =>
  oB (aI st v5 0 1) fun v6 =>
  oB (gR st (some x) 2 0) fun v7 =>
  oB (aI st v7 0 2) fun v8 =>
  oB (gR st (some x) 2 0) fun v9 =>
  oB (aI st v9 0 3) fun v10 =>
  some (jmax 0 (jmin (((((2 * v2) + v4) - v6) - v8) - v10) 100))
noncomputable def fX3_init (st : DSt) (x : Nat) (a0 : Int32) (a1 : Int32) (a2 : Int32) : Option (DSt) :=
  oB (pV st (some x) 3 1 (DI a0)) fun s1 =>
  oB (pV s1 (some x) 3 2 (DI a1)) fun s2 =>
  oB (pV s2 (some x) 3 0 (DI a2)) fun s3 =>
  some s3
noncomputable def fX3_grams (st : DSt) (x : Nat) : Option (Int32) :=
  oB (oR st (some x) 3) fun b1 =>
  oB (fX3_squares st b1) fun q2 =>
  some (q2 * 10)
noncomputable def fX3_isBloomed (st : DSt) (x : Nat) : Option (Int32) :=
  oB (gI st (some x) 3 3) fun v1 =>
  if v1 ≤ 20 then
    oB (oZ 0) fun v2 =>
    some v2
  else
    oB (oZ 1) fun v3 =>
    some v3
noncomputable def fX3_bloomBehindPolish (st : DSt) (x : Nat) : Option (Int32) :=
  oB (gI st (some x) 3 3) fun v1 =>
  some (jmax 0 (v1 - 15))
noncomputable def fX3_bloomOfADay (st : DSt) (x : Nat) (a0 : Int32) : Option (Int32) :=
  oB (gI st (some x) 3 0) fun v1 =>
  oB (oD (100 - v1) 10) fun v2 =>
  some (v2 + (2 * (jmax 0 (a0 - 24))))
noncomputable def fX3_standFor (st : DSt) (x : Nat) (a0 : Int32) (a1 : Int32) : Option (DSt) :=
  oB (gI st (some x) 3 3) fun v1 =>
  oB (oR st (some x) 3) fun b2 =>
  oB (fX3_bloomOfADay st b2 a1) fun q3 =>
  oB (pV st (some x) 3 3 (DI (jmin 100 (v1 + (a0 * q3))))) fun s4 =>
  oB (gI s4 (some x) 3 4) fun v5 =>
  oB (pV s4 (some x) 3 4 (DI (v5 + a0))) fun s6 =>
  some s6
noncomputable def fX3_partBehind (st : DSt) (x : Nat) (a0 : Int32) (a1 : Int32) : Option (Option Nat × DSt) :=
  if a1 = 0 then
    oB (some (nC st (.inr (3, [DI 0, DI 0, DI 0, DI 0, DI 0])))) fun s1 =>
    oB (gI s1 (some x) 3 1) fun v2 =>
    oB (gI s1 (some x) 3 2) fun v3 =>
    oB (gI s1 (some x) 3 0) fun v4 =>
    oB (fX3_init s1 st.1 (v2 - a0) v3 v4) fun q5 =>
    oB (gI q5 (some x) 3 3) fun v6 =>
    oB (pV q5 (some st.1) 3 3 (DI v6)) fun s7 =>
    oB (gI s7 (some x) 3 4) fun v8 =>
    oB (pV s7 (some st.1) 3 4 (DI v8)) fun s9 =>
    some ((some st.1), s9)
  else
    oB (some (nC st (.inr (3, [DI 0, DI 0, DI 0, DI 0, DI 0])))) fun s10 =>
    oB (gI s10 (some x) 3 1) fun v11 =>
    oB (gI s10 (some x) 3 2) fun v12 =>
    oB (gI s10 (some x) 3 0) fun v13 =>
    oB (fX3_init s10 st.1 v11 (v12 - a0) v13) fun q14 =>
    oB (gI q14 (some x) 3 3) fun v15 =>
    oB (pV q14 (some st.1) 3 3 (DI v15)) fun s16 =>
    oB (gI s16 (some x) 3 4) fun v17 =>
    oB (pV s16 (some st.1) 3 4 (DI v17)) fun s18 =>
    some ((some st.1), s18)
noncomputable def fX3_cutDownTo (st : DSt) (x : Nat) (a0 : Int32) (a1 : Int32) : Option (DSt) :=
  if a1 = 0 then
    oB (pV st (some x) 3 1 (DI a0)) fun s1 =>
    some s1
  else
    oB (pV st (some x) 3 2 (DI a0)) fun s2 =>
    some s2
noncomputable def fX4_init (st : DSt) (x : Nat) : Option (DSt) :=
  oB (some (nC st (.inl (2, nR0 5)))) fun s1 =>
  oB (pV s1 (some x) 4 0 (DR (some st.1))) fun s2 =>
  oB (some (nC s2 (.inl (3, nR0 8)))) fun s3 =>
  oB (pV s3 (some x) 4 1 (DR (some s2.1))) fun s4 =>
  oB (some (nC s4 (.inl (4, nR0 6)))) fun s5 =>
  oB (pV s5 (some x) 4 2 (DR (some s4.1))) fun s6 =>
  oB (some (nC s6 (.inr (2, [DR none])))) fun s7 =>
  oB (fX2_init s7 s6.1) fun q8 =>
  oB (pV q8 (some x) 4 7 (DR (some s6.1))) fun s9 =>
  oB (some (nC s9 (.inr (2, [DR none])))) fun s10 =>
  oB (fX2_init s10 s9.1) fun q11 =>
  oB (pV q11 (some x) 4 8 (DR (some s9.1))) fun s12 =>
  oB (some (nC s12 (.inl (0, nI0 6)))) fun s13 =>
  oB (pV s13 (some x) 4 9 (DR (some s12.1))) fun s14 =>
  oB (some (nC s14 (.inl (1, nI0 8)))) fun s15 =>
  oB (pV s15 (some x) 4 10 (DR (some s14.1))) fun s16 =>
  some s16
noncomputable def fX4_bowl (st : DSt) (x : Nat) (a0 : Int32) : Option ((String × DHp) ⊕ (Int32 × DSt)) :=
  if a0 < 0 then
    some (.inl ("java/lang/IllegalArgumentException", st.2))
  else
    if a0 ≤ 2000 then
      oB (gI st (some x) 4 3) fun v1 =>
      if v1 < 5 then
        oB (gR st (some x) 4 0) fun v2 =>
        oB (some (nC st (.inr (0, [DR none, DI 0, DI 0])))) fun s3 =>
        oB (fX0_init s3 st.1 a0) fun q4 =>
        oB (sR q4 v2 2 0 v1 (some st.1)) fun s5 =>
        oB (pV s5 (some x) 4 3 (DI (v1 + 1))) fun s6 =>
        some (.inr (v1, s6))
      else
        some (.inl ("java/lang/IllegalStateException", st.2))
    else
      some (.inl ("java/lang/IllegalArgumentException", st.2))
noncomputable def fX4_bowlAt (st : DSt) (x : Nat) (a0 : Int32) : Option ((String × DHp) ⊕ (Option Nat)) :=
  if a0 < 0 then
    some (.inl ("java/lang/IndexOutOfBoundsException", st.2))
  else
    if a0 < 5 then
      oB (gR st (some x) 4 0) fun v2 =>
      oB (aR st v2 2 a0) fun v3 =>
      oN v3 (
        some (.inl ("java/lang/IndexOutOfBoundsException", st.2))
      ) fun n5 =>
      some (.inr (some n5))
    else
      some (.inl ("java/lang/IndexOutOfBoundsException", st.2))
noncomputable def fX4_checkWarming (st : DSt) (a0 : Int32) (a1 : Int32) : Option ((String × DHp) ⊕ (Unit)) :=
  if a0 < 15 then
    some (.inl ("java/lang/IllegalArgumentException", st.2))
  else
    if 50 < a0 then
      some (.inl ("java/lang/IllegalArgumentException", st.2))
    else
      if a1 < 1 then
        some (.inl ("java/lang/IllegalArgumentException", st.2))
      else
        if a1 ≤ 40 then
          some (.inr ())
        else
          some (.inl ("java/lang/IllegalArgumentException", st.2))
noncomputable def fX4_warm (st : DSt) (x : Nat) (a0 : Int32) (a1 : Int32) (a2 : Int32) : Option ((String × DHp) ⊕ (Int32 × DSt)) :=
  oB (oR st (some x) 4) fun b1 =>
  xB (fX4_bowlAt st b1 a0) fun q2 =>
  xB (fX4_checkWarming st a1 a2) fun q3 =>
  oB (pV st q2 0 2 (DI a1)) fun s4 =>
  oB (gR s4 q2 0 0) fun v5 =>
  oB (oR s4 v5 2) fun b6 =>
  oB (fX2_keepAt s4 b6 a1 a2) fun q7 =>
  oB (gR q7 q2 0 0) fun v8 =>
  oB (oR q7 v8 2) fun b9 =>
  oB (fX2_temper q7 b9) fun q10 =>
  some (.inr (q10, q7))
noncomputable def fX4_seed (st : DSt) (x : Nat) (a0 : Int32) (a1 : Int32) : Option ((String × DHp) ⊕ (Int32 × DSt)) :=
  oB (oR st (some x) 4) fun b1 =>
  xB (fX4_bowlAt st b1 a0) fun q2 =>
  if a1 < 1 then
    some (.inl ("java/lang/IllegalArgumentException", st.2))
  else
    if a1 ≤ 30 then
      oB (gR st q2 0 0) fun v3 =>
      oB (oR st v3 2) fun b4 =>
      oB (fX2_increase st b4 5 a1) fun q5 =>
      oB (gR q5 q2 0 0) fun v6 =>
      oB (gR q5 v6 2 0) fun v7 =>
      oB (aI q5 v7 0 5) fun v8 =>
      some (.inr (v8, q5))
    else
      some (.inl ("java/lang/IllegalArgumentException", st.2))
noncomputable def fX4_pour (st : DSt) (x : Nat) (a0 : Int32) (a1 : Int32) : Option ((String × DHp) ⊕ (Int32 × DSt)) :=
  oB (oR st (some x) 4) fun b1 =>
  xB (fX4_bowlAt st b1 a0) fun q2 =>
  oB (oR st (some x) 4) fun b3 =>
  xB (fX4_bowlAt st b3 a1) fun q4 =>
  oB (gI st q2 0 1) fun v5 =>
  oB (gI st q4 0 1) fun v6 =>
  if a0 = a1 then
    some (.inl ("java/lang/IllegalArgumentException", st.2))
  else
    if (v5 + v6) = 0 then
      some (.inl ("java/lang/IllegalArgumentException", st.2))
    else
      if (v5 + v6) ≤ 2000 then
        oB (oR st q4 0) fun b7 =>
        oB (fX0_takeIn st b7 q2) fun q8 =>
        oB (gI q8 q4 0 1) fun v9 =>
        some (.inr (v9, q8))
      else
        some (.inl ("java/lang/IllegalArgumentException", st.2))
noncomputable def fX4_addSlab (st : DSt) (x : Nat) (a0 : Option Nat) : Option ((String × DHp) ⊕ (Int32 × DSt)) :=
  oB (gI st (some x) 4 4) fun v1 =>
  if v1 < 8 then
    oB (gR st (some x) 4 1) fun v2 =>
    oB (sR st v2 3 3 v1 a0) fun s3 =>
    oB (pV s3 (some x) 4 4 (DI (v1 + 1))) fun s4 =>
    some (.inr (v1, s4))
  else
    some (.inl ("java/lang/IllegalStateException", st.2))
noncomputable def fX4_cast (st : DSt) (x : Nat) (a0 : Int32) (a1 : Int32) (a2 : Int32) : Option ((String × DHp) ⊕ (Int32 × DSt)) :=
  oB (oR st (some x) 4) fun b1 =>
  xB (fX4_bowlAt st b1 a0) fun q2 =>
  if a1 < 1 then
    some (.inl ("java/lang/IllegalArgumentException", st.2))
  else
    if 6 < a1 then
      some (.inl ("java/lang/IllegalArgumentException", st.2))
    else
      if a2 < 1 then
        some (.inl ("java/lang/IllegalArgumentException", st.2))
      else
        if a2 ≤ 6 then
          oB (some (nC st (.inr (3, [DI 0, DI 0, DI 0, DI 0, DI 0])))) fun s3 =>
          oB (gR s3 q2 0 0) fun v4 =>
          oB (oR s3 v4 2) fun b5 =>
          oB (fX2_temper s3 b5) fun q6 =>
          oB (fX3_init s3 st.1 a1 a2 q6) fun q7 =>
          oB (gI q7 q2 0 1) fun v8 =>
          oB (oR q7 (some st.1) 3) fun b9 =>
          oB (fX3_grams q7 b9) fun q10 =>
          if q10 ≤ v8 then
            oB (oR q7 (some x) 4) fun b11 =>
            xB (fX4_addSlab q7 b11 (some st.1)) fun q12 =>
            oB (gI q12.2 q2 0 1) fun v13 =>
            oB (oR q12.2 (some st.1) 3) fun b14 =>
            oB (fX3_grams q12.2 b14) fun q15 =>
            oB (pV q12.2 q2 0 1 (DI (v13 - q15))) fun s16 =>
            some (.inr (q12.1, s16))
          else
            some (.inl ("java/lang/IllegalStateException", q7.2))
        else
          some (.inl ("java/lang/IllegalArgumentException", st.2))
noncomputable def fX4_findSlab (st : DSt) (x : Nat) (a0 : Int32) : Option (Option Nat) :=
  if a0 < 0 then
    some none
  else
    if a0 < 8 then
      oB (gR st (some x) 4 1) fun v1 =>
      oB (aR st v1 3 a0) fun v2 =>
      some v2
    else
      some none
noncomputable def fX4_slabAt (st : DSt) (x : Nat) (a0 : Int32) : Option ((String × DHp) ⊕ (Option Nat)) :=
  oB (oR st (some x) 4) fun b1 =>
  oB (fX4_findSlab st b1 a0) fun q2 =>
  oN q2 (
    some (.inl ("java/lang/IndexOutOfBoundsException", st.2))
  ) fun n4 =>
  some (.inr (some n4))
noncomputable def fX4_polish (st : DSt) (x : Nat) (a0 : Int32) : Option ((String × DHp) ⊕ (Int32 × DSt)) :=
  oB (oR st (some x) 4) fun b1 =>
  xB (fX4_slabAt st b1 a0) fun q2 =>
  oB (oR st q2 3) fun b3 =>
  oB (fX3_bloomBehindPolish st b3) fun q4 =>
  oB (pV st q2 3 3 (DI q4)) fun s5 =>
  oB (gI s5 q2 3 3) fun v6 =>
  some (.inr (v6, s5))
noncomputable def fX4_split (st : DSt) (x : Nat) (a0 : Int32) (a1 : Int32) (a2 : Int32) : Option ((String × DHp) ⊕ (Int32 × DSt)) :=
  oB (oR st (some x) 4) fun b1 =>
  xB (fX4_slabAt st b1 a0) fun q2 =>
  if a2 = 0 then
    oB (gI st q2 3 1) fun v3 =>
    if a1 < 1 then
      some (.inl ("java/lang/IndexOutOfBoundsException", st.2))
    else
      if a1 < v3 then
        oB (oR st q2 3) fun b4 =>
        oB (fX3_partBehind st b4 a1 a2) fun q5 =>
        oB (oR q5.2 (some x) 4) fun b6 =>
        xB (fX4_addSlab q5.2 b6 q5.1) fun q7 =>
        oB (oR q7.2 q2 3) fun b8 =>
        oB (fX3_cutDownTo q7.2 b8 a1 a2) fun q9 =>
        some (.inr (q7.1, q9))
      else
        some (.inl ("java/lang/IndexOutOfBoundsException", st.2))
  else
    oB (gI st q2 3 2) fun v12 =>
    if a1 < 1 then
      some (.inl ("java/lang/IndexOutOfBoundsException", st.2))
    else
      if a1 < v12 then
        oB (oR st q2 3) fun b13 =>
        oB (fX3_partBehind st b13 a1 a2) fun q14 =>
        oB (oR q14.2 (some x) 4) fun b15 =>
        xB (fX4_addSlab q14.2 b15 q14.1) fun q16 =>
        oB (oR q16.2 q2 3) fun b17 =>
        oB (fX3_cutDownTo q16.2 b17 a1 a2) fun q18 =>
        some (.inr (q16.1, q18))
      else
        some (.inl ("java/lang/IndexOutOfBoundsException", st.2))
noncomputable def fX4_closeGaps_L4 (x : Nat) (z1 : DSt × Int32 × Int32) : Option ((DSt × Int32 × Int32) ⊕ (DSt × Int32 × Int32)) :=
  if 8 ≤ z1.2.2 then
    some (.inr (z1.1, z1.2.1, z1.2.2))
  else
    oB (gR z1.1 (some x) 4 1) fun v2 =>
    oB (aR z1.1 v2 3 z1.2.2) fun v3 =>
    oB (gR z1.1 (some x) 4 1) fun v4 =>
    oB (sR z1.1 v4 3 3 z1.2.2 none) fun s5 =>
    oN v3 (
      some (.inl (s5, z1.2.1, (z1.2.2 + 1)))
    ) fun n7 =>
    oB (gR s5 (some x) 4 1) fun v8 =>
    oB (sR s5 v8 3 3 z1.2.1 (some n7)) fun s9 =>
    some (.inl (s9, (z1.2.1 + 1), (z1.2.2 + 1)))
noncomputable def fX4_closeGaps (st : DSt) (x : Nat) : Option (DSt) :=
  oB (dlp (fX4_closeGaps_L4 x) (st, 0, 0)) fun b1 =>
  oB (pV b1.1 (some x) 4 4 (DI b1.2.1)) fun s11 =>
  some s11
noncomputable def fX4_melt (st : DSt) (x : Nat) (a0 : Int32) (a1 : Int32) : Option ((String × DHp) ⊕ (Int32 × DSt)) :=
  oB (oR st (some x) 4) fun b1 =>
  xB (fX4_slabAt st b1 a0) fun q2 =>
  oB (oR st q2 3) fun b3 =>
  oB (fX3_grams st b3) fun q4 =>
  oB (oR st (some x) 4) fun b5 =>
  xB (fX4_bowlAt st b5 a1) fun q6 =>
  oB (gI st q6 0 1) fun v7 =>
  if (v7 + q4) ≤ 2000 then
    oB (gI st q6 0 1) fun v8 =>
    oB (pV st q6 0 1 (DI (v8 + q4))) fun s9 =>
    oB (gR s9 (some x) 4 1) fun v10 =>
    oB (sR s9 v10 3 3 a0 none) fun s11 =>
    oB (oR s11 (some x) 4) fun b12 =>
    oB (fX4_closeGaps s11 b12) fun q13 =>
    oB (gI q13 q6 0 1) fun v14 =>
    some (.inr (v14, q13))
  else
    some (.inl ("java/lang/IllegalArgumentException", st.2))
noncomputable def fX4_box (st : DSt) (x : Nat) (a0 : Int32) (a1 : Int32) : Option ((String × DHp) ⊕ (Int32 × DSt)) :=
  if a0 < 1 then
    some (.inl ("java/lang/IllegalArgumentException", st.2))
  else
    if 36 < a0 then
      some (.inl ("java/lang/IllegalArgumentException", st.2))
    else
      if a1 < 0 then
        some (.inl ("java/lang/IllegalArgumentException", st.2))
      else
        if a1 ≤ 100 then
          oB (gI st (some x) 4 5) fun v1 =>
          if v1 < 6 then
            oB (gR st (some x) 4 2) fun v2 =>
            oB (some (nC st (.inr (1, [DI 0, DI 0, DI 0, DI 0, DI 0])))) fun s3 =>
            oB (fX1_init s3 st.1 a0 a1) fun q4 =>
            oB (sR q4 v2 4 1 v1 (some st.1)) fun s5 =>
            oB (pV s5 (some x) 4 5 (DI (v1 + 1))) fun s6 =>
            some (.inr (v1, s6))
          else
            some (.inl ("java/lang/IllegalStateException", st.2))
        else
          some (.inl ("java/lang/IllegalArgumentException", st.2))
noncomputable def fX4_planSlab_L2 (x : Nat) (a0 : Option Nat) (a1 : Int32) (z1 : DSt × Int32) : Option ((DSt × Int32) ⊕ ((DSt × Int32) ⊕ (Int32 × DSt))) :=
  if 8 ≤ z1.2 then
    some (.inr (.inl (z1.1, z1.2)))
  else
    oB (gR z1.1 (some x) 4 1) fun v2 =>
    oB (aR z1.1 v2 3 z1.2) fun v3 =>
    oN v3 (
      some (.inl (z1.1, (z1.2 + 1)))
    ) fun n5 =>
    oB (gR z1.1 (some x) 4 10) fun v6 =>
    oB (aI z1.1 v6 1 z1.2) fun v7 =>
    if v7 = 0 then
      if z1.2 = a1 then
        oB (oR z1.1 (some n5) 3) fun b14 =>
        oB (fX3_bloomBehindPolish z1.1 b14) fun q15 =>
        oB (oR z1.1 a0 1) fun b16 =>
        oB (fX1_suits z1.1 b16 (some n5) q15) fun q17 =>
        if q17 = 0 then
          some (.inl (z1.1, (z1.2 + 1)))
        else
          oB (gR z1.1 (some x) 4 10) fun v18 =>
          oB (sI z1.1 v18 1 z1.2 (vp_nar .boolean 1)) fun s19 =>
          some (.inr (.inr (z1.2, s19)))
      else
        oB (gI z1.1 (some n5) 3 3) fun v8 =>
        oB (oR z1.1 a0 1) fun b9 =>
        oB (fX1_suits z1.1 b9 (some n5) v8) fun q10 =>
        if q10 = 0 then
          some (.inl (z1.1, (z1.2 + 1)))
        else
          oB (gR z1.1 (some x) 4 10) fun v11 =>
          oB (sI z1.1 v11 1 z1.2 (vp_nar .boolean 1)) fun s12 =>
          some (.inr (.inr (z1.2, s12)))
    else
      some (.inl (z1.1, (z1.2 + 1)))
noncomputable def fX4_planSlab (st : DSt) (x : Nat) (a0 : Option Nat) (a1 : Int32) : Option (Int32 × DSt) :=
  oB (dlp (fX4_planSlab_L2 x a0 a1) (st, 0)) fun b1 =>
  match b1 with
  | .inr r9 => some r9
  | .inl yb1 =>
    some ((-1), yb1.1)
noncomputable def fX4_planFilling_L2 (x : Nat) (z1 : DSt × Int32) : Option ((DSt × Int32) ⊕ (DSt × Int32)) :=
  if 8 ≤ z1.2 then
    some (.inr (z1.1, z1.2))
  else
    oB (gR z1.1 (some x) 4 10) fun v2 =>
    oB (sI z1.1 v2 1 z1.2 (vp_nar .boolean 0)) fun s3 =>
    some (.inl (s3, (z1.2 + 1)))
noncomputable def fX4_planFilling_L25 (x : Nat) (a0 : Int32) (z5 : DSt × Int32 × Int32) : Option ((DSt × Int32 × Int32) ⊕ (DSt × Int32 × Int32)) :=
  if 6 ≤ z5.2.2 then
    some (.inr (z5.1, z5.2.1, z5.2.2))
  else
    oB (gR z5.1 (some x) 4 2) fun v6 =>
    oB (aR z5.1 v6 4 z5.2.2) fun v7 =>
    oB (gR z5.1 (some x) 4 9) fun v8 =>
    oN v7 (
      oB (sI z5.1 v8 0 z5.2.2 (-1)) fun s11 =>
      oB (gR s11 (some x) 4 9) fun v12 =>
      oB (aI s11 v12 0 z5.2.2) fun v13 =>
      if v13 = (-1) then
        some (.inl (s11, z5.2.1, (z5.2.2 + 1)))
      else
        some (.inl (s11, (z5.2.1 + 1), (z5.2.2 + 1)))
    ) fun n10 =>
    oB (gI z5.1 (some n10) 1 2) fun v15 =>
    if v15 = 0 then
      oB (oR z5.1 (some x) 4) fun b16 =>
      oB (fX4_planSlab z5.1 b16 (some n10) a0) fun q17 =>
      oB (sI q17.2 v8 0 z5.2.2 q17.1) fun s18 =>
      oB (gR s18 (some x) 4 9) fun v19 =>
      oB (aI s18 v19 0 z5.2.2) fun v20 =>
      if v20 = (-1) then
        some (.inl (s18, z5.2.1, (z5.2.2 + 1)))
      else
        some (.inl (s18, (z5.2.1 + 1), (z5.2.2 + 1)))
    else
      oB (sI z5.1 v8 0 z5.2.2 (-1)) fun s22 =>
      oB (gR s22 (some x) 4 9) fun v23 =>
      oB (aI s22 v23 0 z5.2.2) fun v24 =>
      if v24 = (-1) then
        some (.inl (s22, z5.2.1, (z5.2.2 + 1)))
      else
        some (.inl (s22, (z5.2.1 + 1), (z5.2.2 + 1)))
noncomputable def fX4_planFilling (st : DSt) (x : Nat) (a0 : Int32) : Option (Int32 × DSt) :=
  oB (dlp (fX4_planFilling_L2 x) (st, 0)) fun b1 =>
  oB (dlp (fX4_planFilling_L25 x a0) (b1.1, 0, 0)) fun b5 =>
  some (b5.2.1, b5.1)
noncomputable def fX4_moveIntoBox (st : DSt) (x : Nat) (a0 : Int32) (a1 : Option Nat) : Option (DSt) :=
  oB (oR st (some x) 4) fun b1 =>
  oB (fX4_findSlab st b1 a0) fun q2 =>
  oN q2 (
    some st
  ) fun n4 =>
  oN a1 (
    some st
  ) fun n6 =>
  oB (oR st (some n6) 1) fun b7 =>
  oB (fX1_take st b7 (some n4)) fun q8 =>
  oB (gR q8 (some x) 4 1) fun v9 =>
  oB (sR q8 v9 3 3 a0 none) fun s10 =>
  some s10
noncomputable def fX4_fill_L8 (x : Nat) (z3 : DSt × Int32) : Option ((DSt × Int32) ⊕ (DSt × Int32)) :=
  if 6 ≤ z3.2 then
    some (.inr (z3.1, z3.2))
  else
    oB (gR z3.1 (some x) 4 9) fun v4 =>
    oB (aI z3.1 v4 0 z3.2) fun v5 =>
    oB (gR z3.1 (some x) 4 2) fun v6 =>
    oB (aR z3.1 v6 4 z3.2) fun v7 =>
    oB (oR z3.1 (some x) 4) fun b8 =>
    oB (fX4_moveIntoBox z3.1 b8 v5 v7) fun q9 =>
    some (.inl (q9, (z3.2 + 1)))
noncomputable def fX4_fill (st : DSt) (x : Nat) : Option (Int32 × DSt) :=
  oB (oR st (some x) 4) fun b1 =>
  oB (fX4_planFilling st b1 (-1)) fun q2 =>
  oB (dlp (fX4_fill_L8 x) (q2.2, 0)) fun b3 =>
  oB (oR b3.1 (some x) 4) fun b11 =>
  oB (fX4_closeGaps b3.1 b11) fun q12 =>
  some (q2.1, q12)
noncomputable def fX4_checkRoom (st : DSt) (a0 : Int32) : Option ((String × DHp) ⊕ (Unit)) :=
  if a0 < 10 then
    some (.inl ("java/lang/IllegalArgumentException", st.2))
  else
    if a0 ≤ 40 then
      some (.inr ())
    else
      some (.inl ("java/lang/IllegalArgumentException", st.2))
noncomputable def fX4_bloomedSlabs_L13 (st : DSt) (v1 : Option Nat) (v2 : Int32) (z3 : Int32 × Int32) : Option ((Int32 × Int32) ⊕ (Int32 × Int32)) :=
  if v2 ≤ z3.2 then
    some (.inr (z3.1, z3.2))
  else
    oB (aR st v1 3 z3.2) fun v4 =>
    oN v4 (
      some (.inl (z3.1, (z3.2 + 1)))
    ) fun n6 =>
    oB (oR st (some n6) 3) fun b7 =>
    oB (fX3_isBloomed st b7) fun q8 =>
    if q8 = 0 then
      some (.inl (z3.1, (z3.2 + 1)))
    else
      some (.inl ((z3.1 + 1), (z3.2 + 1)))
noncomputable def fX4_bloomedSlabs (st : DSt) (x : Nat) : Option (Int32) :=
  oB (gR st (some x) 4 1) fun v1 =>
  oB (aN st v1 3) fun v2 =>
  oB (dlp (fX4_bloomedSlabs_L13 st v1 v2) (0, 0)) fun b3 =>
  some b3.1
noncomputable def fX4_pass_L37 (a0 : Int32) (a1 : Int32) (v2 : Option Nat) (v3 : Int32) (z4 : DSt × Int32) : Option ((DSt × Int32) ⊕ (DSt × Int32)) :=
  if v3 ≤ z4.2 then
    some (.inr (z4.1, z4.2))
  else
    oB (aR z4.1 v2 3 z4.2) fun v5 =>
    oN v5 (
      some (.inl (z4.1, (z4.2 + 1)))
    ) fun n7 =>
    oB (oR z4.1 (some n7) 3) fun b8 =>
    oB (fX3_standFor z4.1 b8 a1 a0) fun q9 =>
    some (.inl (q9, (z4.2 + 1)))
noncomputable def fX4_pass (st : DSt) (x : Nat) (a0 : Int32) (a1 : Int32) : Option ((String × DHp) ⊕ (Int32 × DSt)) :=
  xB (fX4_checkRoom st a0) fun q1 =>
  if a1 < 1 then
    some (.inl ("java/lang/IllegalArgumentException", st.2))
  else
    if a1 ≤ 60 then
      oB (gR st (some x) 4 1) fun v2 =>
      oB (aN st v2 3) fun v3 =>
      oB (dlp (fX4_pass_L37 a0 a1 v2 v3) (st, 0)) fun b4 =>
      oB (gI b4.1 (some x) 4 6) fun v11 =>
      oB (pV b4.1 (some x) 4 6 (DI (v11 + a1))) fun s12 =>
      oB (oR s12 (some x) 4) fun b13 =>
      oB (fX4_bloomedSlabs s12 b13) fun q14 =>
      some (.inr (q14, s12))
    else
      some (.inl ("java/lang/IllegalArgumentException", st.2))
noncomputable def fX4_checkWhat (st : DSt) (a0 : Int32) (a1 : Int32) : Option ((String × DHp) ⊕ (Unit)) :=
  if a0 < 0 then
    some (.inl ("java/lang/IndexOutOfBoundsException", st.2))
  else
    if a0 ≤ a1 then
      some (.inr ())
    else
      some (.inl ("java/lang/IndexOutOfBoundsException", st.2))
noncomputable def fX4_told (st : DSt) (x : Nat) (a0 : Int32) (a1 : Int32) : Option ((String × DHp) ⊕ (Int32)) :=
  oB (oR st (some x) 4) fun b1 =>
  xB (fX4_bowlAt st b1 a0) fun q2 =>
  xB (fX4_checkWhat st a1 7) fun q3 =>
  if a1 = 0 then
    oB (gI st q2 0 1) fun v13 =>
    some (.inr v13)
  else
    if 5 < a1 then
      if a1 = 6 then
        oB (gI st q2 0 2) fun v7 =>
        some (.inr v7)
      else
        oB (gR st q2 0 0) fun v4 =>
        oB (oR st v4 2) fun b5 =>
        oB (fX2_temper st b5) fun q6 =>
        some (.inr q6)
    else
      oB (gR st q2 0 0) fun v9 =>
      oB (gR st v9 2 0) fun v10 =>
      oB (aI st v10 0 a1) fun v11 =>
      some (.inr v11)
noncomputable def fX4_firstEmptyBoxFor_L2 (st : DSt) (x : Nat) (a0 : Option Nat) (z1 : Int32) : Option ((Int32) ⊕ ((Int32) ⊕ (Int32))) :=
  if 6 ≤ z1 then
    some (.inr (.inl z1))
  else
    oB (gR st (some x) 4 2) fun v2 =>
    oB (aR st v2 4 z1) fun v3 =>
    oN v3 (
      some (.inl (z1 + 1))
    ) fun n5 =>
    oB (gI st (some n5) 1 2) fun v6 =>
    if v6 = 0 then
      oB (gI st a0 3 3) fun v7 =>
      oB (oR st (some n5) 1) fun b8 =>
      oB (fX1_suits st b8 a0 v7) fun q9 =>
      if q9 = 0 then
        some (.inl (z1 + 1))
      else
        some (.inr (.inr z1))
    else
      some (.inl (z1 + 1))
noncomputable def fX4_firstEmptyBoxFor (st : DSt) (x : Nat) (a0 : Option Nat) : Option (Int32) :=
  oB (dlp (fX4_firstEmptyBoxFor_L2 st x a0) 0) fun b1 =>
  match b1 with
  | .inr r9 => some r9
  | .inl yb1 =>
    some (-1)
noncomputable def fX4_about (st : DSt) (x : Nat) (a0 : Int32) (a1 : Int32) : Option ((String × DHp) ⊕ (Int32)) :=
  oB (oR st (some x) 4) fun b1 =>
  xB (fX4_slabAt st b1 a0) fun q2 =>
  xB (fX4_checkWhat st a1 6) fun q3 =>
  if a1 = 0 then
    oB (gI st q2 3 1) fun v11 =>
    some (.inr v11)
  else
  if a1 = 1 then
    oB (gI st q2 3 2) fun v12 =>
    some (.inr v12)
  else
  if a1 = 2 then
    oB (gI st q2 3 0) fun v13 =>
    some (.inr v13)
  else
  if a1 = 3 then
    oB (gI st q2 3 3) fun v14 =>
    some (.inr v14)
  else
  if a1 = 4 then
    oB (gI st q2 3 4) fun v15 =>
    some (.inr v15)
  else
  if a1 = 5 then
    oB (oR st q2 3) fun b16 =>
    oB (fX3_squares st b16) fun q17 =>
    some (.inr q17)
  else
  oB (oR st (some x) 4) fun b18 =>
  oB (fX4_firstEmptyBoxFor st b18 q2) fun q19 =>
  some (.inr q19)
noncomputable def fX4_boxAt (st : DSt) (x : Nat) (a0 : Int32) : Option ((String × DHp) ⊕ (Option Nat)) :=
  if a0 < 0 then
    some (.inl ("java/lang/IndexOutOfBoundsException", st.2))
  else
    if a0 < 6 then
      oB (gR st (some x) 4 2) fun v2 =>
      oB (aR st v2 4 a0) fun v3 =>
      oN v3 (
        some (.inl ("java/lang/IndexOutOfBoundsException", st.2))
      ) fun n5 =>
      some (.inr (some n5))
    else
      some (.inl ("java/lang/IndexOutOfBoundsException", st.2))
noncomputable def fX4_order (st : DSt) (x : Nat) (a0 : Int32) (a1 : Int32) : Option ((String × DHp) ⊕ (Int32)) :=
  oB (oR st (some x) 4) fun b1 =>
  xB (fX4_boxAt st b1 a0) fun q2 =>
  xB (fX4_checkWhat st a1 4) fun q3 =>
  if a1 = 0 then
    oB (gI st q2 1 0) fun v9 =>
    some (.inr v9)
  else
  if a1 = 1 then
    oB (gI st q2 1 1) fun v10 =>
    some (.inr v10)
  else
  if a1 = 2 then
    oB (gI st q2 1 2) fun v11 =>
    if v11 = 0 then
      some (.inr 0)
    else
      some (.inr 1)
  else
  if a1 = 3 then
    oB (gI st q2 1 3) fun v13 =>
    some (.inr v13)
  else
  oB (gI st q2 1 4) fun v14 =>
  some (.inr v14)
noncomputable def fX4_filledBoxes_L13 (st : DSt) (v1 : Option Nat) (v2 : Int32) (z3 : Int32 × Int32) : Option ((Int32 × Int32) ⊕ (Int32 × Int32)) :=
  if v2 ≤ z3.2 then
    some (.inr (z3.1, z3.2))
  else
    oB (aR st v1 4 z3.2) fun v4 =>
    oN v4 (
      some (.inl (z3.1, (z3.2 + 1)))
    ) fun n6 =>
    oB (gI st (some n6) 1 2) fun v7 =>
    if v7 = 0 then
      some (.inl (z3.1, (z3.2 + 1)))
    else
      some (.inl ((z3.1 + 1), (z3.2 + 1)))
noncomputable def fX4_filledBoxes (st : DSt) (x : Nat) : Option (Int32) :=
  oB (gR st (some x) 4 2) fun v1 =>
  oB (aN st v1 4) fun v2 =>
  oB (dlp (fX4_filledBoxes_L13 st v1 v2) (0, 0)) fun b3 =>
  some b3.1
noncomputable def fX4_gramsOfBowls_L13 (st : DSt) (v1 : Option Nat) (v2 : Int32) (z3 : Int32 × Int32) : Option ((Int32 × Int32) ⊕ (Int32 × Int32)) :=
  if v2 ≤ z3.2 then
    some (.inr (z3.1, z3.2))
  else
    oB (aR st v1 2 z3.2) fun v4 =>
    oN v4 (
      some (.inl (z3.1, (z3.2 + 1)))
    ) fun n6 =>
    oB (gI st (some n6) 0 1) fun v7 =>
    some (.inl ((z3.1 + v7), (z3.2 + 1)))
noncomputable def fX4_gramsOfBowls (st : DSt) (x : Nat) : Option (Int32) :=
  oB (gR st (some x) 4 0) fun v1 =>
  oB (aN st v1 2) fun v2 =>
  oB (dlp (fX4_gramsOfBowls_L13 st v1 v2) (0, 0)) fun b3 =>
  some b3.1
noncomputable def fX4_squaresOfSlabs_L13 (st : DSt) (v1 : Option Nat) (v2 : Int32) (z3 : Int32 × Int32) : Option ((Int32 × Int32) ⊕ (Int32 × Int32)) :=
  if v2 ≤ z3.2 then
    some (.inr (z3.1, z3.2))
  else
    oB (aR st v1 3 z3.2) fun v4 =>
    oN v4 (
      some (.inl (z3.1, (z3.2 + 1)))
    ) fun n6 =>
    oB (oR st (some n6) 3) fun b7 =>
    oB (fX3_squares st b7) fun q8 =>
    some (.inl ((z3.1 + q8), (z3.2 + 1)))
noncomputable def fX4_squaresOfSlabs (st : DSt) (x : Nat) : Option (Int32) :=
  oB (gR st (some x) 4 1) fun v1 =>
  oB (aN st v1 3) fun v2 =>
  oB (dlp (fX4_squaresOfSlabs_L13 st v1 v2) (0, 0)) fun b3 =>
  some b3.1
noncomputable def fX4_count (st : DSt) (x : Nat) (a0 : Int32) : Option ((String × DHp) ⊕ (Int32)) :=
  xB (fX4_checkWhat st a0 7) fun q1 =>
  if a0 = 0 then
    oB (gI st (some x) 4 6) fun v10 =>
    some (.inr v10)
  else
  if a0 = 1 then
    oB (gI st (some x) 4 3) fun v11 =>
    some (.inr v11)
  else
  if a0 = 2 then
    oB (gI st (some x) 4 4) fun v12 =>
    some (.inr v12)
  else
  if a0 = 3 then
    oB (gI st (some x) 4 5) fun v13 =>
    some (.inr v13)
  else
  if a0 = 4 then
    oB (oR st (some x) 4) fun b14 =>
    oB (fX4_filledBoxes st b14) fun q15 =>
    some (.inr q15)
  else
  if a0 = 5 then
    oB (oR st (some x) 4) fun b16 =>
    oB (fX4_gramsOfBowls st b16) fun q17 =>
    some (.inr q17)
  else
  if a0 = 6 then
    oB (oR st (some x) 4) fun b18 =>
    oB (fX4_squaresOfSlabs st b18) fun q19 =>
    some (.inr q19)
  else
  oB (oR st (some x) 4) fun b20 =>
  oB (fX4_bloomedSlabs st b20) fun q21 =>
  some (.inr q21)
noncomputable def fX4_mean_L13 (st : DSt) (v1 : Option Nat) (v2 : Int32) (z3 : Int32 × Int32) : Option ((Int32 × Int32) ⊕ (Int32 × Int32)) :=
  if v2 ≤ z3.2 then
    some (.inr (z3.1, z3.2))
  else
    oB (aR st v1 3 z3.2) fun v4 =>
    oN v4 (
      some (.inl (z3.1, (z3.2 + 1)))
    ) fun n6 =>
    oB (gI st (some n6) 3 3) fun v7 =>
    some (.inl ((z3.1 + v7), (z3.2 + 1)))
noncomputable def fX4_mean (st : DSt) (x : Nat) : Option (UInt64) :=
  oB (gR st (some x) 4 1) fun v1 =>
  oB (aN st v1 3) fun v2 =>
  oB (dlp (fX4_mean_L13 st v1 v2) (0, 0)) fun b3 =>
  oB (gI st (some x) 4 4) fun v9 =>
  if 0 < v9 then
    oB (gI st (some x) 4 4) fun v10 =>
    oB (oDD (FP.i2d b3.1) (FP.i2d v10)) fun v11 =>
    some v11
  else
    some FP.dconst0
