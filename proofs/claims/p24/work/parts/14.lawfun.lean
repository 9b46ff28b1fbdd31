/-! THE LAW'S METHODS AS FUNCTIONS, written by program -/
noncomputable def fX5_init (st : DSt) (x : Nat) : Option (DSt) :=
  oB (pV st (some x) 5 1 (DI 20)) fun s1 =>
  oB (some (nC s1 (.inl (0, nI0 6)))) fun s2 =>
  oB (pV s2 (some x) 5 2 (DR (some s1.1))) fun s3 =>
  some s3
noncomputable def fX5_all (st : DSt) (x : Nat) : Option (Int32) :=
  oB (gR st (some x) 5 2) fun v1 =>
  oB (aI st v1 0 1) fun v2 =>
  oB (gR st (some x) 5 2) fun v3 =>
  oB (aI st v3 0 2) fun v4 =>
  oB (gR st (some x) 5 2) fun v5 =>
  oB (aI st v5 0 3) fun v6 =>
  oB (gR st (some x) 5 2) fun v7 =>
  oB (aI st v7 0 4) fun v8 =>
  oB (gR st (some x) 5 2) fun v9 =>
  oB (aI st v9 0 5) fun v10 =>
  some ((((v2 + v4) + v6) + v8) + v10)
noncomputable def fX5_temper (st : DSt) (x : Nat) : Option (Int32) :=
  oB (gR st (some x) 5 2) fun v1 =>
  oB (aI st v1 0 4) fun v2 =>
  oB (gR st (some x) 5 2) fun v3 =>
  oB (aI st v3 0 5) fun v4 =>
  oB (gR st (some x) 5 2) fun v5 =>
  oB (aI st v5 0 1) fun v6 =>
  oB (gR st (some x) 5 2) fun v7 =>
  oB (aI st v7 0 2) fun v8 =>
  oB (gR st (some x) 5 2) fun v9 =>
  oB (aI st v9 0 3) fun v10 =>
  oB (if 0 ≤ ((((v2 + (2 * v4)) - v6) - v8) - v10) then
      oB (if ((((v2 + (2 * v4)) - v6) - v8) - v10) ≤ 100 then
          some ((((v2 + (2 * v4)) - v6) - v8) - v10)
        else
          some (100 : Int32)) fun j13 =>
      some j13
    else
      some (0 : Int32)) fun j11 =>
  some j11
noncomputable def fX5_kept_L18 (x : Nat) (a0 : Int32) (z4 : DSt × Int32 × Int32) : Option ((DSt × Int32 × Int32) ⊕ (DSt × Int32 × Int32)) :=
  if z4.2.2 ≤ 0 then
    some (.inr (z4.1, z4.2.1, z4.2.2))
  else
    oB (if a0 < ((4 * z4.2.2) + 15) then
        some z4.1
      else
        oB (gR z4.1 (some x) 5 2) fun v8 =>
        oB (aI z4.1 v8 0 z4.2.2) fun v9 =>
        oB (gR z4.1 (some x) 5 2) fun v10 =>
        oB (aI z4.1 v10 0 z4.2.2) fun v11 =>
        oB (oD (v11 + 1) 2) fun v12 =>
        oB (sI z4.1 v8 0 z4.2.2 (v9 - v12)) fun s13 =>
        some s13) fun j6 =>
    oB (if ((4 * z4.2.2) + 15) ≤ (a0 + 3) then
        some z4.2.1
      else
        some z4.2.2) fun j14 =>
    some (.inl (j6, j14, (z4.2.2 + (-1))))
noncomputable def fX5_kept_L7 (x : Nat) (a0 : Int32) (a1 : Int32) (z2 : DSt × Int32) : Option ((DSt × Int32) ⊕ (DSt × Int32)) :=
  if a1 ≤ z2.2 then
    some (.inr (z2.1, z2.2))
  else
    oB (dlp (fX5_kept_L18 x a0) (z2.1, 0, 5)) fun b4 =>
    oB (if a0 ≤ 33 then
        oB (if b4.2.1 = 0 then
            some (5 : Int32)
          else
            some b4.2.1) fun j18 =>
        oB (gR b4.1 (some x) 5 2) fun v20 =>
        oB (aI b4.1 v20 0 j18) fun v21 =>
        oB (gR b4.1 (some x) 5 2) fun v22 =>
        oB (aI b4.1 v22 0 j18) fun v23 =>
        oB (oD v23 4) fun v24 =>
        oB (oR b4.1 (some x) 5) fun b25 =>
        oB (fX5_all b4.1 b25) fun q26 =>
        oB (sI b4.1 v20 0 j18 (v21 + (jmax 0 (jmin (v24 + 8) (100 - q26))))) fun s27 =>
        some s27
      else
        some b4.1) fun j16 =>
    some (.inl (j16, (z2.2 + 1)))
noncomputable def fX5_kept (st : DSt) (x : Nat) (a0 : Int32) (a1 : Int32) : Option (Option Nat × DSt) :=
  oB (pV st (some x) 5 1 (DI a0)) fun s1 =>
  oB (dlp (fX5_kept_L7 x a0 a1) (s1, 0)) fun b2 =>
  some ((some x), b2.1)
noncomputable def fX6_init (st : DSt) (x : Nat) : Option (DSt) :=
  oB (nQ st 0 10 5) fun s1 =>
  oB (pV s1 (some x) 6 1 (DR (some st.1))) fun s2 =>
  oB (nQ s2 0 10 6) fun s3 =>
  oB (pV s3 (some x) 6 2 (DR (some s2.1))) fun s4 =>
  oB (nQ s4 0 10 6) fun s5 =>
  oB (pV s5 (some x) 6 3 (DR (some s4.1))) fun s6 =>
  some s6
noncomputable def fX6_with_L10 (st : DSt) (a0 : Option Nat) (z3 : DSt × Int32) : Option ((DSt × Int32) ⊕ (DSt × Int32)) :=
  oB (aN z3.1 a0 6) fun v4 =>
  if v4 ≤ z3.2 then
    some (.inr (z3.1, z3.2))
  else
    oB (aR z3.1 a0 6 z3.2) fun v6 =>
    oB (sRA z3.1 (some st.1) 6 z3.2 v6) fun s7 =>
    some (.inl (s7, (z3.2 + 1)))
noncomputable def fX6_with (st : DSt) (a0 : Option Nat) (a1 : Option Nat) : Option (Option Nat × DSt) :=
  oB (aN st a0 6) fun v1 =>
  oB (nQ st (v1 + 1) 10 6) fun s2 =>
  oB (dlp (fX6_with_L10 st a0) (s2, 0)) fun b3 =>
  oB (aN b3.1 a0 6) fun v8 =>
  oB (sRA b3.1 (some st.1) 6 v8 a1) fun s9 =>
  some ((some st.1), s9)
noncomputable def fX6_without_L10 (st : DSt) (a0 : Option Nat) (a1 : Int32) (z3 : DSt × Int32) : Option ((DSt × Int32) ⊕ (DSt × Int32)) :=
  oB (aN z3.1 (some st.1) 6) fun v4 =>
  if v4 ≤ z3.2 then
    some (.inr (z3.1, z3.2))
  else
    oB (if a1 ≤ z3.2 then
        some (z3.2 + 1)
      else
        some z3.2) fun j6 =>
    oB (aR z3.1 a0 6 j6) fun v8 =>
    oB (sRA z3.1 (some st.1) 6 z3.2 v8) fun s9 =>
    some (.inl (s9, (z3.2 + 1)))
noncomputable def fX6_without (st : DSt) (a0 : Option Nat) (a1 : Int32) : Option (Option Nat × DSt) :=
  oB (aN st a0 6) fun v1 =>
  oB (nQ st (v1 - 1) 10 6) fun s2 =>
  oB (dlp (fX6_without_L10 st a0 a1) (s2, 0)) fun b3 =>
  some ((some st.1), b3.1)
noncomputable def fX6_fits (st : DSt) (a0 : Option Nat) (a1 : Option Nat) : Option (Int32) :=
  oB (aI st a1 0 2) fun v1 =>
  oB (if v1 = 0 then
      oB (aI st a0 0 0) fun v4 =>
      oB (aI st a0 0 1) fun v5 =>
      oB (aI st a1 0 0) fun v6 =>
      oB (if (v4 * v5) = v6 then
          oB (aI st a0 0 2) fun v9 =>
          oB (aI st a1 0 1) fun v10 =>
          oB (if v9 < v10 then
              some (0 : Int32)
            else
              oB (aI st a0 0 3) fun v13 =>
              oB (if 21 ≤ v13 then
                  some (0 : Int32)
                else
                  some (1 : Int32)) fun j14 =>
              some j14) fun j11 =>
          some j11
        else
          some (0 : Int32)) fun j7 =>
      some j7
    else
      some (0 : Int32)) fun j2 =>
  oB (oZ j2) fun v16 =>
  some v16
noncomputable def fX6_fill_L28 (x : Nat) (v5 : Option Nat) (z6 : DSt × Int32 × Int32) : Option ((DSt × Int32 × Int32) ⊕ (DSt × Int32 × Int32)) :=
  oB (gR z6.1 (some x) 6 2) fun v7 =>
  oB (aN z6.1 v7 6) fun v8 =>
  if v8 ≤ z6.2.2 then
    some (.inr (z6.1, z6.2.1, z6.2.2))
  else
    oB (gR z6.1 (some x) 6 2) fun v10 =>
    oB (aR z6.1 v10 6 z6.2.2) fun v11 =>
    oB (fX6_fits z6.1 v11 v5) fun q12 =>
    if q12 = 0 then
      some (.inl (z6.1, z6.2.1, (z6.2.2 + 1)))
    else
      oB (sI z6.1 v5 0 2 1) fun s14 =>
      oB (gR s14 (some x) 6 2) fun v15 =>
      oB (aR s14 v15 6 z6.2.2) fun v16 =>
      oB (aI s14 v16 0 2) fun v17 =>
      oB (sI s14 v5 0 3 v17) fun s18 =>
      oB (gR s18 (some x) 6 2) fun v19 =>
      oB (aR s18 v19 6 z6.2.2) fun v20 =>
      oB (aI s18 v20 0 3) fun v21 =>
      oB (sI s18 v5 0 4 v21) fun s22 =>
      oB (gR s22 (some x) 6 2) fun v23 =>
      oB (fX6_without s22 v23 z6.2.2) fun q24 =>
      oB (pV q24.2 (some x) 6 2 (DR q24.1)) fun s25 =>
      some (.inr (s25, (z6.2.1 + 1), z6.2.2))
noncomputable def fX6_fill_L13 (x : Nat) (v1 : Option Nat) (v2 : Int32) (z3 : DSt × Int32 × Int32) : Option ((DSt × Int32 × Int32) ⊕ (DSt × Int32 × Int32)) :=
  if v2 ≤ z3.2.2 then
    some (.inr (z3.1, z3.2.1, z3.2.2))
  else
    oB (aR z3.1 v1 6 z3.2.2) fun v5 =>
    oB (dl_it (fX6_fill_L28 x v5) 9 (z3.1, z3.2.1, 0)) fun b6 =>
    some (.inl (b6.1, b6.2.1, (z3.2.2 + 1)))
noncomputable def fX6_fill (st : DSt) (x : Nat) : Option (Int32 × DSt) :=
  oB (gR st (some x) 6 3) fun v1 =>
  oB (aN st v1 6) fun v2 =>
  oB (dl_it (fX6_fill_L13 x v1 v2) 7 (st, 0, 0)) fun b3 =>
  some (b3.2.1, b3.1)
noncomputable def fX6_pass_L11 (a0 : Int32) (v1 : Option Nat) (v2 : Int32) (z3 : DSt × Int32) : Option ((DSt × Int32) ⊕ (DSt × Int32)) :=
  if v2 ≤ z3.2 then
    some (.inr (z3.1, z3.2))
  else
    oB (aR z3.1 v1 6 z3.2) fun v5 =>
    oB (aI z3.1 v5 0 2) fun v6 =>
    oB (oD (100 - v6) 10) fun v7 =>
    oB (if a0 ≤ 24 then
        some (0 : Int32)
      else
        some (a0 - 24)) fun j8 =>
    oB (aI z3.1 v5 0 3) fun v10 =>
    oB (if (v10 + (v7 + (j8 * 2))) ≤ 100 then
        oB (aI z3.1 v5 0 3) fun v13 =>
        some (v13 + (v7 + (j8 * 2)))
      else
        some (100 : Int32)) fun j11 =>
    oB (sI z3.1 v5 0 3 j11) fun s14 =>
    oB (aI s14 v5 0 4) fun v15 =>
    oB (sI s14 v5 0 4 (v15 + 1)) fun s16 =>
    some (.inl (s16, (z3.2 + 1)))
noncomputable def fX6_pass (st : DSt) (x : Nat) (a0 : Int32) : Option (DSt) :=
  oB (gR st (some x) 6 2) fun v1 =>
  oB (aN st v1 6) fun v2 =>
  oB (dlp (fX6_pass_L11 a0 v1 v2) (st, 0)) fun b3 =>
  oB (gI b3.1 (some x) 6 0) fun v17 =>
  oB (pV b3.1 (some x) 6 0 (DI (v17 + 1))) fun s18 =>
  some s18
noncomputable def fX6_bloomed_L13 (st : DSt) (v1 : Option Nat) (v2 : Int32) (z3 : Int32 × Int32) : Option ((Int32 × Int32) ⊕ (Int32 × Int32)) :=
  if v2 ≤ z3.2 then
    some (.inr (z3.1, z3.2))
  else
    oB (aR st v1 6 z3.2) fun v5 =>
    oB (aI st v5 0 3) fun v6 =>
    oB (if v6 ≤ 20 then
        some (0 : Int32)
      else
        some (1 : Int32)) fun j7 =>
    some (.inl ((z3.1 + j7), (z3.2 + 1)))
noncomputable def fX6_bloomed (st : DSt) (x : Nat) : Option (Int32) :=
  oB (gR st (some x) 6 2) fun v1 =>
  oB (aN st v1 6) fun v2 =>
  oB (dlp (fX6_bloomed_L13 st v1 v2) (0, 0)) fun b3 =>
  some b3.1
noncomputable def fX6_isSame_L166 (a0 : Option Nat) (z19 : DSt × Int32) (s47 : DSt) (z48 : Int32) : Option ((Int32) ⊕ ((Int32) ⊕ (Int32 × DSt))) :=
  if 8 ≤ z48 then
    some (.inr (.inl z48))
  else
    oB (oR s47 a0 4) fun b50 =>
    oB (nX (fX4_told s47 b50 z19.2 z48)) fun q51 =>
    oB (aI s47 (some z19.1.1) 0 z48) fun v52 =>
    if q51 = v52 then
      some (.inl (z48 + 1))
    else
      oB (oZ 0) fun v54 =>
      some (.inr (.inr (v54, s47)))
noncomputable def fX6_isSame_L62 (st : DSt) (x : Nat) (a0 : Option Nat) (z19 : DSt × Int32) : Option ((DSt × Int32) ⊕ ((DSt × Int32) ⊕ (Int32 × DSt))) :=
  oB (gR z19.1 (some x) 6 1) fun v20 =>
  oB (aN z19.1 v20 5) fun v21 =>
  if v21 ≤ z19.2 then
    some (.inr (.inl (z19.1, z19.2)))
  else
    oB (gR z19.1 (some x) 6 1) fun v23 =>
    oB (aR z19.1 v23 5 z19.2) fun v24 =>
    oB (some (nC z19.1 (.inl (0, nI0 8)))) fun s25 =>
    oB (gI s25 v24 5 0) fun v26 =>
    oB (sI s25 (some z19.1.1) 0 0 v26) fun s27 =>
    oB (gR s27 v24 5 2) fun v28 =>
    oB (aI s27 v28 0 1) fun v29 =>
    oB (sI s27 (some z19.1.1) 0 1 v29) fun s30 =>
    oB (gR s30 v24 5 2) fun v31 =>
    oB (aI s30 v31 0 2) fun v32 =>
    oB (sI s30 (some z19.1.1) 0 2 v32) fun s33 =>
    oB (gR s33 v24 5 2) fun v34 =>
    oB (aI s33 v34 0 3) fun v35 =>
    oB (sI s33 (some z19.1.1) 0 3 v35) fun s36 =>
    oB (gR s36 v24 5 2) fun v37 =>
    oB (aI s36 v37 0 4) fun v38 =>
    oB (sI s36 (some z19.1.1) 0 4 v38) fun s39 =>
    oB (gR s39 v24 5 2) fun v40 =>
    oB (aI s39 v40 0 5) fun v41 =>
    oB (sI s39 (some z19.1.1) 0 5 v41) fun s42 =>
    oB (gI s42 v24 5 1) fun v43 =>
    oB (sI s42 (some z19.1.1) 0 6 v43) fun s44 =>
    oB (oR s44 v24 5) fun b45 =>
    oB (fX5_temper s44 b45) fun q46 =>
    oB (sI s44 (some z19.1.1) 0 7 q46) fun s47 =>
    oB (dlp (fX6_isSame_L166 a0 z19 s47) 0) fun b48 =>
    match b48 with
    | .inr r9 => some (.inr (.inr r9))
    | .inl yb48 =>
      oB (aI s47 (some st.1) 0 5) fun v55 =>
      oB (gI s47 v24 5 0) fun v56 =>
      oB (sI s47 (some st.1) 0 5 (v55 + v56)) fun s57 =>
      some (.inl (s57, (z19.2 + 1)))
noncomputable def fX6_isSame_L248 (x : Nat) (z58 : DSt × Int32 × Int32) (v63 : Option Nat) (z66 : Int32 × Int32) : Option ((Int32 × Int32) ⊕ (Int32 × Int32)) :=
  if z66.2 < 0 then
    some (.inr (z66.1, z66.2))
  else
    oB (gR z58.1 (some x) 6 3) fun v68 =>
    oB (aR z58.1 v68 6 z66.2) fun v69 =>
    oB (fX6_fits z58.1 v63 v69) fun q70 =>
    oB (if q70 = 0 then
        some z66.1
      else
        some z66.2) fun j71 =>
    some (.inl (j71, (z66.2 + (-1))))
noncomputable def fX6_isSame_L281 (a0 : Option Nat) (z58 : DSt × Int32 × Int32) (v63 : Option Nat) (z73 : Int32) : Option ((Int32) ⊕ ((Int32) ⊕ (Int32 × DSt))) :=
  if 5 ≤ z73 then
    some (.inr (.inl z73))
  else
    oB (oR z58.1 a0 4) fun b75 =>
    oB (nX (fX4_about z58.1 b75 z58.2.2 z73)) fun q76 =>
    oB (aI z58.1 v63 0 z73) fun v77 =>
    if q76 = v77 then
      some (.inl (z73 + 1))
    else
      oB (oZ 0) fun v79 =>
      some (.inr (.inr (v79, z58.1)))
noncomputable def fX6_isSame_L217 (st : DSt) (x : Nat) (a0 : Option Nat) (z58 : DSt × Int32 × Int32) : Option ((DSt × Int32 × Int32) ⊕ ((DSt × Int32 × Int32) ⊕ (Int32 × DSt))) :=
  oB (gR z58.1 (some x) 6 2) fun v59 =>
  oB (aN z58.1 v59 6) fun v60 =>
  if v60 ≤ z58.2.2 then
    some (.inr (.inl (z58.1, z58.2.1, z58.2.2)))
  else
    oB (gR z58.1 (some x) 6 2) fun v62 =>
    oB (aR z58.1 v62 6 z58.2.2) fun v63 =>
    oB (gR z58.1 (some x) 6 3) fun v64 =>
    oB (aN z58.1 v64 6) fun v65 =>
    oB (dlp (fX6_isSame_L248 x z58 v63) ((-1), (v65 - 1))) fun b66 =>
    oB (dlp (fX6_isSame_L281 a0 z58 v63) 0) fun b73 =>
    match b73 with
    | .inr r9 => some (.inr (.inr r9))
    | .inl yb73 =>
      oB (oR z58.1 a0 4) fun b80 =>
      oB (nX (fX4_about z58.1 b80 z58.2.2 5)) fun q81 =>
      oB (aI z58.1 v63 0 0) fun v82 =>
      oB (aI z58.1 v63 0 1) fun v83 =>
      if q81 = (v82 * v83) then
        oB (oR z58.1 a0 4) fun b86 =>
        oB (nX (fX4_about z58.1 b86 z58.2.2 6)) fun q87 =>
        if q87 = b66.1 then
          oB (aI z58.1 (some st.1) 0 6) fun v89 =>
          oB (aI z58.1 v63 0 0) fun v90 =>
          oB (aI z58.1 v63 0 1) fun v91 =>
          oB (sI z58.1 (some st.1) 0 6 (v89 + (v90 * v91))) fun s92 =>
          oB (aI s92 v63 0 3) fun v93 =>
          some (.inl (s92, (z58.2.1 + v93), (z58.2.2 + 1)))
        else
          oB (oZ 0) fun v94 =>
          some (.inr (.inr (v94, z58.1)))
      else
        oB (oZ 0) fun v85 =>
        some (.inr (.inr (v85, z58.1)))
noncomputable def fX6_isSame_L390 (x : Nat) (a0 : Option Nat) (z95 : DSt × Int32) (z99 : Int32) : Option ((Int32) ⊕ ((Int32) ⊕ (Int32 × DSt))) :=
  if 5 ≤ z99 then
    some (.inr (.inl z99))
  else
    oB (oR z95.1 a0 4) fun b101 =>
    oB (nX (fX4_order z95.1 b101 z95.2 z99)) fun q102 =>
    oB (gR z95.1 (some x) 6 3) fun v103 =>
    oB (aR z95.1 v103 6 z95.2) fun v104 =>
    oB (aI z95.1 v104 0 z99) fun v105 =>
    if q102 = v105 then
      some (.inl (z99 + 1))
    else
      oB (oZ 0) fun v107 =>
      some (.inr (.inr (v107, z95.1)))
noncomputable def fX6_isSame_L377 (st : DSt) (x : Nat) (a0 : Option Nat) (z95 : DSt × Int32) : Option ((DSt × Int32) ⊕ ((DSt × Int32) ⊕ (Int32 × DSt))) :=
  oB (gR z95.1 (some x) 6 3) fun v96 =>
  oB (aN z95.1 v96 6) fun v97 =>
  if v97 ≤ z95.2 then
    some (.inr (.inl (z95.1, z95.2)))
  else
    oB (dlp (fX6_isSame_L390 x a0 z95) 0) fun b99 =>
    match b99 with
    | .inr r9 => some (.inr (.inr r9))
    | .inl yb99 =>
      oB (aI z95.1 (some st.1) 0 4) fun v108 =>
      oB (gR z95.1 (some x) 6 3) fun v109 =>
      oB (aR z95.1 v109 6 z95.2) fun v110 =>
      oB (aI z95.1 v110 0 2) fun v111 =>
      oB (sI z95.1 (some st.1) 0 4 (v108 + v111)) fun s112 =>
      some (.inl (s112, (z95.2 + 1)))
noncomputable def fX6_isSame_L449 (st : DSt) (a0 : Option Nat) (yb95 : DSt × Int32) (z113 : Int32) : Option ((Int32) ⊕ ((Int32) ⊕ (Int32 × DSt))) :=
  if 8 ≤ z113 then
    some (.inr (.inl z113))
  else
    oB (oR yb95.1 a0 4) fun b115 =>
    oB (nX (fX4_count yb95.1 b115 z113)) fun q116 =>
    oB (aI yb95.1 (some st.1) 0 z113) fun v117 =>
    if q116 = v117 then
      some (.inl (z113 + 1))
    else
      oB (oZ 0) fun v119 =>
      some (.inr (.inr (v119, yb95.1)))
noncomputable def fX6_isSame (st : DSt) (x : Nat) (a0 : Option Nat) : Option (Int32 × DSt) :=
  oB (some (nC st (.inl (0, nI0 8)))) fun s1 =>
  oB (gI s1 (some x) 6 0) fun v2 =>
  oB (sI s1 (some st.1) 0 0 v2) fun s3 =>
  oB (gR s3 (some x) 6 1) fun v4 =>
  oB (aN s3 v4 5) fun v5 =>
  oB (sI s3 (some st.1) 0 1 v5) fun s6 =>
  oB (gR s6 (some x) 6 2) fun v7 =>
  oB (aN s6 v7 6) fun v8 =>
  oB (sI s6 (some st.1) 0 2 v8) fun s9 =>
  oB (gR s9 (some x) 6 3) fun v10 =>
  oB (aN s9 v10 6) fun v11 =>
  oB (sI s9 (some st.1) 0 3 v11) fun s12 =>
  oB (sI s12 (some st.1) 0 4 0) fun s13 =>
  oB (sI s13 (some st.1) 0 5 0) fun s14 =>
  oB (sI s14 (some st.1) 0 6 0) fun s15 =>
  oB (oR s15 (some x) 6) fun b16 =>
  oB (fX6_bloomed s15 b16) fun q17 =>
  oB (sI s15 (some st.1) 0 7 q17) fun s18 =>
  oB (dl_it (fX6_isSame_L62 st x a0) 6 (s18, 0)) fun b19 =>
  match b19 with
  | .inr r9 => some r9
  | .inl yb19 =>
    oB (dlp (fX6_isSame_L217 st x a0) (yb19.1, 0, 0)) fun b58 =>
    match b58 with
    | .inr r9 => some r9
    | .inl yb58 =>
      oB (dlp (fX6_isSame_L377 st x a0) (yb58.1, 0)) fun b95 =>
      match b95 with
      | .inr r9 => some r9
      | .inl yb95 =>
        oB (dlp (fX6_isSame_L449 st a0 yb95) 0) fun b113 =>
        match b113 with
        | .inr r9 => some r9
        | .inl yb113 =>
          oB (oR yb95.1 a0 4) fun b120 =>
          oB (fX4_mean yb95.1 b120) fun q121 =>
          oB (gR yb95.1 (some x) 6 2) fun v122 =>
          oB (aN yb95.1 v122 6) fun v123 =>
          oB (if v123 = 0 then
              some FP.dconst0
            else
              oB (gR yb95.1 (some x) 6 2) fun v126 =>
              oB (aN yb95.1 v126 6) fun v127 =>
              oB (oDD (FP.i2d yb58.2.1) (FP.i2d v127)) fun v128 =>
              some v128) fun j124 =>
          oB (if (Op.cmpValue (FP.dcmp q121 j124) .l) = 0 then
              some (1 : Int32)
            else
              some (0 : Int32)) fun j129 =>
          oB (oZ j129) fun v131 =>
          some (v131, yb95.1)
noncomputable def fL_below (st : DSt) (a0 : Int32) (a1 : Int32) : Option (Int32) :=
  oB (oM (a0 &&& 2147483647) a1) fun v1 =>
  some v1
noncomputable def fL_cell (xs : Nat → Int32) (L : Nat) (st : DSt) (a1 : Int32) : Option (Int32) :=
  oB (if (Int32.ofNat L) ≤ a1 then
      some (790386105 * (a1 + 3))
    else
      oB (sldO xs L a1) fun v3 =>
      some v3) fun j1 =>
  some j1
noncomputable def fL_act_L87 (st : DSt) (a1 : Option Nat) (v2 : Int32) (z15 : DSt × Int32) : Option ((DSt × Int32) ⊕ (DSt × Int32)) :=
  if v2 ≤ z15.2 then
    some (.inr (z15.1, z15.2))
  else
    oB (gR z15.1 a1 6 1) fun v17 =>
    oB (aR z15.1 v17 5 z15.2) fun v18 =>
    oB (sR z15.1 (some st.1) 5 5 z15.2 v18) fun s19 =>
    some (.inl (s19, (z15.2 + 1)))
noncomputable abbrev fL_act_p76 (st : DSt) (a0 : Option Nat) (a1 : Option Nat) (a2 : Int32) (v2 : Int32) : Option (Int32 × DSt) :=
  oB (nQ st (v2 + 1) 10 5) fun s14 =>
  oB (dlp (fL_act_L87 st a1 v2) (s14, 0)) fun b15 =>
  oB (some (nC b15.1 (.inr (5, [DI 0, DI 0, DR none])))) fun s20 =>
  oB (fX5_init s20 b15.1.1) fun q21 =>
  oB (sR q21 (some st.1) 5 5 v2 (some b15.1.1)) fun s22 =>
  oB (aR s22 (some st.1) 5 v2) fun v23 =>
  oB (fL_below s22 (a2 >>> (1 &&& 31)) 2001) fun q24 =>
  oB (pV s22 v23 5 0 (DI q24)) fun s25 =>
  oB (pV s25 a1 6 1 (DR (some st.1))) fun s26 =>
  oB (aR s26 (some st.1) 5 v2) fun v27 =>
  oB (gI s26 v27 5 0) fun v28 =>
  oB (oR s26 a0 4) fun b29 =>
  oB (nX (fX4_bowl s26 b29 v28)) fun q30 =>
  oB (if q30.1 = v2 then
      some (1 : Int32)
    else
      some (0 : Int32)) fun j31 =>
  oB (oZ j31) fun v33 =>
  some (v33, q30.2)
noncomputable abbrev fL_act_p701 (st : DSt) (a0 : Option Nat) (a1 : Option Nat) (a2 : Int32) : Option (Int32 × DSt) :=
  oB (some (nC st (.inl (0, nI0 5)))) fun s46 =>
  oB (fL_below s46 a2 2) fun q47 =>
  oB (if q47 = 0 then
      some (36 : Int32)
    else
      some (9 : Int32)) fun j48 =>
  oB (fL_below s46 (a2 >>> (3 &&& 31)) j48) fun q50 =>
  oB (sI s46 (some st.1) 0 0 (1 + q50)) fun s51 =>
  oB (fL_below s51 (a2 >>> (4 &&& 31)) 101) fun q52 =>
  oB (sI s51 (some st.1) 0 1 q52) fun s53 =>
  oB (sI s53 (some st.1) 0 2 0) fun s54 =>
  oB (sI s54 (some st.1) 0 3 (-1)) fun s55 =>
  oB (sI s55 (some st.1) 0 4 (-1)) fun s56 =>
  oB (gR s56 a1 6 3) fun v57 =>
  oB (fX6_with s56 v57 (some st.1)) fun q58 =>
  oB (pV q58.2 a1 6 3 (DR q58.1)) fun s59 =>
  oB (aI s59 (some st.1) 0 0) fun v60 =>
  oB (aI s59 (some st.1) 0 1) fun v61 =>
  oB (oR s59 a0 4) fun b62 =>
  oB (nX (fX4_box s59 b62 v60 v61)) fun q63 =>
  oB (gR q63.2 a1 6 3) fun v64 =>
  oB (aN q63.2 v64 6) fun v65 =>
  oB (if q63.1 = (v65 - 1) then
      some (1 : Int32)
    else
      some (0 : Int32)) fun j66 =>
  oB (oZ j66) fun v68 =>
  some (v68, q63.2)
noncomputable abbrev fL_act_p1097 (st : DSt) (a0 : Option Nat) (a1 : Option Nat) (a2 : Int32) (v4 : Int32) (j8 : Int32) (v75 : Option Nat) (j79 : Int32) (j81 : Int32) : Option (Int32 × DSt) :=
  oB (aI st v75 0 j81) fun v87 =>
  oB (fL_below st (a2 >>> (4 &&& 31)) (v87 - 1)) fun q88 =>
  oB (clI st v75 8) fun s89 =>
  oB (isAI s89 (some st.1)) fun u90 =>
  oB (aI s89 (some st.1) 0 j81) fun v91 =>
  oB (sI s89 (some st.1) 0 j81 (v91 - (1 + q88))) fun s92 =>
  oB (sI s92 v75 0 j81 (1 + q88)) fun s93 =>
  oB (gR s93 a1 6 2) fun v94 =>
  oB (fX6_with s93 v94 (some st.1)) fun q95 =>
  oB (pV q95.2 a1 6 2 (DR q95.1)) fun s96 =>
  oB (oR s96 a0 4) fun b97 =>
  oB (nX (fX4_split s96 b97 j8 (1 + q88) j79)) fun q98 =>
  oB (if q98.1 = v4 then
      some (1 : Int32)
    else
      some (0 : Int32)) fun j99 =>
  oB (oZ j99) fun v101 =>
  some (v101, q98.2)
noncomputable abbrev fL_act_p1088 (st : DSt) (a0 : Option Nat) (a1 : Option Nat) (a2 : Int32) (v4 : Int32) (j8 : Int32) (v75 : Option Nat) (j79 : Int32) (j81 : Int32) : Option (Int32 × DSt) :=
  if v4 = 8 then
    oB (oZ 1) fun v102 =>
    some (v102, st)
  else
    fL_act_p1097 st a0 a1 a2 v4 j8 v75 j79 j81
noncomputable abbrev fL_act_p993 (st : DSt) (a0 : Option Nat) (a1 : Option Nat) (j5 : Int32) (j8 : Int32) (v37 : Option Nat) (v75 : Option Nat) : Option (Int32 × DSt) :=
  oB (gI st v37 5 0) fun v107 =>
  oB (aI st v75 0 0) fun v108 =>
  oB (aI st v75 0 1) fun v109 =>
  oB (pV st v37 5 0 (DI (v107 + ((10 * v108) * v109)))) fun s110 =>
  oB (gR s110 a1 6 2) fun v111 =>
  oB (fX6_without s110 v111 j8) fun q112 =>
  oB (pV q112.2 a1 6 2 (DR q112.1)) fun s113 =>
  oB (oR s113 a0 4) fun b114 =>
  oB (nX (fX4_melt s113 b114 j8 j5)) fun q115 =>
  oB (gI q115.2 v37 5 0) fun v116 =>
  oB (if q115.1 = v116 then
      some (1 : Int32)
    else
      some (0 : Int32)) fun j117 =>
  oB (oZ j117) fun v119 =>
  some (v119, q115.2)
noncomputable abbrev fL_act_p1050 (st : DSt) (a0 : Option Nat) (a1 : Option Nat) (a2 : Int32) (v4 : Int32) (j8 : Int32) (v75 : Option Nat) : Option (Int32 × DSt) :=
  oB (fL_below st (a2 >>> (3 &&& 31)) 2) fun q78 =>
  oB (if q78 = 0 then
      some (1 : Int32)
    else
      some (0 : Int32)) fun j79 =>
  oB (if j79 = 0 then
      some (0 : Int32)
    else
      some (1 : Int32)) fun j81 =>
  oB (aI st v75 0 j81) fun v83 =>
  if v83 = 1 then
    oB (oZ 1) fun v85 =>
    some (v85, st)
  else
    fL_act_p1088 st a0 a1 a2 v4 j8 v75 j79 j81
noncomputable abbrev fL_act_p967 (st : DSt) (a0 : Option Nat) (a1 : Option Nat) (j5 : Int32) (j8 : Int32) (v37 : Option Nat) (v75 : Option Nat) : Option (Int32 × DSt) :=
  oB (gI st v37 5 0) fun v103 =>
  oB (aI st v75 0 0) fun v104 =>
  oB (aI st v75 0 1) fun v105 =>
  if (v103 + ((10 * v104) * v105)) ≤ 2000 then
    fL_act_p993 st a0 a1 j5 j8 v37 v75
  else
    oB (oZ 1) fun v120 =>
    some (v120, st)
noncomputable abbrev fL_act_p960 (st : DSt) (a0 : Option Nat) (a1 : Option Nat) (a2 : Int32) (v4 : Int32) (j5 : Int32) (j8 : Int32) (q11 : Int32) (v37 : Option Nat) (v75 : Option Nat) : Option (Int32 × DSt) :=
  if q11 = 17 then
    fL_act_p967 st a0 a1 j5 j8 v37 v75
  else
    fL_act_p1050 st a0 a1 a2 v4 j8 v75
noncomputable abbrev fL_act_p917 (st : DSt) (a0 : Option Nat) (j8 : Int32) (v75 : Option Nat) : Option (Int32 × DSt) :=
  oB (aI st v75 0 3) fun v121 =>
  oB (if 15 ≤ v121 then
      oB (aI st v75 0 3) fun v124 =>
      some (v124 - 15)
    else
      some (0 : Int32)) fun j122 =>
  oB (sI st v75 0 3 j122) fun s125 =>
  oB (oR s125 a0 4) fun b126 =>
  oB (nX (fX4_polish s125 b126 j8)) fun q127 =>
  oB (aI q127.2 v75 0 3) fun v128 =>
  oB (if q127.1 = v128 then
      some (1 : Int32)
    else
      some (0 : Int32)) fun j129 =>
  oB (oZ j129) fun v131 =>
  some (v131, q127.2)
noncomputable abbrev fL_act_p901 (st : DSt) (a0 : Option Nat) (a1 : Option Nat) (a2 : Int32) (v4 : Int32) (j5 : Int32) (j8 : Int32) (q11 : Int32) (v37 : Option Nat) : Option (Int32 × DSt) :=
  oB (gR st a1 6 2) fun v74 =>
  oB (aR st v74 6 j8) fun v75 =>
  if q11 = 16 then
    fL_act_p917 st a0 j8 v75
  else
    fL_act_p960 st a0 a1 a2 v4 j5 j8 q11 v37 v75
noncomputable def fL_act_L854 (a1 : Option Nat) (q133 : Int32) (q134 : Int32) (z135 : DSt × Int32) : Option ((DSt × Int32) ⊕ (DSt × Int32)) :=
  if (1 + q134) ≤ z135.2 then
    some (.inr (z135.1, z135.2))
  else
    oB (oR z135.1 a1 6) fun b137 =>
    oB (fX6_pass z135.1 b137 (10 + q133)) fun q138 =>
    some (.inl (q138, (z135.2 + 1)))
noncomputable abbrev fL_act_p894 (st : DSt) (a0 : Option Nat) (a1 : Option Nat) (a2 : Int32) (v4 : Int32) (j5 : Int32) (j8 : Int32) (q11 : Int32) (v37 : Option Nat) : Option (Int32 × DSt) :=
  if v4 = 0 then
    oB (oZ 1) fun v132 =>
    some (v132, st)
  else
    fL_act_p901 st a0 a1 a2 v4 j5 j8 q11 v37
noncomputable abbrev fL_act_p827 (st : DSt) (a0 : Option Nat) (a1 : Option Nat) (a2 : Int32) : Option (Int32 × DSt) :=
  oB (fL_below st (a2 >>> (3 &&& 31)) 31) fun q133 =>
  oB (fL_below st (a2 >>> (5 &&& 31)) 5) fun q134 =>
  oB (dlp (fL_act_L854 a1 q133 q134) (st, 0)) fun b135 =>
  oB (oR b135.1 a0 4) fun b139 =>
  oB (nX (fX4_pass b135.1 b139 (10 + q133) (1 + q134))) fun q140 =>
  oB (oR q140.2 a1 6) fun b141 =>
  oB (fX6_bloomed q140.2 b141) fun q142 =>
  oB (if q140.1 = q142 then
      some (1 : Int32)
    else
      some (0 : Int32)) fun j143 =>
  oB (oZ j143) fun v145 =>
  some (v145, q140.2)
noncomputable abbrev fL_act_p820 (st : DSt) (a0 : Option Nat) (a1 : Option Nat) (a2 : Int32) (v4 : Int32) (j5 : Int32) (j8 : Int32) (q11 : Int32) (v37 : Option Nat) : Option (Int32 × DSt) :=
  if q11 = 15 then
    fL_act_p827 st a0 a1 a2
  else
    fL_act_p894 st a0 a1 a2 v4 j5 j8 q11 v37
noncomputable abbrev fL_act_p803 (st : DSt) (a0 : Option Nat) (a1 : Option Nat) : Option (Int32 × DSt) :=
  oB (oR st a0 4) fun b146 =>
  oB (fX4_fill st b146) fun q147 =>
  oB (oR q147.2 a1 6) fun b148 =>
  oB (fX6_fill q147.2 b148) fun q149 =>
  oB (if q147.1 = q149.1 then
      some (1 : Int32)
    else
      some (0 : Int32)) fun j150 =>
  oB (oZ j150) fun v152 =>
  some (v152, q149.2)
noncomputable abbrev fL_act_p796 (st : DSt) (a0 : Option Nat) (a1 : Option Nat) (a2 : Int32) (v4 : Int32) (j5 : Int32) (j8 : Int32) (q11 : Int32) (v37 : Option Nat) : Option (Int32 × DSt) :=
  if q11 = 14 then
    fL_act_p803 st a0 a1
  else
    fL_act_p820 st a0 a1 a2 v4 j5 j8 q11 v37
noncomputable abbrev fL_act_p689 (st : DSt) (a0 : Option Nat) (a1 : Option Nat) (a2 : Int32) : Option (Int32 × DSt) :=
  oB (gR st a1 6 3) fun v153 =>
  oB (aN st v153 6) fun v154 =>
  if v154 = 6 then
    oB (oZ 1) fun v179 =>
    some (v179, st)
  else
    fL_act_p701 st a0 a1 a2
noncomputable abbrev fL_act_p682 (st : DSt) (a0 : Option Nat) (a1 : Option Nat) (a2 : Int32) (v4 : Int32) (j5 : Int32) (j8 : Int32) (q11 : Int32) (v37 : Option Nat) : Option (Int32 × DSt) :=
  if q11 = 13 then
    fL_act_p689 st a0 a1 a2
  else
    fL_act_p796 st a0 a1 a2 v4 j5 j8 q11 v37
noncomputable abbrev fL_act_p596 (st : DSt) (a0 : Option Nat) (a1 : Option Nat) (v4 : Int32) (j5 : Int32) (v37 : Option Nat) (q180 : Int32) (q181 : Int32) : Option (Int32 × DSt) :=
  oB (gI st v37 5 0) fun v186 =>
  oB (pV st v37 5 0 (DI (v186 - ((10 * (1 + q180)) * (1 + q181))))) fun s187 =>
  oB (gR s187 a1 6 2) fun v188 =>
  oB (some (nC s187 (.inl (0, nI0 5)))) fun s189 =>
  oB (sI s189 (some s187.1) 0 0 (1 + q180)) fun s190 =>
  oB (sI s190 (some s187.1) 0 1 (1 + q181)) fun s191 =>
  oB (oR s191 v37 5) fun b192 =>
  oB (fX5_temper s191 b192) fun q193 =>
  oB (sI s191 (some s187.1) 0 2 q193) fun s194 =>
  oB (sI s194 (some s187.1) 0 3 0) fun s195 =>
  oB (sI s195 (some s187.1) 0 4 0) fun s196 =>
  oB (fX6_with s196 v188 (some s187.1)) fun q197 =>
  oB (pV q197.2 a1 6 2 (DR q197.1)) fun s198 =>
  oB (oR s198 a0 4) fun b199 =>
  oB (nX (fX4_cast s198 b199 j5 (1 + q180) (1 + q181))) fun q200 =>
  oB (if q200.1 = v4 then
      some (1 : Int32)
    else
      some (0 : Int32)) fun j201 =>
  oB (oZ j201) fun v203 =>
  some (v203, q200.2)
noncomputable abbrev fL_act_p578 (st : DSt) (a0 : Option Nat) (a1 : Option Nat) (v4 : Int32) (j5 : Int32) (v37 : Option Nat) (q180 : Int32) (q181 : Int32) : Option (Int32 × DSt) :=
  oB (gI st v37 5 0) fun v184 =>
  if ((10 * (1 + q180)) * (1 + q181)) ≤ v184 then
    fL_act_p596 st a0 a1 v4 j5 v37 q180 q181
  else
    oB (oZ 1) fun v204 =>
    some (v204, st)
noncomputable abbrev fL_act_p675 (st : DSt) (a0 : Option Nat) (a1 : Option Nat) (a2 : Int32) (v4 : Int32) (j5 : Int32) (j8 : Int32) (q11 : Int32) (v37 : Option Nat) : Option (Int32 × DSt) :=
  if q11 = 12 then
    fL_act_p689 st a0 a1 a2
  else
    fL_act_p682 st a0 a1 a2 v4 j5 j8 q11 v37
noncomputable abbrev fL_act_p546 (st : DSt) (a0 : Option Nat) (a1 : Option Nat) (a2 : Int32) (v4 : Int32) (j5 : Int32) (v37 : Option Nat) : Option (Int32 × DSt) :=
  oB (fL_below st (a2 >>> (3 &&& 31)) 6) fun q180 =>
  oB (fL_below st (a2 >>> (6 &&& 31)) 6) fun q181 =>
  if v4 = 8 then
    oB (oZ 1) fun v183 =>
    some (v183, st)
  else
    fL_act_p578 st a0 a1 v4 j5 v37 q180 q181
noncomputable def fL_act_L398 (v37 : Option Nat) (v207 : Option Nat) (v208 : Int32) (v209 : Int32) (z215 : DSt × Int32) : Option ((DSt × Int32) ⊕ (DSt × Int32)) :=
  if 6 ≤ z215.2 then
    some (.inr (z215.1, z215.2))
  else
    oB (gR z215.1 v37 5 2) fun v217 =>
    oB (gR z215.1 v37 5 2) fun v218 =>
    oB (aI z215.1 v218 0 z215.2) fun v219 =>
    oB (gI z215.1 v37 5 0) fun v220 =>
    oB (gR z215.1 v207 5 2) fun v221 =>
    oB (aI z215.1 v221 0 z215.2) fun v222 =>
    oB (gI z215.1 v207 5 0) fun v223 =>
    oB (oD ((v219 * v220) + (v222 * v223)) (v208 + v209)) fun v224 =>
    oB (sI z215.1 v217 0 z215.2 v224) fun s225 =>
    some (.inl (s225, (z215.2 + 1)))
noncomputable def fL_act_L498 (v207 : Option Nat) (z234 : DSt × Int32) : Option ((DSt × Int32) ⊕ (DSt × Int32)) :=
  if 6 ≤ z234.2 then
    some (.inr (z234.1, z234.2))
  else
    oB (gR z234.1 v207 5 2) fun v236 =>
    oB (sI z234.1 v236 0 z234.2 0) fun s237 =>
    some (.inl (s237, (z234.2 + 1)))
noncomputable abbrev fL_act_p395 (st : DSt) (a0 : Option Nat) (j5 : Int32) (v37 : Option Nat) (q205 : Int32) (v207 : Option Nat) (v208 : Int32) (v209 : Int32) : Option (Int32 × DSt) :=
  oB (dlp (fL_act_L398 v37 v207 v208 v209) (st, 1)) fun b215 =>
  oB (gI b215.1 v37 5 1) fun v226 =>
  oB (gI b215.1 v37 5 0) fun v227 =>
  oB (gI b215.1 v207 5 1) fun v228 =>
  oB (gI b215.1 v207 5 0) fun v229 =>
  oB (oD ((v226 * v227) + (v228 * v229)) (v208 + v209)) fun v230 =>
  oB (pV b215.1 v37 5 1 (DI v230)) fun s231 =>
  oB (pV s231 v37 5 0 (DI (v208 + v209))) fun s232 =>
  oB (pV s232 v207 5 0 (DI 0)) fun s233 =>
  oB (dlp (fL_act_L498 v207) (s233, 1)) fun b234 =>
  oB (oR b234.1 a0 4) fun b238 =>
  oB (nX (fX4_pour b234.1 b238 q205 j5)) fun q239 =>
  oB (if q239.1 = (v208 + v209) then
      some (1 : Int32)
    else
      some (0 : Int32)) fun j240 =>
  oB (oZ j240) fun v242 =>
  some (v242, q239.2)
noncomputable abbrev fL_act_p385 (st : DSt) (a0 : Option Nat) (j5 : Int32) (v37 : Option Nat) (q205 : Int32) (v207 : Option Nat) (v208 : Int32) (v209 : Int32) : Option (Int32 × DSt) :=
  if (v208 + v209) ≤ 2000 then
    fL_act_p395 st a0 j5 v37 q205 v207 v208 v209
  else
    oB (oZ 1) fun v243 =>
    some (v243, st)
noncomputable abbrev fL_act_p380 (st : DSt) (a0 : Option Nat) (j5 : Int32) (v37 : Option Nat) (q205 : Int32) (v207 : Option Nat) (v208 : Int32) (v209 : Int32) : Option (Int32 × DSt) :=
  if (v208 + v209) = 0 then
    oB (oZ 1) fun v213 =>
    some (v213, st)
  else
    fL_act_p385 st a0 j5 v37 q205 v207 v208 v209
noncomputable abbrev fL_act_p539 (st : DSt) (a0 : Option Nat) (a1 : Option Nat) (a2 : Int32) (v4 : Int32) (j5 : Int32) (j8 : Int32) (q11 : Int32) (v37 : Option Nat) : Option (Int32 × DSt) :=
  if 12 ≤ q11 then
    fL_act_p675 st a0 a1 a2 v4 j5 j8 q11 v37
  else
    fL_act_p546 st a0 a1 a2 v4 j5 v37
noncomputable abbrev fL_act_p342 (st : DSt) (a0 : Option Nat) (a1 : Option Nat) (a2 : Int32) (v2 : Int32) (j5 : Int32) (v37 : Option Nat) : Option (Int32 × DSt) :=
  oB (fL_below st (a2 >>> (4 &&& 31)) v2) fun q205 =>
  oB (gR st a1 6 1) fun v206 =>
  oB (aR st v206 5 q205) fun v207 =>
  oB (gI st v37 5 0) fun v208 =>
  oB (gI st v207 5 0) fun v209 =>
  if q205 = j5 then
    oB (oZ 1) fun v211 =>
    some (v211, st)
  else
    fL_act_p380 st a0 j5 v37 q205 v207 v208 v209
noncomputable abbrev fL_act_p335 (st : DSt) (a0 : Option Nat) (a1 : Option Nat) (a2 : Int32) (v2 : Int32) (v4 : Int32) (j5 : Int32) (j8 : Int32) (q11 : Int32) (v37 : Option Nat) : Option (Int32 × DSt) :=
  if q11 = 7 then
    fL_act_p342 st a0 a1 a2 v2 j5 v37
  else
    fL_act_p539 st a0 a1 a2 v4 j5 j8 q11 v37
noncomputable abbrev fL_act_p276 (st : DSt) (a0 : Option Nat) (a2 : Int32) (j5 : Int32) (v37 : Option Nat) : Option (Int32 × DSt) :=
  oB (fL_below st (a2 >>> (3 &&& 31)) 30) fun q244 =>
  oB (gR st v37 5 2) fun v245 =>
  oB (aI st v245 0 5) fun v246 =>
  oB (oR st v37 5) fun b247 =>
  oB (fX5_all st b247) fun q248 =>
  oB (sI st v245 0 5 (v246 + (jmin (1 + q244) (100 - q248)))) fun s249 =>
  oB (oR s249 a0 4) fun b250 =>
  oB (nX (fX4_seed s249 b250 j5 (1 + q244))) fun q251 =>
  oB (gR q251.2 v37 5 2) fun v252 =>
  oB (aI q251.2 v252 0 5) fun v253 =>
  oB (if q251.1 = v253 then
      some (1 : Int32)
    else
      some (0 : Int32)) fun j254 =>
  oB (oZ j254) fun v256 =>
  some (v256, q251.2)
noncomputable abbrev fL_act_p269 (st : DSt) (a0 : Option Nat) (a1 : Option Nat) (a2 : Int32) (v2 : Int32) (v4 : Int32) (j5 : Int32) (j8 : Int32) (q11 : Int32) (v37 : Option Nat) : Option (Int32 × DSt) :=
  if 7 ≤ q11 then
    fL_act_p335 st a0 a1 a2 v2 v4 j5 j8 q11 v37
  else
    fL_act_p276 st a0 a2 j5 v37
noncomputable abbrev fL_act_p180 (st : DSt) (a0 : Option Nat) (a2 : Int32) (j5 : Int32) (q11 : Int32) (v37 : Option Nat) : Option (Int32 × DSt) :=
  oB (if q11 = 1 then
      oB (fL_below st (a2 >>> (3 &&& 31)) 36) fun q260 =>
      some (15 + q260)
    else
      oB (fL_below st (a2 >>> (3 &&& 31)) 11) fun q259 =>
      some (24 + q259)) fun j257 =>
  oB (fL_below st a2 3) fun q261 =>
  oB (if q261 = 0 then
      some (40 : Int32)
    else
      some (9 : Int32)) fun j262 =>
  oB (fL_below st (a2 >>> (5 &&& 31)) j262) fun q264 =>
  oB (oR st a0 4) fun b265 =>
  oB (nX (fX4_warm st b265 j5 j257 (1 + q264))) fun q266 =>
  oB (oR q266.2 v37 5) fun b267 =>
  oB (fX5_kept q266.2 b267 j257 (1 + q264)) fun q268 =>
  oB (oR q268.2 q268.1 5) fun b269 =>
  oB (fX5_temper q268.2 b269) fun q270 =>
  oB (if q266.1 = q270 then
      some (1 : Int32)
    else
      some (0 : Int32)) fun j271 =>
  oB (oZ j271) fun v273 =>
  some (v273, q268.2)
noncomputable abbrev fL_act_p165 (st : DSt) (a0 : Option Nat) (a1 : Option Nat) (a2 : Int32) (v2 : Int32) (v4 : Int32) (j5 : Int32) (j8 : Int32) (q11 : Int32) : Option (Int32 × DSt) :=
  oB (gR st a1 6 1) fun v36 =>
  oB (aR st v36 5 j5) fun v37 =>
  if 5 ≤ q11 then
    fL_act_p269 st a0 a1 a2 v2 v4 j5 j8 q11 v37
  else
    fL_act_p180 st a0 a2 j5 q11 v37
noncomputable abbrev fL_act_p69 (st : DSt) (a0 : Option Nat) (a1 : Option Nat) (a2 : Int32) (v2 : Int32) : Option (Int32 × DSt) :=
  if v2 = 5 then
    oB (oZ 1) fun v295 =>
    some (v295, st)
  else
    fL_act_p76 st a0 a1 a2 v2
noncomputable abbrev fL_act_p64 (st : DSt) (a0 : Option Nat) (a1 : Option Nat) (a2 : Int32) (v2 : Int32) (v4 : Int32) (j5 : Int32) (j8 : Int32) (q11 : Int32) : Option (Int32 × DSt) :=
  if q11 = 0 then
    fL_act_p69 st a0 a1 a2 v2
  else
    fL_act_p165 st a0 a1 a2 v2 v4 j5 j8 q11
noncomputable def fL_act (st : DSt) (a0 : Option Nat) (a1 : Option Nat) (a2 : Int32) : Option (Int32 × DSt) :=
  oB (gR st a1 6 1) fun v1 =>
  oB (aN st v1 5) fun v2 =>
  oB (gR st a1 6 2) fun v3 =>
  oB (aN st v3 6) fun v4 =>
  oB (if v2 = 0 then
      some (0 : Int32)
    else
      oB (fL_below st (a2 >>> (1 &&& 31)) v2) fun q7 =>
      some q7) fun j5 =>
  oB (if v4 = 0 then
      some (0 : Int32)
    else
      oB (fL_below st (a2 >>> (2 &&& 31)) v4) fun q10 =>
      some q10) fun j8 =>
  oB (fL_below st (a2 >>> (9 &&& 31)) 22) fun q11 =>
  if v2 = 0 then
    fL_act_p69 st a0 a1 a2 v2
  else
    fL_act_p64 st a0 a1 a2 v2 v4 j5 j8 q11
noncomputable def fL_build_L25 (xs : Nat → Int32) (L : Nat) (st : DSt) (a0 : Option Nat) (q4 : Int32) (z5 : DSt × Int32) : Option ((DSt × Int32) ⊕ ((DSt × Int32) ⊕ (Option Nat × DSt))) :=
  if (20 + q4) ≤ z5.2 then
    some (.inr (.inl (z5.1, z5.2)))
  else
    oB (oM z5.2 16) fun v7 =>
    oB (fL_cell xs L z5.1 v7) fun q8 =>
    oB (oD z5.2 16) fun v9 =>
    oB (fL_act z5.1 a0 (some st.1) ((q8 >>> ((v9 * 3) &&& 31)) + (467 * z5.2))) fun q10 =>
    if q10.1 = 0 then
      some (.inr (.inr (none, q10.2)))
    else
      some (.inl (q10.2, (z5.2 + 1)))
noncomputable def fL_build (xs : Nat → Int32) (L : Nat) (st : DSt) (a0 : Option Nat) : Option (Option Nat × DSt) :=
  oB (some (nC st (.inr (6, [DI 0, DR none, DR none, DR none])))) fun s1 =>
  oB (fX6_init s1 st.1) fun q2 =>
  oB (fL_cell xs L q2 0) fun q3 =>
  oB (fL_below q2 q3 40) fun q4 =>
  oB (dl_it (fL_build_L25 xs L st a0 q4) 60 (q2, 0)) fun b5 =>
  match b5 with
  | .inr r9 => some r9
  | .inl yb5 =>
    some ((some st.1), yb5.1)
noncomputable def fL_law_L64 (st : DSt) (z7 : DSt × Int32) (z14 : Int32 × Int32) : Option ((Int32 × Int32) ⊕ (Int32 × Int32)) :=
  oB (oR z7.1 (some st.1) 4) fun b15 =>
  oB (nX (fX4_count z7.1 b15 3)) fun q16 =>
  if q16 ≤ z14.2 then
    some (.inr (z14.1, z14.2))
  else
    oB (oR z7.1 (some st.1) 4) fun b18 =>
    oB (nX (fX4_order z7.1 b18 z14.2 2)) fun q19 =>
    oB (oR z7.1 (some st.1) 4) fun b20 =>
    oB (nX (fX4_order z7.1 b20 z14.2 0)) fun q21 =>
    some (.inl ((z14.1 + (q19 * q21)), (z14.2 + 1)))
noncomputable def fL_law_L186 (st : DSt) (q28 : Int32 × DSt) (z36 : Int32 × Int32) (z40 : Int32 × Int32) : Option ((Int32 × Int32) ⊕ ((Int32 × Int32) ⊕ (Int32 × DSt))) :=
  if 6 ≤ z40.2 then
    some (.inr (.inl (z40.1, z40.2)))
  else
    oB (oR q28.2 (some st.1) 4) fun b42 =>
    oB (nX (fX4_told q28.2 b42 z36.2 z40.2)) fun q43 =>
    if 0 ≤ q43 then
      oB (oR q28.2 (some st.1) 4) fun b45 =>
      oB (nX (fX4_told q28.2 b45 z36.2 z40.2)) fun q46 =>
      some (.inl ((z40.1 + q46), (z40.2 + 1)))
    else
      oB (oZ 0) fun v47 =>
      some (.inr (.inr (v47, q28.2)))
noncomputable def fL_law_L170 (st : DSt) (q28 : Int32 × DSt) (z36 : Int32 × Int32) : Option ((Int32 × Int32) ⊕ ((Int32 × Int32) ⊕ (Int32 × DSt))) :=
  oB (oR q28.2 (some st.1) 4) fun b37 =>
  oB (nX (fX4_count q28.2 b37 1)) fun q38 =>
  if q38 ≤ z36.2 then
    some (.inr (.inl (z36.1, z36.2)))
  else
    oB (dlp (fL_law_L186 st q28 z36) (0, 1)) fun b40 =>
    match b40 with
    | .inr r9 => some (.inr (.inr r9))
    | .inl yb40 =>
      oB (oR q28.2 (some st.1) 4) fun b48 =>
      oB (nX (fX4_told q28.2 b48 z36.2 5)) fun q49 =>
      oB (oR q28.2 (some st.1) 4) fun b50 =>
      oB (nX (fX4_told q28.2 b50 z36.2 4)) fun q51 =>
      oB (oR q28.2 (some st.1) 4) fun b52 =>
      oB (nX (fX4_told q28.2 b52 z36.2 3)) fun q53 =>
      oB (oR q28.2 (some st.1) 4) fun b54 =>
      oB (nX (fX4_told q28.2 b54 z36.2 2)) fun q55 =>
      oB (oR q28.2 (some st.1) 4) fun b56 =>
      oB (nX (fX4_told q28.2 b56 z36.2 1)) fun q57 =>
      if 100 < yb40.1 then
        oB (oZ 0) fun v59 =>
        some (.inr (.inr (v59, q28.2)))
      else
        oB (oR q28.2 (some st.1) 4) fun b60 =>
        oB (nX (fX4_told q28.2 b60 z36.2 7)) fun q61 =>
        if q61 = (jmax 0 (jmin 100 (((((2 * q49) + q51) - q53) - q55) - q57))) then
          oB (oR q28.2 (some st.1) 4) fun b64 =>
          oB (nX (fX4_told q28.2 b64 z36.2 6)) fun q65 =>
          if q65 < 15 then
            oB (oZ 0) fun v67 =>
            some (.inr (.inr (v67, q28.2)))
          else
            oB (oR q28.2 (some st.1) 4) fun b68 =>
            oB (nX (fX4_told q28.2 b68 z36.2 6)) fun q69 =>
            if 50 < q69 then
              oB (oZ 0) fun v71 =>
              some (.inr (.inr (v71, q28.2)))
            else
              oB (oR q28.2 (some st.1) 4) fun b72 =>
              oB (nX (fX4_told q28.2 b72 z36.2 0)) fun q73 =>
              if q73 < 0 then
                oB (oZ 0) fun v75 =>
                some (.inr (.inr (v75, q28.2)))
              else
                oB (oR q28.2 (some st.1) 4) fun b76 =>
                oB (nX (fX4_told q28.2 b76 z36.2 0)) fun q77 =>
                if q77 ≤ 2000 then
                  oB (oR q28.2 (some st.1) 4) fun b79 =>
                  oB (nX (fX4_told q28.2 b79 z36.2 0)) fun q80 =>
                  some (.inl ((z36.1 + q80), (z36.2 + 1)))
                else
                  oB (oZ 0) fun v81 =>
                  some (.inr (.inr (v81, q28.2)))
        else
          oB (oZ 0) fun v63 =>
          some (.inr (.inr (v63, q28.2)))
noncomputable def fL_law_L375 (st : DSt) (q28 : Int32 × DSt) (z82 : Int32 × Int32 × Int32) : Option ((Int32 × Int32 × Int32) ⊕ ((Int32 × Int32 × Int32) ⊕ (Int32 × DSt))) :=
  oB (oR q28.2 (some st.1) 4) fun b83 =>
  oB (nX (fX4_count q28.2 b83 2)) fun q84 =>
  if q84 ≤ z82.2.2 then
    some (.inr (.inl (z82.1, z82.2.1, z82.2.2)))
  else
    oB (oR q28.2 (some st.1) 4) fun b86 =>
    oB (nX (fX4_about q28.2 b86 z82.2.2 6)) fun q87 =>
    oB (oR q28.2 (some st.1) 4) fun b88 =>
    oB (nX (fX4_about q28.2 b88 z82.2.2 5)) fun q89 =>
    oB (oR q28.2 (some st.1) 4) fun b90 =>
    oB (nX (fX4_about q28.2 b90 z82.2.2 0)) fun q91 =>
    if q91 < 1 then
      oB (oZ 0) fun v93 =>
      some (.inr (.inr (v93, q28.2)))
    else
      oB (oR q28.2 (some st.1) 4) fun b94 =>
      oB (nX (fX4_about q28.2 b94 z82.2.2 0)) fun q95 =>
      if 6 < q95 then
        oB (oZ 0) fun v97 =>
        some (.inr (.inr (v97, q28.2)))
      else
        oB (oR q28.2 (some st.1) 4) fun b98 =>
        oB (nX (fX4_about q28.2 b98 z82.2.2 1)) fun q99 =>
        if q99 < 1 then
          oB (oZ 0) fun v101 =>
          some (.inr (.inr (v101, q28.2)))
        else
          oB (oR q28.2 (some st.1) 4) fun b102 =>
          oB (nX (fX4_about q28.2 b102 z82.2.2 1)) fun q103 =>
          if 6 < q103 then
            oB (oZ 0) fun v105 =>
            some (.inr (.inr (v105, q28.2)))
          else
            oB (oR q28.2 (some st.1) 4) fun b106 =>
            oB (nX (fX4_about q28.2 b106 z82.2.2 0)) fun q107 =>
            oB (oR q28.2 (some st.1) 4) fun b108 =>
            oB (nX (fX4_about q28.2 b108 z82.2.2 1)) fun q109 =>
            if q89 = (q107 * q109) then
              oB (oR q28.2 (some st.1) 4) fun b112 =>
              oB (nX (fX4_about q28.2 b112 z82.2.2 2)) fun q113 =>
              if q113 < 0 then
                oB (oZ 0) fun v115 =>
                some (.inr (.inr (v115, q28.2)))
              else
                oB (oR q28.2 (some st.1) 4) fun b116 =>
                oB (nX (fX4_about q28.2 b116 z82.2.2 2)) fun q117 =>
                if 100 < q117 then
                  oB (oZ 0) fun v119 =>
                  some (.inr (.inr (v119, q28.2)))
                else
                  oB (oR q28.2 (some st.1) 4) fun b120 =>
                  oB (nX (fX4_about q28.2 b120 z82.2.2 3)) fun q121 =>
                  if q121 < 0 then
                    oB (oZ 0) fun v123 =>
                    some (.inr (.inr (v123, q28.2)))
                  else
                    oB (oR q28.2 (some st.1) 4) fun b124 =>
                    oB (nX (fX4_about q28.2 b124 z82.2.2 3)) fun q125 =>
                    if 100 < q125 then
                      oB (oZ 0) fun v127 =>
                      some (.inr (.inr (v127, q28.2)))
                    else
                      oB (oR q28.2 (some st.1) 4) fun b128 =>
                      oB (nX (fX4_about q28.2 b128 z82.2.2 4)) fun q129 =>
                      if q129 < 0 then
                        oB (oZ 0) fun v131 =>
                        some (.inr (.inr (v131, q28.2)))
                      else
                        oB (oR q28.2 (some st.1) 4) fun b132 =>
                        oB (nX (fX4_about q28.2 b132 z82.2.2 4)) fun q133 =>
                        oB (oR q28.2 (some st.1) 4) fun b134 =>
                        oB (nX (fX4_count q28.2 b134 0)) fun q135 =>
                        if q133 ≤ q135 then
                          if q87 < 0 then
                            oB (oR q28.2 (some st.1) 4) fun b138 =>
                            oB (nX (fX4_about q28.2 b138 z82.2.2 3)) fun q139 =>
                            oB (if q139 ≤ 20 then
                                some (0 : Int32)
                              else
                                some (1 : Int32)) fun j140 =>
                            some (.inl ((z82.1 + q89), (z82.2.1 + j140), (z82.2.2 + 1)))
                          else
                            oB (oR q28.2 (some st.1) 4) fun b142 =>
                            oB (nX (fX4_order q28.2 b142 q87 0)) fun q143 =>
                            if q143 = q89 then
                              oB (oR q28.2 (some st.1) 4) fun b146 =>
                              oB (nX (fX4_order q28.2 b146 q87 2)) fun q147 =>
                              if q147 = 0 then
                                oB (oR q28.2 (some st.1) 4) fun b150 =>
                                oB (nX (fX4_order q28.2 b150 q87 1)) fun q151 =>
                                oB (oR q28.2 (some st.1) 4) fun b152 =>
                                oB (nX (fX4_about q28.2 b152 z82.2.2 2)) fun q153 =>
                                if q153 < q151 then
                                  oB (oZ 0) fun v155 =>
                                  some (.inr (.inr (v155, q28.2)))
                                else
                                  oB (oR q28.2 (some st.1) 4) fun b156 =>
                                  oB (nX (fX4_about q28.2 b156 z82.2.2 3)) fun q157 =>
                                  if q157 ≤ 20 then
                                    oB (oR q28.2 (some st.1) 4) fun b159 =>
                                    oB (nX (fX4_about q28.2 b159 z82.2.2 3)) fun q160 =>
                                    oB (if q160 ≤ 20 then
                                        some (0 : Int32)
                                      else
                                        some (1 : Int32)) fun j161 =>
                                    some (.inl ((z82.1 + q89), (z82.2.1 + j161), (z82.2.2 + 1)))
                                  else
                                    oB (oZ 0) fun v163 =>
                                    some (.inr (.inr (v163, q28.2)))
                              else
                                oB (oZ 0) fun v149 =>
                                some (.inr (.inr (v149, q28.2)))
                            else
                              oB (oZ 0) fun v145 =>
                              some (.inr (.inr (v145, q28.2)))
                        else
                          oB (oZ 0) fun v164 =>
                          some (.inr (.inr (v164, q28.2)))
            else
              oB (oZ 0) fun v111 =>
              some (.inr (.inr (v111, q28.2)))
noncomputable def fL_law_L643 (st : DSt) (q28 : Int32 × DSt) (z165 : Int32 × Int32 × Int32) : Option ((Int32 × Int32 × Int32) ⊕ ((Int32 × Int32 × Int32) ⊕ (Int32 × DSt))) :=
  oB (oR q28.2 (some st.1) 4) fun b166 =>
  oB (nX (fX4_count q28.2 b166 3)) fun q167 =>
  if q167 ≤ z165.2.2 then
    some (.inr (.inl (z165.1, z165.2.1, z165.2.2)))
  else
    oB (oR q28.2 (some st.1) 4) fun b169 =>
    oB (nX (fX4_order q28.2 b169 z165.2.2 2)) fun q170 =>
    oB (if q170 = 1 then
        some (1 : Int32)
      else
        some (0 : Int32)) fun j171 =>
    if j171 = 0 then
      oB (oR q28.2 (some st.1) 4) fun b174 =>
      oB (nX (fX4_order q28.2 b174 z165.2.2 3)) fun q175 =>
      if q175 = (-1) then
        oB (oR q28.2 (some st.1) 4) fun b178 =>
        oB (nX (fX4_order q28.2 b178 z165.2.2 4)) fun q179 =>
        if q179 = (-1) then
          oB (if j171 = 0 then
              some (0 : Int32)
            else
              oB (oR q28.2 (some st.1) 4) fun b183 =>
              oB (nX (fX4_order q28.2 b183 z165.2.2 0)) fun q184 =>
              some q184) fun j181 =>
          oB (if j171 = 0 then
              some (0 : Int32)
            else
              some (1 : Int32)) fun j185 =>
          some (.inl ((z165.1 + j181), (z165.2.1 + j185), (z165.2.2 + 1)))
        else
          oB (oZ 0) fun v187 =>
          some (.inr (.inr (v187, q28.2)))
      else
        oB (oZ 0) fun v177 =>
        some (.inr (.inr (v177, q28.2)))
    else
      oB (oR q28.2 (some st.1) 4) fun b188 =>
      oB (nX (fX4_order q28.2 b188 z165.2.2 3)) fun q189 =>
      oB (oR q28.2 (some st.1) 4) fun b190 =>
      oB (nX (fX4_order q28.2 b190 z165.2.2 1)) fun q191 =>
      if q189 < q191 then
        oB (oZ 0) fun v193 =>
        some (.inr (.inr (v193, q28.2)))
      else
        oB (oR q28.2 (some st.1) 4) fun b194 =>
        oB (nX (fX4_order q28.2 b194 z165.2.2 4)) fun q195 =>
        if q195 < 0 then
          oB (oZ 0) fun v197 =>
          some (.inr (.inr (v197, q28.2)))
        else
          oB (oR q28.2 (some st.1) 4) fun b198 =>
          oB (nX (fX4_order q28.2 b198 z165.2.2 4)) fun q199 =>
          if q199 ≤ 20 then
            oB (if j171 = 0 then
                some (0 : Int32)
              else
                oB (oR q28.2 (some st.1) 4) fun b203 =>
                oB (nX (fX4_order q28.2 b203 z165.2.2 0)) fun q204 =>
                some q204) fun j201 =>
            oB (if j171 = 0 then
                some (0 : Int32)
              else
                some (1 : Int32)) fun j205 =>
            some (.inl ((z165.1 + j201), (z165.2.1 + j205), (z165.2.2 + 1)))
          else
            oB (oZ 0) fun v207 =>
            some (.inr (.inr (v207, q28.2)))
noncomputable def fL_law_L22 (xs : Nat → Int32) (L : Nat) (st : DSt) (n5 : Nat) (z7 : DSt × Int32) : Option ((DSt × Int32) ⊕ ((DSt × Int32) ⊕ (Int32 × DSt))) :=
  if 40 ≤ z7.2 then
    some (.inr (.inl (z7.1, z7.2)))
  else
    oB (oM z7.2 16) fun v9 =>
    oB (fL_cell xs L z7.1 v9) fun q10 =>
    oB (oD z7.2 16) fun v11 =>
    oB (oR z7.1 (some st.1) 4) fun b12 =>
    oB (nX (fX4_count z7.1 b12 1)) fun q13 =>
    oB (dlp (fL_law_L64 st z7) (0, 0)) fun b14 =>
    oB (oR z7.1 (some st.1) 4) fun b22 =>
    oB (nX (fX4_count z7.1 b22 5)) fun q23 =>
    oB (oR z7.1 (some st.1) 4) fun b24 =>
    oB (nX (fX4_count z7.1 b24 6)) fun q25 =>
    oB (oR z7.1 (some st.1) 4) fun b26 =>
    oB (nX (fX4_count z7.1 b26 4)) fun q27 =>
    oB (fL_act z7.1 (some st.1) (some n5) ((q10 >>> ((v11 * 3) &&& 31)) + (467 * z7.2))) fun q28 =>
    if q28.1 = 0 then
      oB (oZ 0) fun v247 =>
      some (.inr (.inr (v247, q28.2)))
    else
      oB (oR q28.2 (some st.1) 4) fun b30 =>
      oB (nX (fX4_count q28.2 b30 1)) fun q31 =>
      oB (if q31 ≤ q13 then
          some ((q23 + (10 * q25)) + (10 * b14.1))
        else
          oB (oR q28.2 (some st.1) 4) fun b34 =>
          oB (nX (fX4_told q28.2 b34 q13 0)) fun q35 =>
          some (((q23 + (10 * q25)) + (10 * b14.1)) + q35)) fun j32 =>
      oB (dlp (fL_law_L170 st q28) (0, 0)) fun b36 =>
      match b36 with
      | .inr r9 => some (.inr (.inr r9))
      | .inl yb36 =>
        oB (dlp (fL_law_L375 st q28) (0, 0, 0)) fun b82 =>
        match b82 with
        | .inr r9 => some (.inr (.inr r9))
        | .inl yb82 =>
          oB (dlp (fL_law_L643 st q28) (0, 0, 0)) fun b165 =>
          match b165 with
          | .inr r9 => some (.inr (.inr r9))
          | .inl yb165 =>
            oB (oR q28.2 (some st.1) 4) fun b208 =>
            oB (nX (fX4_count q28.2 b208 5)) fun q209 =>
            if yb36.1 = q209 then
              oB (oR q28.2 (some st.1) 4) fun b212 =>
              oB (nX (fX4_count q28.2 b212 6)) fun q213 =>
              if yb82.1 = q213 then
                oB (oR q28.2 (some st.1) 4) fun b216 =>
                oB (nX (fX4_count q28.2 b216 7)) fun q217 =>
                if yb82.2.1 = q217 then
                  oB (oR q28.2 (some st.1) 4) fun b220 =>
                  oB (nX (fX4_count q28.2 b220 4)) fun q221 =>
                  if yb165.2.1 = q221 then
                    if yb165.2.1 < q27 then
                      oB (oZ 0) fun v225 =>
                      some (.inr (.inr (v225, q28.2)))
                    else
                      if ((yb36.1 + (10 * yb82.1)) + (10 * yb165.1)) = j32 then
                        oB (oR q28.2 (some st.1) 4) fun b227 =>
                        oB (nX (fX4_count q28.2 b227 2)) fun q228 =>
                        if q228 = 0 then
                          some (.inl (q28.2, (z7.2 + 1)))
                        else
                          oB (oR q28.2 (some st.1) 4) fun b230 =>
                          oB (nX (fX4_count q28.2 b230 2)) fun q231 =>
                          oB (fL_below q28.2 (((q10 >>> ((v11 * 3) &&& 31)) + (467 * z7.2)) >>> (1 &&& 31)) q231) fun q232 =>
                          oB (oR q28.2 (some st.1) 4) fun b233 =>
                          oB (nX (fX4_about q28.2 b233 q232 3)) fun q234 =>
                          oB (oR q28.2 (some st.1) 4) fun b235 =>
                          oB (nX (fX4_polish q28.2 b235 q232)) fun q236 =>
                          oB (gR q236.2 (some n5) 6 2) fun v237 =>
                          oB (aR q236.2 v237 6 q232) fun v238 =>
                          oB (sI q236.2 v238 0 3 (jmax 0 (q234 - 15))) fun s239 =>
                          if q236.1 = (jmax 0 (q234 - 15)) then
                            oB (oR s239 (some st.1) 4) fun b242 =>
                            oB (nX (fX4_about s239 b242 q232 3)) fun q243 =>
                            if q243 = q236.1 then
                              some (.inl (s239, (z7.2 + 1)))
                            else
                              oB (oZ 0) fun v245 =>
                              some (.inr (.inr (v245, s239)))
                          else
                            oB (oZ 0) fun v241 =>
                            some (.inr (.inr (v241, s239)))
                      else
                        oB (oZ 0) fun v246 =>
                        some (.inr (.inr (v246, q28.2)))
                  else
                    oB (oZ 0) fun v223 =>
                    some (.inr (.inr (v223, q28.2)))
                else
                  oB (oZ 0) fun v219 =>
                  some (.inr (.inr (v219, q28.2)))
              else
                oB (oZ 0) fun v215 =>
                some (.inr (.inr (v215, q28.2)))
            else
              oB (oZ 0) fun v211 =>
              some (.inr (.inr (v211, q28.2)))
noncomputable def fL_law (xs : Nat → Int32) (L : Nat) (st : DSt)  : Option (Int32 × DSt) :=
  oB (some (nC st (.inr (4, [DR none, DR none, DR none, DI 0, DI 0, DI 0, DI 0, DR none, DR none, DR none, DR none])))) fun s1 =>
  oB (fX4_init s1 st.1) fun q2 =>
  oB (fL_build xs L q2 (some st.1)) fun q3 =>
  oN q3.1 (
    oB (oZ 0) fun v6 =>
    some (v6, q3.2)
  ) fun n5 =>
  oB (dl_it (fL_law_L22 xs L st n5) 41 (q3.2, 0)) fun b7 =>
  match b7 with
  | .inr r9 => some r9
  | .inl yb7 =>
    oB (oR yb7.1 (some n5) 6) fun b248 =>
    oB (fX6_isSame yb7.1 b248 (some st.1)) fun q249 =>
    oB (oZ q249.1) fun v250 =>
    some (v250, q249.2)
