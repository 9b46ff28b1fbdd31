/-! THE WORLD: codes in regions of ten -/
def R10 (e0 e1 e2 e3 e4 e5 e6 e7 e8 e9 : Option DCel) : Nat → Option DCel
  | 0 => e0
  | 1 => e1
  | 2 => e2
  | 3 => e3
  | 4 => e4
  | 5 => e5
  | 6 => e6
  | 7 => e7
  | 8 => e8
  | 9 => e9
  | _ => none
theorem R10_u0 {e0 e1 e2 e3 e4 e5 e6 e7 e8 e9 v : Option DCel} : va_up (R10 e0 e1 e2 e3 e4 e5 e6 e7 e8 e9) 0 v = R10 v e1 e2 e3 e4 e5 e6 e7 e8 e9 := by
  funext d
  by_cases h : d = 0
  · subst h; rw [va_up_s]; rfl
  · rw [va_up_n _ _ h]
    match d, h with
    | 0, h => exact absurd rfl h
    | 1, _ => rfl
    | 2, _ => rfl
    | 3, _ => rfl
    | 4, _ => rfl
    | 5, _ => rfl
    | 6, _ => rfl
    | 7, _ => rfl
    | 8, _ => rfl
    | 9, _ => rfl
    | n + 10, _ => rfl
theorem R10_u1 {e0 e1 e2 e3 e4 e5 e6 e7 e8 e9 v : Option DCel} : va_up (R10 e0 e1 e2 e3 e4 e5 e6 e7 e8 e9) 1 v = R10 e0 v e2 e3 e4 e5 e6 e7 e8 e9 := by
  funext d
  by_cases h : d = 1
  · subst h; rw [va_up_s]; rfl
  · rw [va_up_n _ _ h]
    match d, h with
    | 0, _ => rfl
    | 1, h => exact absurd rfl h
    | 2, _ => rfl
    | 3, _ => rfl
    | 4, _ => rfl
    | 5, _ => rfl
    | 6, _ => rfl
    | 7, _ => rfl
    | 8, _ => rfl
    | 9, _ => rfl
    | n + 10, _ => rfl
theorem R10_u2 {e0 e1 e2 e3 e4 e5 e6 e7 e8 e9 v : Option DCel} : va_up (R10 e0 e1 e2 e3 e4 e5 e6 e7 e8 e9) 2 v = R10 e0 e1 v e3 e4 e5 e6 e7 e8 e9 := by
  funext d
  by_cases h : d = 2
  · subst h; rw [va_up_s]; rfl
  · rw [va_up_n _ _ h]
    match d, h with
    | 0, _ => rfl
    | 1, _ => rfl
    | 2, h => exact absurd rfl h
    | 3, _ => rfl
    | 4, _ => rfl
    | 5, _ => rfl
    | 6, _ => rfl
    | 7, _ => rfl
    | 8, _ => rfl
    | 9, _ => rfl
    | n + 10, _ => rfl
theorem R10_u3 {e0 e1 e2 e3 e4 e5 e6 e7 e8 e9 v : Option DCel} : va_up (R10 e0 e1 e2 e3 e4 e5 e6 e7 e8 e9) 3 v = R10 e0 e1 e2 v e4 e5 e6 e7 e8 e9 := by
  funext d
  by_cases h : d = 3
  · subst h; rw [va_up_s]; rfl
  · rw [va_up_n _ _ h]
    match d, h with
    | 0, _ => rfl
    | 1, _ => rfl
    | 2, _ => rfl
    | 3, h => exact absurd rfl h
    | 4, _ => rfl
    | 5, _ => rfl
    | 6, _ => rfl
    | 7, _ => rfl
    | 8, _ => rfl
    | 9, _ => rfl
    | n + 10, _ => rfl
theorem R10_u4 {e0 e1 e2 e3 e4 e5 e6 e7 e8 e9 v : Option DCel} : va_up (R10 e0 e1 e2 e3 e4 e5 e6 e7 e8 e9) 4 v = R10 e0 e1 e2 e3 v e5 e6 e7 e8 e9 := by
  funext d
  by_cases h : d = 4
  · subst h; rw [va_up_s]; rfl
  · rw [va_up_n _ _ h]
    match d, h with
    | 0, _ => rfl
    | 1, _ => rfl
    | 2, _ => rfl
    | 3, _ => rfl
    | 4, h => exact absurd rfl h
    | 5, _ => rfl
    | 6, _ => rfl
    | 7, _ => rfl
    | 8, _ => rfl
    | 9, _ => rfl
    | n + 10, _ => rfl
theorem R10_u5 {e0 e1 e2 e3 e4 e5 e6 e7 e8 e9 v : Option DCel} : va_up (R10 e0 e1 e2 e3 e4 e5 e6 e7 e8 e9) 5 v = R10 e0 e1 e2 e3 e4 v e6 e7 e8 e9 := by
  funext d
  by_cases h : d = 5
  · subst h; rw [va_up_s]; rfl
  · rw [va_up_n _ _ h]
    match d, h with
    | 0, _ => rfl
    | 1, _ => rfl
    | 2, _ => rfl
    | 3, _ => rfl
    | 4, _ => rfl
    | 5, h => exact absurd rfl h
    | 6, _ => rfl
    | 7, _ => rfl
    | 8, _ => rfl
    | 9, _ => rfl
    | n + 10, _ => rfl
theorem R10_u6 {e0 e1 e2 e3 e4 e5 e6 e7 e8 e9 v : Option DCel} : va_up (R10 e0 e1 e2 e3 e4 e5 e6 e7 e8 e9) 6 v = R10 e0 e1 e2 e3 e4 e5 v e7 e8 e9 := by
  funext d
  by_cases h : d = 6
  · subst h; rw [va_up_s]; rfl
  · rw [va_up_n _ _ h]
    match d, h with
    | 0, _ => rfl
    | 1, _ => rfl
    | 2, _ => rfl
    | 3, _ => rfl
    | 4, _ => rfl
    | 5, _ => rfl
    | 6, h => exact absurd rfl h
    | 7, _ => rfl
    | 8, _ => rfl
    | 9, _ => rfl
    | n + 10, _ => rfl
theorem R10_u7 {e0 e1 e2 e3 e4 e5 e6 e7 e8 e9 v : Option DCel} : va_up (R10 e0 e1 e2 e3 e4 e5 e6 e7 e8 e9) 7 v = R10 e0 e1 e2 e3 e4 e5 e6 v e8 e9 := by
  funext d
  by_cases h : d = 7
  · subst h; rw [va_up_s]; rfl
  · rw [va_up_n _ _ h]
    match d, h with
    | 0, _ => rfl
    | 1, _ => rfl
    | 2, _ => rfl
    | 3, _ => rfl
    | 4, _ => rfl
    | 5, _ => rfl
    | 6, _ => rfl
    | 7, h => exact absurd rfl h
    | 8, _ => rfl
    | 9, _ => rfl
    | n + 10, _ => rfl
theorem R10_u8 {e0 e1 e2 e3 e4 e5 e6 e7 e8 e9 v : Option DCel} : va_up (R10 e0 e1 e2 e3 e4 e5 e6 e7 e8 e9) 8 v = R10 e0 e1 e2 e3 e4 e5 e6 e7 v e9 := by
  funext d
  by_cases h : d = 8
  · subst h; rw [va_up_s]; rfl
  · rw [va_up_n _ _ h]
    match d, h with
    | 0, _ => rfl
    | 1, _ => rfl
    | 2, _ => rfl
    | 3, _ => rfl
    | 4, _ => rfl
    | 5, _ => rfl
    | 6, _ => rfl
    | 7, _ => rfl
    | 8, h => exact absurd rfl h
    | 9, _ => rfl
    | n + 10, _ => rfl
theorem R10_u9 {e0 e1 e2 e3 e4 e5 e6 e7 e8 e9 v : Option DCel} : va_up (R10 e0 e1 e2 e3 e4 e5 e6 e7 e8 e9) 9 v = R10 e0 e1 e2 e3 e4 e5 e6 e7 e8 v := by
  funext d
  by_cases h : d = 9
  · subst h; rw [va_up_s]; rfl
  · rw [va_up_n _ _ h]
    match d, h with
    | 0, _ => rfl
    | 1, _ => rfl
    | 2, _ => rfl
    | 3, _ => rfl
    | 4, _ => rfl
    | 5, _ => rfl
    | 6, _ => rfl
    | 7, _ => rfl
    | 8, _ => rfl
    | 9, h => exact absurd rfl h
    | n + 10, _ => rfl
def reg (r0 q r2 r3 r4 r5 r6 : Nat → Option DCel) (d : Nat) : Option DCel :=
  if d < 10 then r0 d else if d < 20 then q (d - 10) else if d < 30 then r2 (d - 20) else if d < 40 then r3 (d - 30) else if d < 50 then r4 (d - 40) else if d < 60 then r5 (d - 50) else r6 (d - 60)
section REG
variable {r0 q r2 r3 r4 r5 r6 : Nat → Option DCel} {i : Nat} {v : Option DCel}
theorem reg_0 (h : i < 10) : reg r0 q r2 r3 r4 r5 r6 i = r0 i := by
  unfold reg
  rw [if_pos (by omega)]
theorem reg_u0 (h : i < 10) : va_up (reg r0 q r2 r3 r4 r5 r6) i v = reg (va_up r0 i v) q r2 r3 r4 r5 r6 := by
  funext d
  by_cases hd : d = i
  · subst hd; rw [va_up_s, reg_0 h, va_up_s]
  · rw [va_up_n _ _ hd]
    unfold reg
    exact ite_congr rfl (fun _ => (va_up_n _ _ (by omega)).symm) fun _ => rfl
theorem reg_1 (h : i < 10) : reg r0 q r2 r3 r4 r5 r6 (10 + i) = q i := by
  unfold reg
  rw [if_neg (by omega), if_pos (by omega), Nat.add_sub_cancel_left]
theorem reg_u1 (h : i < 10) : va_up (reg r0 q r2 r3 r4 r5 r6) (10 + i) v = reg r0 (va_up q i v) r2 r3 r4 r5 r6 := by
  funext d
  by_cases hd : d = (10 + i)
  · subst hd; rw [va_up_s, reg_1 h, va_up_s]
  · rw [va_up_n _ _ hd]
    unfold reg
    exact ite_congr rfl (fun _ => rfl) fun _ => ite_congr rfl (fun _ => (va_up_n _ _ (by omega)).symm) fun _ => rfl
theorem reg_2 (h : i < 10) : reg r0 q r2 r3 r4 r5 r6 (20 + i) = r2 i := by
  unfold reg
  rw [if_neg (by omega), if_neg (by omega), if_pos (by omega), Nat.add_sub_cancel_left]
theorem reg_u2 (h : i < 10) : va_up (reg r0 q r2 r3 r4 r5 r6) (20 + i) v = reg r0 q (va_up r2 i v) r3 r4 r5 r6 := by
  funext d
  by_cases hd : d = (20 + i)
  · subst hd; rw [va_up_s, reg_2 h, va_up_s]
  · rw [va_up_n _ _ hd]
    unfold reg
    exact ite_congr rfl (fun _ => rfl) fun _ => ite_congr rfl (fun _ => rfl) fun _ => ite_congr rfl (fun _ => (va_up_n _ _ (by omega)).symm) fun _ => rfl
theorem reg_3 (h : i < 10) : reg r0 q r2 r3 r4 r5 r6 (30 + i) = r3 i := by
  unfold reg
  rw [if_neg (by omega), if_neg (by omega), if_neg (by omega), if_pos (by omega), Nat.add_sub_cancel_left]
theorem reg_u3 (h : i < 10) : va_up (reg r0 q r2 r3 r4 r5 r6) (30 + i) v = reg r0 q r2 (va_up r3 i v) r4 r5 r6 := by
  funext d
  by_cases hd : d = (30 + i)
  · subst hd; rw [va_up_s, reg_3 h, va_up_s]
  · rw [va_up_n _ _ hd]
    unfold reg
    exact ite_congr rfl (fun _ => rfl) fun _ => ite_congr rfl (fun _ => rfl) fun _ => ite_congr rfl (fun _ => rfl) fun _ => ite_congr rfl (fun _ => (va_up_n _ _ (by omega)).symm) fun _ => rfl
theorem reg_4 (h : i < 10) : reg r0 q r2 r3 r4 r5 r6 (40 + i) = r4 i := by
  unfold reg
  rw [if_neg (by omega), if_neg (by omega), if_neg (by omega), if_neg (by omega), if_pos (by omega), Nat.add_sub_cancel_left]
theorem reg_u4 (h : i < 10) : va_up (reg r0 q r2 r3 r4 r5 r6) (40 + i) v = reg r0 q r2 r3 (va_up r4 i v) r5 r6 := by
  funext d
  by_cases hd : d = (40 + i)
  · subst hd; rw [va_up_s, reg_4 h, va_up_s]
  · rw [va_up_n _ _ hd]
    unfold reg
    exact ite_congr rfl (fun _ => rfl) fun _ => ite_congr rfl (fun _ => rfl) fun _ => ite_congr rfl (fun _ => rfl) fun _ => ite_congr rfl (fun _ => rfl) fun _ => ite_congr rfl (fun _ => (va_up_n _ _ (by omega)).symm) fun _ => rfl
theorem reg_5 (h : i < 10) : reg r0 q r2 r3 r4 r5 r6 (50 + i) = r5 i := by
  unfold reg
  rw [if_neg (by omega), if_neg (by omega), if_neg (by omega), if_neg (by omega), if_neg (by omega), if_pos (by omega), Nat.add_sub_cancel_left]
theorem reg_u5 (h : i < 10) : va_up (reg r0 q r2 r3 r4 r5 r6) (50 + i) v = reg r0 q r2 r3 r4 (va_up r5 i v) r6 := by
  funext d
  by_cases hd : d = (50 + i)
  · subst hd; rw [va_up_s, reg_5 h, va_up_s]
  · rw [va_up_n _ _ hd]
    unfold reg
    exact ite_congr rfl (fun _ => rfl) fun _ => ite_congr rfl (fun _ => rfl) fun _ => ite_congr rfl (fun _ => rfl) fun _ => ite_congr rfl (fun _ => rfl) fun _ => ite_congr rfl (fun _ => rfl) fun _ => ite_congr rfl (fun _ => (va_up_n _ _ (by omega)).symm) fun _ => rfl
theorem reg_6 : reg r0 q r2 r3 r4 r5 r6 (60 + i) = r6 i := by
  unfold reg
  rw [if_neg (by omega), if_neg (by omega), if_neg (by omega), if_neg (by omega), if_neg (by omega), if_neg (by omega), Nat.add_sub_cancel_left]
theorem reg_u6 : va_up (reg r0 q r2 r3 r4 r5 r6) (60 + i) v = reg r0 q r2 r3 r4 r5 (va_up r6 i v) := by
  funext d
  by_cases hd : d = (60 + i)
  · subst hd; rw [va_up_s, reg_6, va_up_s]
  · rw [va_up_n _ _ hd]
    unfold reg
    exact ite_congr rfl (fun _ => rfl) fun _ => ite_congr rfl (fun _ => rfl) fun _ => ite_congr rfl (fun _ => rfl) fun _ => ite_congr rfl (fun _ => rfl) fun _ => ite_congr rfl (fun _ => rfl) fun _ => ite_congr rfl (fun _ => rfl) fun _ => (va_up_n _ _ (by omega)).symm
end REG
abbrev O4 (ad : Nat → Nat) (day : Int32) (nb ns nx : Nat) : DCel := .inr (4, [DR (some (ad 1)), DR (some (ad 2)), DR (some (ad 3)), DI (nI nb), DI (nI ns), DI (nI nx), DI day, DR (some (ad 4)), DR (some (ad 5)), DR (some (ad 8)), DR (some (ad 9))])
abbrev ARO (kd n : Nat) (g : Nat → Option Nat) : DCel := .inl (kd, (n, .inr (.inr (.inr (.inr g)))))
def nR (ad : Nat → Nat) (b n : Nat) : Nat → Option Nat := fun i => if i < n then some (ad (b + i)) else none
abbrev OB (ad : Nat → Nat) (g w : Int32) (i : Nat) : DCel := .inr (0, [DR (some (ad (30 + i))), DI g, DI w])
abbrev OX (x : Nat → Int32) : DCel := .inr (1, [DI (x 0), DI (x 1), DI (x 2), DI (x 3), DI (x 4)])
abbrev OS (x : Nat → Int32) : DCel := .inr (3, [DI (x 2), DI (x 0), DI (x 1), DI (x 3), DI (x 4)])
abbrev OC (a : Nat) : DCel := .inr (2, [DR (some a)])
def T2 (ad : Nat → Nat) (nb : Nat) (gB wB : Nat → Int32) (i : Nat) : Option DCel := if i < nb then some (OB ad (gB i) (wB i) i) else none
def T3 (ad : Nat → Nat) (nb : Nat) (i : Nat) : Option DCel := if i < nb then some (OC (ad (40 + i))) else none
def T4 (nb : Nat) (cB : Nat → Nat → Int32) (i : Nat) : Option DCel := if i < nb then some (ARR 6 (cB i)) else none
def T5 (nx : Nat) (bX : Nat → Nat → Int32) (i : Nat) : Option DCel := if i < nx then some (OX (bX i)) else none
def T6 (ns : Nat) (sS : Nat → Nat → Int32) (Q : Nat → Option DCel) (i : Nat) : Option DCel := if i < ns then some (OS (sS i)) else if i < 40 then none else Q (i - 30)
def T0 (ad : Nat → Nat) (day : Int32) (nb ns nx : Nat) (f6 f7 g8 g9 : Nat → Int32) : Nat → Option DCel := R10 (some (O4 ad day nb ns nx)) (some (ARO 2 5 (nR ad 20 nb))) (some (ARO 3 8 (nR ad 60 ns))) (some (ARO 4 6 (nR ad 50 nx))) (some (OC (ad 6))) (some (OC (ad 7))) (some (ARR 6 f6)) (some (ARR 6 f7)) (some (ARR 6 g8)) (some (.inl (1, (8, .inl g9))))
def CT (ad : Nat → Nat) (day : Int32) (nb ns nx : Nat) (gB wB : Nat → Int32) (cB sS bX : Nat → Nat → Int32) (f6 f7 g8 g9 : Nat → Int32) (Q : Nat → Option DCel) : Nat → Option DCel := reg (T0 ad day nb ns nx f6 f7 g8 g9) Q (T2 ad nb gB wB) (T3 ad nb) (T4 nb cB) (T5 nx bX) (T6 ns sS Q)
abbrev OM (ad : Nat → Nat) (thr day : Int32) (nb ns nx : Nat) : DCel := .inr (5, [DI thr, DI day, DI (nI nb), DI (nI ns), DI (nI nx), DR (some (ad 12)), DR (some (ad 13)), DR (some (ad 14)), DR (some (ad 15)), DR (some (ad 16)), DR (some (ad 17)), DR (some (ad 18))])
/-! THE CLASS'S WORLD: reading -/
section CREAD
variable {st : DSt} {ad : Nat → Nat} {day : Int32} {nb ns nx : Nat} {gB wB : Nat → Int32} {cB sS bX : Nat → Nat → Int32} {f6 f7 g8 g9 : Nat → Int32} {Q : Nat → Option DCel} {i : Nat}
theorem c_b (hi : i < nb) (hb : nb ≤ 5) : (CT ad day nb ns nx gB wB cB sS bX f6 f7 g8 g9 Q) (20 + i) = some (OB ad (gB i) (wB i) i) := (reg_2 (by omega)).trans (if_pos hi)
theorem c_c (hi : i < nb) (hb : nb ≤ 5) : (CT ad day nb ns nx gB wB cB sS bX f6 f7 g8 g9 Q) (30 + i) = some (OC (ad (40 + i))) := (reg_3 (by omega)).trans (if_pos hi)
theorem c_a (hi : i < nb) (hb : nb ≤ 5) : (CT ad day nb ns nx gB wB cB sS bX f6 f7 g8 g9 Q) (40 + i) = some (ARR 6 (cB i)) := (reg_4 (by omega)).trans (if_pos hi)
theorem c_x (hi : i < nx) (hx : nx ≤ 6) : (CT ad day nb ns nx gB wB cB sS bX f6 f7 g8 g9 Q) (50 + i) = some (OX (bX i)) := (reg_5 (by omega)).trans (if_pos hi)
theorem c_s (hi : i < ns) : (CT ad day nb ns nx gB wB cB sS bX f6 f7 g8 g9 Q) (60 + i) = some (OS (sS i)) := reg_6.trans (if_pos hi)
theorem c_s0 (hi : ns ≤ i) (h40 : i < 40) : (CT ad day nb ns nx gB wB cB sS bX f6 f7 g8 g9 Q) (60 + i) = none := reg_6.trans ((if_neg (by omega)).trans (if_pos h40))
theorem c_x0 (hi : nx ≤ i) (h : i < 10) : (CT ad day nb ns nx gB wB cB sS bX f6 f7 g8 g9 Q) (50 + i) = none := (reg_5 h).trans (if_neg (by omega))
theorem q_oR (h : NH st ad (CT ad day nb ns nx gB wB cB sS bX f6 f7 g8 g9 Q)) : oR st (some (ad 0)) 4 = some (ad 0) := l_oR (c := 0) h rfl
theorem q_rb (h : NH st ad (CT ad day nb ns nx gB wB cB sS bX f6 f7 g8 g9 Q)) : gR st (some (ad 0)) 4 0 = some (some (ad 1)) := l_gR (c := 0) h rfl 0 rfl
theorem q_rs (h : NH st ad (CT ad day nb ns nx gB wB cB sS bX f6 f7 g8 g9 Q)) : gR st (some (ad 0)) 4 1 = some (some (ad 2)) := l_gR (c := 0) h rfl 1 rfl
theorem q_rx (h : NH st ad (CT ad day nb ns nx gB wB cB sS bX f6 f7 g8 g9 Q)) : gR st (some (ad 0)) 4 2 = some (some (ad 3)) := l_gR (c := 0) h rfl 2 rfl
theorem q_r4 (h : NH st ad (CT ad day nb ns nx gB wB cB sS bX f6 f7 g8 g9 Q)) : gR st (some (ad 0)) 4 7 = some (some (ad 4)) := l_gR (c := 0) h rfl 7 rfl
theorem q_r5 (h : NH st ad (CT ad day nb ns nx gB wB cB sS bX f6 f7 g8 g9 Q)) : gR st (some (ad 0)) 4 8 = some (some (ad 5)) := l_gR (c := 0) h rfl 8 rfl
theorem q_r8 (h : NH st ad (CT ad day nb ns nx gB wB cB sS bX f6 f7 g8 g9 Q)) : gR st (some (ad 0)) 4 9 = some (some (ad 8)) := l_gR (c := 0) h rfl 9 rfl
theorem q_r9 (h : NH st ad (CT ad day nb ns nx gB wB cB sS bX f6 f7 g8 g9 Q)) : gR st (some (ad 0)) 4 10 = some (some (ad 9)) := l_gR (c := 0) h rfl 10 rfl
theorem q_nb (h : NH st ad (CT ad day nb ns nx gB wB cB sS bX f6 f7 g8 g9 Q)) : gI st (some (ad 0)) 4 3 = some (nI nb) := l_gI (c := 0) h rfl 3 rfl
theorem q_ns (h : NH st ad (CT ad day nb ns nx gB wB cB sS bX f6 f7 g8 g9 Q)) : gI st (some (ad 0)) 4 4 = some (nI ns) := l_gI (c := 0) h rfl 4 rfl
theorem q_nx (h : NH st ad (CT ad day nb ns nx gB wB cB sS bX f6 f7 g8 g9 Q)) : gI st (some (ad 0)) 4 5 = some (nI nx) := l_gI (c := 0) h rfl 5 rfl
theorem q_day (h : NH st ad (CT ad day nb ns nx gB wB cB sS bX f6 f7 g8 g9 Q)) : gI st (some (ad 0)) 4 6 = some day := l_gI (c := 0) h rfl 6 rfl
theorem q_c4 : (CT ad day nb ns nx gB wB cB sS bX f6 f7 g8 g9 Q) 4 = some (OC (ad 6)) := rfl
theorem q_c5 : (CT ad day nb ns nx gB wB cB sS bX f6 f7 g8 g9 Q) 5 = some (OC (ad 7)) := rfl
theorem q_aRb (h : NH st ad (CT ad day nb ns nx gB wB cB sS bX f6 f7 g8 g9 Q)) {p : Int32} (hp : p = nI i) (hi : i < 5) : aR st (some (ad 1)) 2 p = some (if i < nb then some (ad (20 + i)) else none) := l_aR (c := 1) (n := 5) (g := nR ad 20 nb) h rfl i hp hi (by omega)
theorem q_aRs (h : NH st ad (CT ad day nb ns nx gB wB cB sS bX f6 f7 g8 g9 Q)) {p : Int32} (hp : p = nI i) (hi : i < 8) : aR st (some (ad 2)) 3 p = some (if i < ns then some (ad (60 + i)) else none) := l_aR (c := 2) (n := 8) (g := nR ad 60 ns) h rfl i hp hi (by omega)
theorem q_aRx (h : NH st ad (CT ad day nb ns nx gB wB cB sS bX f6 f7 g8 g9 Q)) {p : Int32} (hp : p = nI i) (hi : i < 6) : aR st (some (ad 3)) 4 p = some (if i < nx then some (ad (50 + i)) else none) := l_aR (c := 3) (n := 6) (g := nR ad 50 nx) h rfl i hp hi (by omega)
theorem q_aNb (h : NH st ad (CT ad day nb ns nx gB wB cB sS bX f6 f7 g8 g9 Q)) : aN st (some (ad 1)) 2 = some 5 := l_aN (c := 1) h rfl
theorem q_aNs (h : NH st ad (CT ad day nb ns nx gB wB cB sS bX f6 f7 g8 g9 Q)) : aN st (some (ad 2)) 3 = some 8 := l_aN (c := 2) h rfl
theorem q_aNx (h : NH st ad (CT ad day nb ns nx gB wB cB sS bX f6 f7 g8 g9 Q)) : aN st (some (ad 3)) 4 = some 6 := l_aN (c := 3) h rfl
theorem q_a8 (h : NH st ad (CT ad day nb ns nx gB wB cB sS bX f6 f7 g8 g9 Q)) {p : Int32} (hp : p = nI i) (hi : i < 6) : aI st (some (ad 8)) 0 p = some (g8 i) := l_aI (c := 8) (n := 6) (f := g8) h rfl i hp hi (by omega)
theorem q_a9 (h : NH st ad (CT ad day nb ns nx gB wB cB sS bX f6 f7 g8 g9 Q)) {p : Int32} (hp : p = nI i) (hi : i < 8) : aI st (some (ad 9)) 1 p = some (g9 i) := l_aI (c := 9) (n := 8) (f := g9) h rfl i hp hi (by omega)
variable (hb : nb ≤ 5) (hi : i < nb)
theorem q_bo (h : NH st ad (CT ad day nb ns nx gB wB cB sS bX f6 f7 g8 g9 Q)) (hi : i < nb) (hb : nb ≤ 5) : oR st (some (ad (20 + i))) 0 = some (ad (20 + i)) := l_oR h (c_b hi hb)
theorem q_bc (h : NH st ad (CT ad day nb ns nx gB wB cB sS bX f6 f7 g8 g9 Q)) (hi : i < nb) (hb : nb ≤ 5) : gR st (some (ad (20 + i))) 0 0 = some (some (ad (30 + i))) := l_gR h (c_b hi hb) 0 rfl
theorem q_bg (h : NH st ad (CT ad day nb ns nx gB wB cB sS bX f6 f7 g8 g9 Q)) (hi : i < nb) (hb : nb ≤ 5) : gI st (some (ad (20 + i))) 0 1 = some (gB i) := l_gI h (c_b hi hb) 1 rfl
theorem q_bw (h : NH st ad (CT ad day nb ns nx gB wB cB sS bX f6 f7 g8 g9 Q)) (hi : i < nb) (hb : nb ≤ 5) : gI st (some (ad (20 + i))) 0 2 = some (wB i) := l_gI h (c_b hi hb) 2 rfl
theorem q_co (h : NH st ad (CT ad day nb ns nx gB wB cB sS bX f6 f7 g8 g9 Q)) (hi : i < nb) (hb : nb ≤ 5) : oR st (some (ad (30 + i))) 2 = some (ad (30 + i)) := l_oR h (c_c hi hb)
theorem q_cr (h : NH st ad (CT ad day nb ns nx gB wB cB sS bX f6 f7 g8 g9 Q)) (hi : i < nb) (hb : nb ≤ 5) : gR st (some (ad (30 + i))) 2 0 = some (some (ad (40 + i))) := l_gR h (c_c hi hb) 0 rfl
theorem q_ca (h : NH st ad (CT ad day nb ns nx gB wB cB sS bX f6 f7 g8 g9 Q)) (hi : i < nb) (hb : nb ≤ 5) {p : Int32} {k : Nat} (hp : p = nI k) (hk : k < 6) : aI st (some (ad (40 + i))) 0 p = some (cB i k) := l_aI h (c_a hi hb) k hp hk (by omega)
theorem q_so (h : NH st ad (CT ad day nb ns nx gB wB cB sS bX f6 f7 g8 g9 Q)) (hi : i < ns) : oR st (some (ad (60 + i))) 3 = some (ad (60 + i)) := l_oR h (c_s hi)
theorem q_s0 (h : NH st ad (CT ad day nb ns nx gB wB cB sS bX f6 f7 g8 g9 Q)) (hi : i < ns) : gI st (some (ad (60 + i))) 3 0 = some (sS i 2) := l_gI h (c_s hi) 0 rfl
theorem q_s1 (h : NH st ad (CT ad day nb ns nx gB wB cB sS bX f6 f7 g8 g9 Q)) (hi : i < ns) : gI st (some (ad (60 + i))) 3 1 = some (sS i 0) := l_gI h (c_s hi) 1 rfl
theorem q_s2 (h : NH st ad (CT ad day nb ns nx gB wB cB sS bX f6 f7 g8 g9 Q)) (hi : i < ns) : gI st (some (ad (60 + i))) 3 2 = some (sS i 1) := l_gI h (c_s hi) 2 rfl
theorem q_s3 (h : NH st ad (CT ad day nb ns nx gB wB cB sS bX f6 f7 g8 g9 Q)) (hi : i < ns) : gI st (some (ad (60 + i))) 3 3 = some (sS i 3) := l_gI h (c_s hi) 3 rfl
theorem q_s4 (h : NH st ad (CT ad day nb ns nx gB wB cB sS bX f6 f7 g8 g9 Q)) (hi : i < ns) : gI st (some (ad (60 + i))) 3 4 = some (sS i 4) := l_gI h (c_s hi) 4 rfl
theorem q_sq (h : NH st ad (CT ad day nb ns nx gB wB cB sS bX f6 f7 g8 g9 Q)) (hi : i < ns) : fX3_squares st (ad (60 + i)) = some (sS i 0 * sS i 1) := by
  unfold fX3_squares
  rw [ob_of _ (q_s1 h hi), ob_of _ (q_s2 h hi)]
theorem q_sg (h : NH st ad (CT ad day nb ns nx gB wB cB sS bX f6 f7 g8 g9 Q)) (hi : i < ns) : fX3_grams st (ad (60 + i)) = some (sS i 0 * sS i 1 * 10) := by
  unfold fX3_grams
  rw [ob_of _ (q_so h hi), ob_of _ (q_sq h hi)]
theorem q_xo (h : NH st ad (CT ad day nb ns nx gB wB cB sS bX f6 f7 g8 g9 Q)) (hi : i < nx) (hx : nx ≤ 6) : oR st (some (ad (50 + i))) 1 = some (ad (50 + i)) := l_oR h (c_x hi hx)
theorem q_x0 (h : NH st ad (CT ad day nb ns nx gB wB cB sS bX f6 f7 g8 g9 Q)) (hi : i < nx) (hx : nx ≤ 6) : gI st (some (ad (50 + i))) 1 0 = some (bX i 0) := l_gI h (c_x hi hx) 0 rfl
theorem q_x1 (h : NH st ad (CT ad day nb ns nx gB wB cB sS bX f6 f7 g8 g9 Q)) (hi : i < nx) (hx : nx ≤ 6) : gI st (some (ad (50 + i))) 1 1 = some (bX i 1) := l_gI h (c_x hi hx) 1 rfl
theorem q_x2 (h : NH st ad (CT ad day nb ns nx gB wB cB sS bX f6 f7 g8 g9 Q)) (hi : i < nx) (hx : nx ≤ 6) : gI st (some (ad (50 + i))) 1 2 = some (bX i 2) := l_gI h (c_x hi hx) 2 rfl
theorem q_x3 (h : NH st ad (CT ad day nb ns nx gB wB cB sS bX f6 f7 g8 g9 Q)) (hi : i < nx) (hx : nx ≤ 6) : gI st (some (ad (50 + i))) 1 3 = some (bX i 3) := l_gI h (c_x hi hx) 3 rfl
theorem q_x4 (h : NH st ad (CT ad day nb ns nx gB wB cB sS bX f6 f7 g8 g9 Q)) (hi : i < nx) (hx : nx ≤ 6) : gI st (some (ad (50 + i))) 1 4 = some (bX i 4) := l_gI h (c_x hi hx) 4 rfl
end CREAD
/-! the class's world: writing -/
section CWRITE
variable {st : DSt} {ad : Nat → Nat} {day : Int32} {nb ns nx : Nat} {gB wB : Nat → Int32} {cB sS bX : Nat → Nat → Int32} {f6 f7 g8 g9 : Nat → Int32} {Q : Nat → Option DCel} {i : Nat}
theorem up2_eq {α : Type} (f : Nat → Option α) (g : Nat → Option α) (i : Nat) (e : α) (h1 : g i = some e) (h2 : ∀ j, j ≠ i → g j = f j) : va_up f i (some e) = g := by
  funext j
  by_cases h : j = i
  · rw [h, va_up_s, h1]
  · rw [va_up_n _ _ h, h2 j h]
theorem w_day (h : NH st ad (CT ad day nb ns nx gB wB cB sS bX f6 f7 g8 g9 Q)) (v : Int32) : ∃ st', pV st (some (ad 0)) 4 6 (DI v) = some st' ∧ NH st' ad (CT ad v nb ns nx gB wB cB sS bX f6 f7 g8 g9 Q) := ⟨_, l_pV (c := 0) h rfl 6 (DI v) (show (6 : Nat) < 11 by decide), by
  have q := h.set (c := 0) rfl (O4 ad v nb ns nx)
  unfold CT at q
  rw [reg_u0 (by omega)] at q
  unfold T0 at q
  rw [R10_u0] at q
  exact q⟩
theorem w_g (h : NH st ad (CT ad day nb ns nx gB wB cB sS bX f6 f7 g8 g9 Q)) (hi : i < nb) (hb : nb ≤ 5) (v : Int32) : ∃ st', pV st (some (ad (20 + i))) 0 1 (DI v) = some st' ∧ NH st' ad (CT ad day nb ns nx (upd gB i v) wB cB sS bX f6 f7 g8 g9 Q) := ⟨_, l_pV h (c_b hi hb) 1 (DI v) (show (1 : Nat) < 3 by decide), by
  have q := h.set (c_b hi hb) (OB ad v (wB i) i)
  unfold CT at q
  rw [reg_u2 (by omega), up2_eq _ (T2 ad nb (upd gB i v) wB) i _ (by unfold T2; rw [if_pos hi, upd_s]) (fun j hj => by unfold T2; rw [upd_n _ _ hj])] at q
  exact q⟩
theorem w_w (h : NH st ad (CT ad day nb ns nx gB wB cB sS bX f6 f7 g8 g9 Q)) (hi : i < nb) (hb : nb ≤ 5) (v : Int32) : ∃ st', pV st (some (ad (20 + i))) 0 2 (DI v) = some st' ∧ NH st' ad (CT ad day nb ns nx gB (upd wB i v) cB sS bX f6 f7 g8 g9 Q) := ⟨_, l_pV h (c_b hi hb) 2 (DI v) (show (2 : Nat) < 3 by decide), by
  have q := h.set (c_b hi hb) (OB ad (gB i) v i)
  unfold CT at q
  rw [reg_u2 (by omega), up2_eq _ (T2 ad nb gB (upd wB i v)) i _ (by unfold T2; rw [if_pos hi, upd_s]) (fun j hj => by unfold T2; rw [upd_n _ _ hj])] at q
  exact q⟩
theorem w_c (f : Nat → Int32) (h : NH st ad (va_up (CT ad day nb ns nx gB wB cB sS bX f6 f7 g8 g9 Q) (40 + i) (some (ARR 6 f)))) (hi : i < nb) (hb : nb ≤ 5) : NH st ad (CT ad day nb ns nx gB wB (va_up cB i f) sS bX f6 f7 g8 g9 Q) := by
  have q := h
  unfold CT at q
  rw [reg_u4 (by omega), up2_eq _ (T4 nb (va_up cB i f)) i _ (by unfold T4; rw [if_pos hi, va_up_s]) (fun j hj => by unfold T4; rw [va_up_n _ _ hj])] at q
  exact q
theorem w_6 (f : Nat → Int32) (h : NH st ad (va_up (CT ad day nb ns nx gB wB cB sS bX f6 f7 g8 g9 Q) 6 (some (ARR 6 f)))) : NH st ad (CT ad day nb ns nx gB wB cB sS bX f f7 g8 g9 Q) := by
  have q := h
  unfold CT at q
  rw [reg_u0 (by omega)] at q
  unfold T0 at q
  rw [R10_u6] at q
  exact q
theorem w_7 (f : Nat → Int32) (h : NH st ad (va_up (CT ad day nb ns nx gB wB cB sS bX f6 f7 g8 g9 Q) 7 (some (ARR 6 f)))) : NH st ad (CT ad day nb ns nx gB wB cB sS bX f6 f g8 g9 Q) := by
  have q := h
  unfold CT at q
  rw [reg_u0 (by omega)] at q
  unfold T0 at q
  rw [R10_u7] at q
  exact q
theorem w_8 (h : NH st ad (CT ad day nb ns nx gB wB cB sS bX f6 f7 g8 g9 Q)) {p : Int32} (hp : p = nI i) (hi : i < 6) (v : Int32) : ∃ st', sI st (some (ad 8)) 0 p v = some st' ∧ NH st' ad (CT ad day nb ns nx gB wB cB sS bX f6 f7 (upd g8 i v) g9 Q) := ⟨_, l_sI (c := 8) (n := 6) (f := g8) h rfl i hp hi (by omega) v, by
  have q := h.set (c := 8) rfl (ARR 6 (upd g8 i v))
  unfold CT at q
  rw [reg_u0 (by omega)] at q
  unfold T0 at q
  rw [R10_u8] at q
  exact q⟩
theorem w_9 (h : NH st ad (CT ad day nb ns nx gB wB cB sS bX f6 f7 g8 g9 Q)) {p : Int32} (hp : p = nI i) (hi : i < 8) (v : Int32) : ∃ st', sI st (some (ad 9)) 1 p v = some st' ∧ NH st' ad (CT ad day nb ns nx gB wB cB sS bX f6 f7 g8 (upd g9 i v) Q) := ⟨_, l_sI (c := 9) (n := 8) (f := g9) h rfl i hp hi (by omega) v, by
  have q := h.set (c := 9) rfl (.inl (1, (8, .inl (upd g9 i v))))
  unfold CT at q
  rw [reg_u0 (by omega)] at q
  unfold T0 at q
  rw [R10_u9] at q
  exact q⟩
theorem w_se (h : NH st ad (CT ad day nb ns nx gB wB cB sS bX f6 f7 g8 g9 Q)) (hi : i < ns) (x : Nat → Int32) : NH (setN st (ad (60 + i)) (OS x)) ad (CT ad day nb ns nx gB wB cB (va_up sS i x) bX f6 f7 g8 g9 Q) := by
  have q := h.set (c_s hi) (OS x)
  unfold CT at q
  rw [reg_u6, up2_eq _ (T6 ns (va_up sS i x) Q) i _ (by unfold T6; rw [if_pos hi, va_up_s]) (fun j hj => by unfold T6; rw [va_up_n _ _ hj])] at q
  exact q
theorem w_s1 (h : NH st ad (CT ad day nb ns nx gB wB cB sS bX f6 f7 g8 g9 Q)) (hi : i < ns) (v : Int32) : ∃ st', pV st (some (ad (60 + i))) 3 1 (DI v) = some st' ∧ NH st' ad (CT ad day nb ns nx gB wB cB (va_up sS i (upd (sS i) 0 v)) bX f6 f7 g8 g9 Q) := ⟨_, l_pV h (c_s hi) 1 (DI v) (show (1 : Nat) < 5 by decide), w_se h hi (upd (sS i) 0 v)⟩
theorem w_s2 (h : NH st ad (CT ad day nb ns nx gB wB cB sS bX f6 f7 g8 g9 Q)) (hi : i < ns) (v : Int32) : ∃ st', pV st (some (ad (60 + i))) 3 2 (DI v) = some st' ∧ NH st' ad (CT ad day nb ns nx gB wB cB (va_up sS i (upd (sS i) 1 v)) bX f6 f7 g8 g9 Q) := ⟨_, l_pV h (c_s hi) 2 (DI v) (show (2 : Nat) < 5 by decide), w_se h hi (upd (sS i) 1 v)⟩
theorem w_s3 (h : NH st ad (CT ad day nb ns nx gB wB cB sS bX f6 f7 g8 g9 Q)) (hi : i < ns) (v : Int32) : ∃ st', pV st (some (ad (60 + i))) 3 3 (DI v) = some st' ∧ NH st' ad (CT ad day nb ns nx gB wB cB (va_up sS i (upd (sS i) 3 v)) bX f6 f7 g8 g9 Q) := ⟨_, l_pV h (c_s hi) 3 (DI v) (show (3 : Nat) < 5 by decide), w_se h hi (upd (sS i) 3 v)⟩
theorem w_s4 (h : NH st ad (CT ad day nb ns nx gB wB cB sS bX f6 f7 g8 g9 Q)) (hi : i < ns) (v : Int32) : ∃ st', pV st (some (ad (60 + i))) 3 4 (DI v) = some st' ∧ NH st' ad (CT ad day nb ns nx gB wB cB (va_up sS i (upd (sS i) 4 v)) bX f6 f7 g8 g9 Q) := ⟨_, l_pV h (c_s hi) 4 (DI v) (show (4 : Nat) < 5 by decide), w_se h hi (upd (sS i) 4 v)⟩
theorem w_xe (h : NH st ad (CT ad day nb ns nx gB wB cB sS bX f6 f7 g8 g9 Q)) (hi : i < nx) (hx : nx ≤ 6) (x : Nat → Int32) : NH (setN st (ad (50 + i)) (OX x)) ad (CT ad day nb ns nx gB wB cB sS (va_up bX i x) f6 f7 g8 g9 Q) := by
  have q := h.set (c_x hi hx) (OX x)
  unfold CT at q
  rw [reg_u5 (by omega), up2_eq _ (T5 nx (va_up bX i x)) i _ (by unfold T5; rw [if_pos hi, va_up_s]) (fun j hj => by unfold T5; rw [va_up_n _ _ hj])] at q
  exact q
theorem w_x2 (h : NH st ad (CT ad day nb ns nx gB wB cB sS bX f6 f7 g8 g9 Q)) (hi : i < nx) (hx : nx ≤ 6) (v : Int32) : ∃ st', pV st (some (ad (50 + i))) 1 2 (DI v) = some st' ∧ NH st' ad (CT ad day nb ns nx gB wB cB sS (va_up bX i (upd (bX i) 2 v)) f6 f7 g8 g9 Q) := ⟨_, l_pV h (c_x hi hx) 2 (DI v) (show (2 : Nat) < 5 by decide), w_xe h hi hx (upd (bX i) 2 v)⟩
theorem w_x3 (h : NH st ad (CT ad day nb ns nx gB wB cB sS bX f6 f7 g8 g9 Q)) (hi : i < nx) (hx : nx ≤ 6) (v : Int32) : ∃ st', pV st (some (ad (50 + i))) 1 3 (DI v) = some st' ∧ NH st' ad (CT ad day nb ns nx gB wB cB sS (va_up bX i (upd (bX i) 3 v)) f6 f7 g8 g9 Q) := ⟨_, l_pV h (c_x hi hx) 3 (DI v) (show (3 : Nat) < 5 by decide), w_xe h hi hx (upd (bX i) 3 v)⟩
theorem w_x4 (h : NH st ad (CT ad day nb ns nx gB wB cB sS bX f6 f7 g8 g9 Q)) (hi : i < nx) (hx : nx ≤ 6) (v : Int32) : ∃ st', pV st (some (ad (50 + i))) 1 4 (DI v) = some st' ∧ NH st' ad (CT ad day nb ns nx gB wB cB sS (va_up bX i (upd (bX i) 4 v)) f6 f7 g8 g9 Q) := ⟨_, l_pV h (c_x hi hx) 4 (DI v) (show (4 : Nat) < 5 by decide), w_xe h hi hx (upd (bX i) 4 v)⟩
end CWRITE
section MWORLD
theorem nI_mk (a b c : Nat) : nI a * nI b + nI c = nI (a * b + c) := by rw [← nI_add]; congr 1; exact (Int32.ofNat_mul a b).symm
theorem nI_m7 (b c : Nat) : 7 * nI b + nI c = nI (7 * b + c) := nI_mk 7 b c
theorem nI_m5 (b c : Nat) : 5 * nI b + nI c = nI (5 * b + c) := nI_mk 5 b c
/-! its writing -/
end MWORLD

