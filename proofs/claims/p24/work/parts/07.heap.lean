section DHEAP
variable {Y : DY} {cc : ByteArray} {own : String} {rm : Room} {cs ss pc : Nat} {st st1 : DSt} {lv : List (Nat × DV)} {stk : List DV}
def dm_CF (C : String) (T : u_T) (N ci : Nat) (ty : Nat → FieldType) : Prop := (∀ w ∈ u_ws C T N, w ∈ WALL) ∧ (∀ k, k < N → parseFieldDescriptor (T k).2.2.1 = some (ty k)) ∧ (∀ a, a < N → ∀ b, b < N → a ≠ b → (T a).2.1 ≠ (T b).2.1) ∧ vwCl[ci]? = some (C, T, N)
theorem dm_P1 {D : va_G} {a : Nat} {e : va_E} {H : Heap} (h : va_at D vwCl (a, e) H) : va_P D vwCl [(a, e)] H := fun k q hk => by
  cases k with
  | zero => cases hk; exact h
  | succ k => cases hk
theorem r_getV {C : String} {T : u_T} {N ci : Nat} {ty : Nat → FieldType} (CF : dm_CF C T N ci ty) {r : Option Nat} {k idx : Nat} {v : DV} (Cx : dm_C Y cc own rm) (hk : k < N) (hw : Cond.fieldLink own idx (T k).1 (T k).2.1 (T k).2.2.1 ∈ WALL) (hd : decode cc pc = .ok (.getfield idx, 3)) (hv : gV st r ci k = some v) (kk : dm_W Y cs ss st (pc + 3) lv (v :: stk)) : dm_W Y cs ss st pc lv (DR r :: stk) := by
  obtain ⟨⟨p, l, e, R, s⟩, ⟨m, args, below, meth, c⟩, ⟨D, dA, A0, nL, Q⟩⟩ := Y
  obtain ⟨hx, hb, hml, hown, hts, hK, -⟩ := Cx
  obtain ⟨⟨a, fs⟩, hq, hu⟩ := ob hv
  clear hv
  have hv := hu
  clear hu
  obtain ⟨rfl, hst⟩ := gO_spec hq
  have hv : fs[k]? = some v := hv
  have hts' : ∀ w ∈ u_ws C T N, w.before args s = true := fun w hw => hts w (CF.1 w hw)
  intro H locs ls hS hl
  exact va_get (D := D) (ci := ci) (v := dm_v v) (C := C) (T := T) (N := N) (Ts := WALL) (fs := fs.map dm_v) hx hb hts CF.1 hown hK (dm_P1 (hS.1 _ _ hst)) 0 rfl CF.2.2.2 k hk (hts _ hw) (fun _ h => h) (by rw [List.getElem?_map, hv]; rfl) hd (kk H locs ls hS hl)
theorem r_getI {C : String} {T : u_T} {N ci : Nat} {ty : Nat → FieldType} (CF : dm_CF C T N ci ty) {r : Option Nat} {k idx : Nat} {v : Int32} (Cx : dm_C Y cc own rm) (hk : k < N) (hw : Cond.fieldLink own idx (T k).1 (T k).2.1 (T k).2.2.1 ∈ WALL) (hd : decode cc pc = .ok (.getfield idx, 3)) (hv : gI st r ci k = some v) (kk : dm_W Y cs ss st (pc + 3) lv (DI v :: stk)) : dm_W Y cs ss st pc lv (DR r :: stk) := by
  obtain ⟨z, h1, h2⟩ := ob hv
  have h2 := asI_spec h2
  subst h2
  exact r_getV CF Cx hk hw hd h1 kk
theorem r_getR {C : String} {T : u_T} {N ci : Nat} {ty : Nat → FieldType} (CF : dm_CF C T N ci ty) {r : Option Nat} {k idx : Nat} {v : Option Nat} (Cx : dm_C Y cc own rm) (hk : k < N) (hw : Cond.fieldLink own idx (T k).1 (T k).2.1 (T k).2.2.1 ∈ WALL) (hd : decode cc pc = .ok (.getfield idx, 3)) (hv : gR st r ci k = some v) (kk : dm_W Y cs ss st (pc + 3) lv (DR v :: stk)) : dm_W Y cs ss st pc lv (DR r :: stk) := by
  obtain ⟨z, h1, h2⟩ := ob hv
  have h2 := asR_spec h2
  subst h2
  exact r_getV CF Cx hk hw hd h1 kk
theorem dm_fr {t : FieldType} (h : (∃ n, t = .object n) ∨ ∃ u, t = .array u) (r : Option Nat) : narrow t (dm_v (DR r)) = dm_v (DR r) ∧ fits t (dm_v (DR r)) = true := by
  rcases h with ⟨n, rfl⟩ | ⟨u, rfl⟩ <;> cases r <;> exact ⟨rfl, rfl⟩
theorem r_put {C : String} {T : u_T} {N ci : Nat} {ty : Nat → FieldType} (CF : dm_CF C T N ci ty) {r : Option Nat} {k idx : Nat} {v : DV} (Cx : dm_C Y cc own rm) (hk : k < N) (hw : Cond.fieldLink own idx (T k).1 (T k).2.1 (T k).2.2.1 ∈ WALL) (hf : (T k).2.2.2 = false) (hn : narrow (ty k) (dm_v v) = dm_v v ∧ fits (ty k) (dm_v v) = true) (hd : decode cc pc = .ok (.putfield idx, 3)) (hv : pV st r ci k v = some st1) (kk : dm_W Y cs ss st1 (pc + 3) lv stk) : dm_W Y cs ss st pc lv (v :: DR r :: stk) := by
  obtain ⟨⟨p, l, e, R, s⟩, ⟨m, args, below, meth, c⟩, ⟨D, dA, A0, nL, Q⟩⟩ := Y
  obtain ⟨hx, hb, hml, hown, hts, hK, -⟩ := Cx
  obtain ⟨⟨a, fs⟩, hq, hu⟩ := ob hv
  clear hv
  have hv := hu
  clear hu
  obtain ⟨rfl, hst⟩ := gO_spec hq
  dsimp only at hv hst
  split at hv
  · rename_i hlen
    cases hv
    intro H locs ls ⟨hR, hsz, hdom, hva⟩ hl
    have hap := va_apart (own := own) hts CF.1 ty CF.2.1 CF.2.2.1 hK CF.2.2.2
    obtain ⟨r', h1, cell, q1, q2, q3, q4⟩ := hR _ _ hst
    have hr : r' = (C, T, N) := Option.some.inj (h1.symm.trans CF.2.2.2)
    subst hr
    obtain ⟨hS9, hfc, kC, hkC, hkind⟩ := hK.1 ci _ CF.2.2.2
    obtain ⟨cf, kf, fi, f, hi, hsl⟩ := hS9 k hk
    have hlay := hts _ (CF.1 _ (u_in_lay hk))
    unfold u_lay at hlay
    rw [if_neg (by rw [hf]; decide)] at hlay
    have hst9 := (u_facts hfc hkC (u_lays hts CF.1 hk) hi).1
    have h6 := u_store hfc hkC hkind hlay hi (CF.2.1 k hk) hn.1 hn.2
    refine W.putK hx hb (f := f) (v := dm_v v) ⟨hown, hts _ hw, ⟨_, _, _, hi⟩, hst9⟩ (by rw [q2]; exact h6) q1 q3 (by rw [hsl]; exact k2_hasslot (q4 k hk)) rfl rfl hd fun H' e1 e2 e3 => ?_
    rw [hsl] at e1
    refine kk H' _ ls ⟨hR.put e3 ⟨_, CF.2.2.2, t_OB.to (V := updV (vp_V (fs.map dm_v)) k (dm_v v)) ⟨_, e1, q2, q3, t_set q4 hap hk (dm_v v)⟩ (fun j _ => ?_)⟩, e2.trans hsz, dm_up_dom hdom (hdom _ _ hst), hva.put e2 e3 (hdom _ _ hst)⟩ hl
    show updV (vp_V (fs.map dm_v)) k (dm_v v) j = vp_V ((fs.set k v).map dm_v) j
    rw [List.map_set]
    exact vp_updV_set (by rw [List.length_map]; exact hlen) (dm_v v) j
  · cases hv
def dm_I (Y : DY) (own : String) : Prop := Y.2.1.2.2.2.1.name = "<init>"
theorem r_putF {C : String} {T : u_T} {N ci : Nat} {ty : Nat → FieldType} (CF : dm_CF C T N ci ty) {r : Option Nat} {k idx : Nat} {v : DV} (Cx : dm_C Y cc own rm) (hI : dm_I Y own) (hdecl : (T k).1 = own) (hk : k < N) (hw : Cond.fieldLink own idx (T k).1 (T k).2.1 (T k).2.2.1 ∈ WALL) (hf : (T k).2.2.2 = true) (hn : narrow (ty k) (dm_v v) = dm_v v ∧ fits (ty k) (dm_v v) = true) (hd : decode cc pc = .ok (.putfield idx, 3)) (hv : pV st r ci k v = some st1) (kk : dm_W Y cs ss st1 (pc + 3) lv stk) : dm_W Y cs ss st pc lv (v :: DR r :: stk) := by
  obtain ⟨⟨p, l, e, R, s⟩, ⟨m, args, below, meth, c⟩, ⟨D, dA, A0, nL, Q⟩⟩ := Y
  obtain ⟨hx, hb, hml, hown, hts, hK, -⟩ := Cx
  have hI : meth.name = "<init>" := hI
  obtain ⟨⟨a, fs⟩, hq, hu⟩ := ob hv
  clear hv
  have hv := hu
  clear hu
  obtain ⟨rfl, hst⟩ := gO_spec hq
  dsimp only at hv hst
  split at hv
  · rename_i hlen
    cases hv
    intro H locs ls ⟨hR, hsz, hdom, hva⟩ hl
    have hap := va_apart (own := own) hts CF.1 ty CF.2.1 CF.2.2.1 hK CF.2.2.2
    obtain ⟨r', h1, cell, q1, q2, q3, q4⟩ := hR _ _ hst
    have hr : r' = (C, T, N) := Option.some.inj (h1.symm.trans CF.2.2.2)
    subst hr
    obtain ⟨hS9, hfc, kC, hkC, hkind⟩ := hK.1 ci _ CF.2.2.2
    obtain ⟨cf, kf, fi, f, hi, hsl⟩ := hS9 k hk
    have hlay := hts _ (CF.1 _ (u_in_lay hk))
    unfold u_lay at hlay
    rw [if_pos hf] at hlay
    have hst9 := (u_facts hfc hkC (u_lays hts CF.1 hk) hi).1
    have hcf : m.cls = cf := by
      obtain ⟨_, _, c', _, _, _, -, -, hf', -, -, -, hown2, -⟩ := Cond.laysFinal_spec hlay
      have e1 : c' = cf := by have := hi.symm.trans hf'; simp at this; exact this.1.symm
      rw [hdecl] at hown2
      rw [← e1]; exact Option.some.inj (hown.symm.trans hown2)
    have h6 := u_fits hfc hkC hkind (Or.inr hlay) hi (CF.2.1 k hk) hn.1 hn.2
    refine W.putFinK hx hb hown (hts _ hw) hi hst9 hcf hI (v := dm_v v) (by rw [q2]; exact h6) q1 q3 (by rw [hsl]; exact k2_hasslot (q4 k hk)) rfl rfl hd fun H' e1 e2 e3 => ?_
    rw [hsl] at e1
    refine kk H' _ ls ⟨hR.put e3 ⟨_, CF.2.2.2, t_OB.to (V := updV (vp_V (fs.map dm_v)) k (dm_v v)) ⟨_, e1, q2, q3, t_set q4 hap hk (dm_v v)⟩ (fun j _ => ?_)⟩, e2.trans hsz, dm_up_dom hdom (hdom _ _ hst), hva.put e2 e3 (hdom _ _ hst)⟩ hl
    show updV (vp_V (fs.map dm_v)) k (dm_v v) j = vp_V ((fs.set k v).map dm_v) j
    rw [List.map_set]
    exact vp_updV_set (by rw [List.length_map]; exact hlen) (dm_v v) j
  · cases hv
/-! arrays -/
theorem r_iaload {r : Option Nat} {i x : Int32} (Cx : dm_C Y cc own rm) (hd : decode cc pc = .ok (.iaload, 1)) (hv : aI st r 0 i = some x) (kk : dm_W Y cs ss st (pc + 1) lv (DI x :: stk)) : dm_W Y cs ss st pc lv (DI i :: DR r :: stk) := by
  obtain ⟨⟨p, l, e, R, s⟩, ⟨m, args, below, meth, c⟩, ⟨D, dA, A0, nL, Q⟩⟩ := Y
  obtain ⟨hx, hb, hml, hown, hts, hK, -⟩ := Cx
  obtain ⟨⟨a, n, f⟩, hq, hu⟩ := ob hv
  clear hv
  have hv := hu
  clear hu
  obtain ⟨rfl, hst⟩ := gAI_spec hq
  dsimp only at hv hst
  split at hv
  · rename_i hin
    cases hv
    intro H locs ls hS hl
    exact va_iald hx hb hK (dm_P1 (hS.1 _ _ hst)) 0 0 (cA := dA 0) rfl rfl (inA_in hin) hd (kk H locs ls hS hl)
  · cases hv
theorem r_zaload {r : Option Nat} {i x : Int32} (Cx : dm_C Y cc own rm) (hd : decode cc pc = .ok (.baload, 1)) (hv : aI st r 1 i = some x) (kk : dm_W Y cs ss st (pc + 1) lv (DI x :: stk)) : dm_W Y cs ss st pc lv (DI i :: DR r :: stk) := by
  obtain ⟨⟨p, l, e, R, s⟩, ⟨m, args, below, meth, c⟩, ⟨D, dA, A0, nL, Q⟩⟩ := Y
  obtain ⟨hx, hb, hml, hown, hts, hK, -⟩ := Cx
  obtain ⟨⟨a, n, f⟩, hq, hu⟩ := ob hv
  clear hv
  have hv := hu
  clear hu
  obtain ⟨rfl, hst⟩ := gAI_spec hq
  dsimp only at hv hst
  split at hv
  · rename_i hin
    cases hv
    intro H locs ls hS hl
    exact va_zald hx hb hK (dm_P1 (hS.1 _ _ hst)) 0 1 (cA := dA 1) rfl rfl (inA_in hin) hd (kk H locs ls hS hl)
  · cases hv
theorem r_aaload {r x : Option Nat} {i : Int32} {kd : Nat} {E : String} (ht : ∀ dA : Nat → ClassId, (dm_tys dA)[kd]? = some (dA kd, .object E)) (Cx : dm_C Y cc own rm) (hd : decode cc pc = .ok (.aaload, 1)) (hv : aR st r kd i = some x) (kk : dm_W Y cs ss st (pc + 1) lv (DR x :: stk)) : dm_W Y cs ss st pc lv (DI i :: DR r :: stk) := by
  obtain ⟨⟨p, l, e, R, s⟩, ⟨m, args, below, meth, c⟩, ⟨D, dA, A0, nL, Q⟩⟩ := Y
  obtain ⟨hx, hb, hml, hown, hts, hK, -⟩ := Cx
  obtain ⟨⟨a, n, f⟩, hq, hu⟩ := ob hv
  clear hv
  have hv := hu
  clear hu
  obtain ⟨rfl, hst⟩ := gAR_spec hq
  dsimp only at hv hst
  split at hv
  · rename_i hin
    cases hv
    intro H locs ls hS hl
    exact va_aldq hx hb hK (dm_P1 (hS.1 _ _ hst)) 0 kd (cA := dA kd) rfl (ht dA) (inA_in hin) hd (kk H locs ls hS hl)
  · cases hv
theorem dm_sin {cA : ClassId} {n : Nat} {x : vp_A} {f : Nat → Value} {i : Int32} (hx : vp_cell cA x = arrV cA n f) (h : vp_in i n) : ¬ (i < 0 ∨ (vp_cell cA x).slots.size ≤ i.toNatClampNeg) := by rw [hx, arrV_size]; exact h
theorem r_iastore {r : Option Nat} {i x : Int32} (Cx : dm_C Y cc own rm) (hd : decode cc pc = .ok (.iastore, 1)) (hv : sI st r 0 i x = some st1) (kk : dm_W Y cs ss st1 (pc + 1) lv stk) : dm_W Y cs ss st pc lv (DI x :: DI i :: DR r :: stk) := by
  obtain ⟨⟨p, l, e, R, s⟩, ⟨m, args, below, meth, c⟩, ⟨D, dA, A0, nL, Q⟩⟩ := Y
  obtain ⟨hx, hb, hml, hown, hts, hK, -⟩ := Cx
  obtain ⟨⟨a, n, f⟩, hq, hu⟩ := ob hv
  clear hv
  have hv := hu
  clear hu
  obtain ⟨rfl, hst⟩ := gAI_spec hq
  dsimp only at hv hst
  split at hv
  · rename_i hin
    cases hv
    intro H locs ls ⟨hR, hsz, hdom, hva⟩ hl
    have hc : H[a]? = some (vp_cell (dA 0) (n, .inl f)) := hR _ _ hst
    refine W.iast hx hb hc ((hK.2 0 (dA 0, .int) rfl).1 n (fun j => .int (f j))) (fun q => by cases q) (dm_sin (vp_cell_i _ _ _) (inA_in hin)) rfl rfl hd fun H1 e1 z oq => ?_
    refine kk H1 _ ls ⟨hR.put oq ?_, z.trans hsz, dm_up_dom hdom (hdom _ _ hst), hva.put z oq (hdom _ _ hst)⟩ hl
    show H1[a]? = some (vp_cell _ _)
    rw [e1, vp_cell_i, vp_cell_i, arrV_store]
    congr 2
    funext q
    by_cases hq : q = i.toNatClampNeg
    · subst hq
      simp [updV, upd]
    · simp [updV, upd, hq]
  · cases hv
theorem r_zastore {r : Option Nat} {i x : Int32} (Cx : dm_C Y cc own rm) (hd : decode cc pc = .ok (.bastore, 1)) (hv : sI st r 1 i (vp_nar .boolean x) = some st1) (kk : dm_W Y cs ss st1 (pc + 1) lv stk) : dm_W Y cs ss st pc lv (DI x :: DI i :: DR r :: stk) := by
  obtain ⟨⟨p, l, e, R, s⟩, ⟨m, args, below, meth, c⟩, ⟨D, dA, A0, nL, Q⟩⟩ := Y
  obtain ⟨hx, hb, hml, hown, hts, hK, -⟩ := Cx
  obtain ⟨⟨a, n, f⟩, hq, hu⟩ := ob hv
  clear hv
  have hv := hu
  clear hu
  obtain ⟨rfl, hst⟩ := gAI_spec hq
  dsimp only at hv hst
  split at hv
  · rename_i hin
    cases hv
    intro H locs ls ⟨hR, hsz, hdom, hva⟩ hl
    have hc : H[a]? = some (vp_cell (dA 1) (n, .inl f)) := hR _ _ hst
    refine W.zast hx hb hc ((hK.2 1 (dA 1, .boolean) rfl).1 n (fun j => .int (f j))) (fun q => by cases q) (dm_sin (vp_cell_i _ _ _) (inA_in hin)) rfl rfl hd fun H1 e1 z oq => ?_
    refine kk H1 _ ls ⟨hR.put oq ?_, z.trans hsz, dm_up_dom hdom (hdom _ _ hst), hva.put z oq (hdom _ _ hst)⟩ hl
    show H1[a]? = some (vp_cell _ _)
    rw [e1, vp_cell_i, vp_cell_i, arrV_store]
    congr 2
    funext q
    by_cases hq : q = i.toNatClampNeg
    · subst hq
      simp [updV, upd, vp_nar]
      try rfl
    · simp [updV, upd, hq]
  · cases hv
theorem dm_cellq {H1 : Heap} {a n : Nat} {cA : ClassId} {f : Nat → Option Nat} {i : Int32} {v : Option Nat} (e1 : H1[a]? = some ((vp_cell cA (n, .inr (.inr (.inr (.inr f))))).setSlot i.toNatClampNeg (va_rf v))) : H1[a]? = some (vp_cell cA (n, .inr (.inr (.inr (.inr (va_up f i.toNatClampNeg v)))))) := by
  rw [e1, vp_cell_q, vp_cell_q, arrV_store]
  congr 2
  funext q
  by_cases hq : q = i.toNatClampNeg
  · subst hq
    simp [updV, va_up]
  · simp [updV, va_up, hq]
theorem r_aastore {r v : Option Nat} {i : Int32} {kd ci : Nat} {E : String} {T : u_T} {N : Nat} (ht : ∀ dA : Nat → ClassId, (dm_tys dA)[kd]? = some (dA kd, .object E)) (hc : vwCl[ci]? = some (E, T, N)) (Cx : dm_C Y cc own rm) (hd : decode cc pc = .ok (.aastore, 1)) (hv : sR st r kd ci i v = some st1) (kk : dm_W Y cs ss st1 (pc + 1) lv stk) : dm_W Y cs ss st pc lv (DR v :: DI i :: DR r :: stk) := by
  obtain ⟨⟨p, l, e, R, s⟩, ⟨m, args, below, meth, c⟩, ⟨D, dA, A0, nL, Q⟩⟩ := Y
  obtain ⟨hx, hb, hml, hown, hts, hK, -⟩ := Cx
  obtain ⟨⟨a, n, f⟩, hq, hu⟩ := ob hv
  clear hv
  have hv := hu
  clear hu
  obtain ⟨rfl, hst⟩ := gAR_spec hq
  dsimp only at hv hst
  split at hv
  · rename_i hin
    cases hv
    intro H locs ls ⟨hR, hsz, hdom, hva⟩ hl
    have hca : H[a]? = some (vp_cell (dA kd) (n, .inr (.inr (.inr (.inr f))))) := hR _ _ hst
    have hvi := inA_in hin.1
    have hlt : i.toNatClampNeg < n := Nat.not_le.mp fun q => hvi (Or.inr q)
    have h0 : ¬ i < 0 := fun q => hvi (Or.inl q)
    cases v with
    | none =>
      refine va_WaastN (C := E) hx hb hca ((hK.2 kd _ (ht dA)).1 n (fun j => va_rf (f j))) (fun q => by cases q) (dm_sin (vp_cell_q _ _ _) hvi) rfl rfl hd fun H1 e1 z oq => ?_
      exact kk H1 _ ls ⟨hR.put oq (dm_cellq (v := none) e1), z.trans hsz, dm_up_dom hdom (hdom _ _ hst), hva.put z oq (hdom _ _ hst)⟩ hl
    | some b =>
      obtain ⟨⟨b', vs⟩, hb'⟩ := Option.isSome_iff_exists.mp (show (gO st (some b) ci).isSome = true from hin.2)
      obtain ⟨hbb, hst2⟩ := gO_spec hb'
      cases hbb
      obtain ⟨r', hr', cellV, g1, g2, g3, -⟩ := hR _ _ hst2
      have hcls := (hK.1 ci _ hc).2
      obtain ⟨kA, comp, k1, k2, k3, -⟩ := (hK.2 kd _ (ht dA)).2
      have hcomp : comp = D.1 ci := Option.some.inj (k3.symm.trans hcls.1)
      subst hcomp
      obtain ⟨kC, hkC, -⟩ := id hcls.2
      have k1' : s.vm.classes[(vp_cell (dA kd) (n, .inr (.inr (.inr (.inr f))))).cls]? = some kA := k1
      refine W.aast hx hb hca (fun q h => by cases h) (fun h => by cases h) k1' k2 rfl hkC ⟨h0, by rw [vp_cell_q, arrV_size]; exact hlt⟩ g1 (fun q h => by rw [g3] at h; cases h) (by rw [g2]; exact hkC) (by rw [g2]; exact va_assign hcls) rfl rfl hd fun H1 e1 z oq => ?_
      exact kk H1 _ ls ⟨hR.put oq (dm_cellq (v := some b') e1), z.trans hsz, dm_up_dom hdom (hdom _ _ hst), hva.put z oq (hdom _ _ hst)⟩ hl
  · cases hv
theorem r_alen {r : Option Nat} {kd : Nat} {x : Int32} {t : FieldType} (ht : ∀ dA : Nat → ClassId, (dm_tys dA)[kd]? = some (dA kd, t)) (Cx : dm_C Y cc own rm) (hd : decode cc pc = .ok (.arraylength, 1)) (hv : aN st r kd = some x) (kk : dm_W Y cs ss st (pc + 1) lv (DI x :: stk)) : dm_W Y cs ss st pc lv (DR r :: stk) := by
  obtain ⟨⟨p, l, e, R, s⟩, ⟨m, args, below, meth, c⟩, ⟨D, dA, A0, nL, Q⟩⟩ := Y
  obtain ⟨hx, hb, hml, hown, hts, hK, -⟩ := Cx
  obtain ⟨⟨a, z⟩, hq, hu⟩ := ob hv
  clear hv
  have hv := hu
  clear hu
  obtain ⟨rfl, hst⟩ := gA_spec hq
  cases hv
  intro H locs ls hS hl
  exact va_alen hx hb hK (dm_P1 (hS.1 _ _ hst)) 0 kd (cA := dA kd) (x := z) rfl (ht dA) rfl hd (kk H locs ls hS hl)
/-! what is new -/
theorem r_new {C : String} {T : u_T} {N ci : Nat} {ty : Nat → FieldType} (CF : dm_CF C T N ci ty) {idx : Nat} {fs : List DV} (Cx : dm_C Y cc own rm) (w1 : Cond.classLink own idx C ∈ WALL) (w2 : Cond.instantiable C N ∈ WALL) (w3 : Cond.initialized C ∈ WALL) (hfs : ∀ j, j < N → defaultValue (ty j) = vp_V (fs.map dm_v) j) (hc : cs + 1 ≤ rm.cells ∧ ss + N ≤ rm.slots) (hd : decode cc pc = .ok (.new idx, 3)) (kk : dm_W Y (cs + 1) (ss + N) (nC st (.inr (ci, fs))) (pc + 3) lv (DR (some st.1) :: stk)) : dm_W Y cs ss st pc lv stk := by
  obtain ⟨⟨p, l, e, R, s⟩, ⟨m, args, below, meth, c⟩, ⟨D, dA, A0, nL, Q⟩⟩ := Y
  obtain ⟨hx, hb, hml, hown, hts, hK, hA, hRm, -⟩ := Cx
  subst hRm
  intro H locs ls ⟨hR, hsz, hdom, hva⟩ hl
  have hKn := hK.1 ci _ CF.2.2.2
  refine W.newcK hx hb hown (hts _ w1) (hts _ w2) (hts _ w3) rfl hd hc.1 hc.2 hKn.2.1 rfl fun H1 kC hkC e1 z1 o1 => ?_
  have hnew : va_at D vwCl (H.size, dm_cel dA (.inr (ci, fs))) H1 := ⟨_, CF.2.2.2, (u_born ty hts CF.1 hKn hkC e1 CF.2.1).to hfs⟩
  have hS1 : va_S A0 s.heap H1 locs := ⟨Nat.le_trans hva.1 (by omega), fun x h1 h2 => (o1 x (Nat.lt_of_lt_of_le h1 hva.1)).trans (hva.2.1 x h1 h2), hva.2.2⟩
  rw [hsz] at hnew ⊢
  refine kk H1 _ ls ⟨?_, by rw [z1, hsz]; rfl, dm_up_dom hdom (hA _ (by rw [← hsz]; exact hva.1)), hS1⟩ hl
  have := hR.new o1 (e := .inr (ci, fs)) (by rw [hsz]; exact hnew)
  rw [hsz] at this
  exact this
theorem r_newa {atype : ArrayType} {t : FieldType} {kd N : Nat} {n : Int32} {x : vp_A} (hty : newarray.typeOf atype = t) (ht : ∀ dA : Nat → ClassId, (dm_tys dA)[kd]? = some (dA kd, t)) (hnr : ∀ E, t ≠ .object E) (hxc : ∀ cA : ClassId, vp_cell cA x = arrV cA N (fun _ => defaultValue t)) (Cx : dm_C Y cc own rm) (w1 : Cond.arrayClass t ∈ WALL) (hn : ¬ n < 0) (hN : n.toNatClampNeg = N) (hb0 : N * componentBytes t ≤ 536870912) (hc : cs + 1 ≤ rm.cells ∧ ss + N ≤ rm.slots) (hd : decode cc pc = .ok (.newarray atype, 2)) (kk : dm_W Y (cs + 1) (ss + N) (nC st (.inl (kd, x))) (pc + 2) lv (DR (some st.1) :: stk)) : dm_W Y cs ss st pc lv (DI n :: stk) := by
  obtain ⟨⟨p, l, e, R, s⟩, ⟨m, args, below, meth, c⟩, ⟨D, dA, A0, nL, Q⟩⟩ := Y
  obtain ⟨hx, hb, hml, hown, hts, hK, hA, hRm, -⟩ := Cx
  subst hRm
  subst hty
  intro H locs ls ⟨hR, hsz, hdom, hva⟩ hl
  refine va_newaK hx hb (hts _ w1) (m := m) rfl hd rfl hn hN hb0 hc.1 hc.2 rfl fun H1 cA e1 z1 o1 hAr hNm => ?_
  have hcA : cA = dA kd := by
    have h9 := (hK.2 kd _ (ht dA)).2
    have h8 : s.vm.findClass ("[" ++ (newarray.typeOf atype).toString) = some (dA kd) := by
      cases atype <;> exact h9
    exact Option.some.inj (hNm.symm.trans h8)
  subst hcA
  have hnew : va_at D vwCl (H.size, dm_cel dA (.inl (kd, x))) H1 := by
    show H1[H.size]? = some (vp_cell (dA kd) x)
    rw [hxc]
    exact e1
  have hS1 : va_S A0 s.heap H1 locs := ⟨Nat.le_trans hva.1 (by omega), fun x h1 h2 => (o1 x (Nat.lt_of_lt_of_le h1 hva.1)).trans (hva.2.1 x h1 h2), hva.2.2⟩
  have h3 := hR.new o1 (e := .inl (kd, x)) hnew
  rw [hsz] at h3 ⊢
  exact kk H1 _ ls ⟨h3, by rw [z1, hsz]; rfl, dm_up_dom hdom (hA _ (by rw [← hsz]; exact hva.1)), hS1⟩ hl
theorem r_newq {E : String} {kd N idx : Nat} {n : Int32} (ht : ∀ dA : Nat → ClassId, (dm_tys dA)[kd]? = some (dA kd, .object E)) (Cx : dm_C Y cc own rm) (hE : E ∈ dm_arr) (w1 : Cond.classLink own idx E ∈ WALL) (hn : ¬ n < 0) (hN : n.toNatClampNeg = N) (hb0 : N * 4 ≤ 536870912) (hc : cs + 1 ≤ rm.cells ∧ ss + N ≤ rm.slots) (hd : decode cc pc = .ok (.anewarray idx, 3)) (kk : dm_W Y (cs + 1) (ss + N) (nC st (.inl (kd, nR0 N))) (pc + 3) lv (DR (some st.1) :: stk)) : dm_W Y cs ss st pc lv (DI n :: stk) := by
  obtain ⟨⟨p, l, e, R, s⟩, ⟨m, args, below, meth, c⟩, ⟨D, dA, A0, nL, Q⟩⟩ := Y
  obtain ⟨hx, hb, hml, hown, hts, hK, hA, hRm, hl0, hEv⟩ := Cx
  subst hRm
  subst hN
  intro H locs ls ⟨hR, hsz, hdom, hva⟩ hl
  refine W.anew hx hb hown (hts _ w1) (va_AO.use (hEv.2.2.2.2.2.2 _ hE)) rfl hd rfl hn hb0 hc.1 hc.2 fun cA kA comp f1 f2 f3 f4 => ?_
  generalize hH1 : H.push ({ cls := cA, slots := Array.replicate n.toNatClampNeg .null, vm := .none } : Cell) = H1
  have z1 : H1.size = H.size + 1 := by rw [← hH1, Array.size_push]
  have e1 : H1[H.size]? = some (arrV cA n.toNatClampNeg (fun _ => .null)) := by rw [← hH1, Array.getElem?_push_size, ← arrV_new]
  have o1 : ∀ q : Nat, q < H.size → H1[q]? = H[q]? := fun q hq => by rw [← hH1, Array.getElem?_push, if_neg (Nat.ne_of_lt hq)]
  have hcA : cA = dA kd := by
    obtain ⟨kA', comp', -, -, -, h9⟩ := (hK.2 kd _ (ht dA)).2
    exact Option.some.inj (f1.symm.trans h9)
  subst hcA
  have hnew : va_at D vwCl (H.size, dm_cel dA (.inl (kd, nR0 n.toNatClampNeg))) H1 := by
    show H1[H.size]? = some (vp_cell (dA kd) (nR0 n.toNatClampNeg))
    unfold nR0
    rw [vp_cell_q]
    exact e1
  have hS1 : va_S A0 s.heap H1 locs := ⟨Nat.le_trans hva.1 (by omega), fun x h1 h2 => (o1 x (Nat.lt_of_lt_of_le h1 hva.1)).trans (hva.2.1 x h1 h2), hva.2.2⟩
  have h3 := hR.new o1 (e := .inl (kd, nR0 n.toNatClampNeg)) hnew
  rw [hsz] at h3 ⊢
  exact kk H1 _ ls ⟨h3, by rw [z1, hsz]; rfl, dm_up_dom hdom (hA _ (by rw [← hsz]; exact hva.1)), hS1⟩ hl
theorem r_objInit {a : Option Nat} {idx nL : Nat} (Cx : dm_C Y cc own rm) (w1 : Cond.methodLink own idx Lib.objectInit ∈ WALL) (w2 : Cond.instanceMethod Lib.objectInit ∈ WALL) (w3 : Cond.code Lib.objectInit ⟨#[0xb1]⟩ 1 none ∈ WALL) (ha : ∃ b, a = some b) (hd : decode cc pc = .ok (.invokespecial idx, 3)) (hr : 1 ≤ rm.frames ∧ (stk.map dm_cat).sum + 12 ≤ rm.locals) (kk : dm_W Y cs ss st (pc + 3) lv stk) : dm_W Y cs ss st pc lv (DR a :: stk) := by
  obtain ⟨⟨p, l, e, R, s⟩, ⟨m, args, below, meth, c⟩, ⟨D, dA, A0, nL, Q⟩⟩ := Y
  obtain ⟨hx, hb, hml, hown, hts, hK, hA, hRm, -⟩ := Cx
  subst hRm
  obtain ⟨b, rfl⟩ := ha
  intro H locs ls hS hl
  exact W.objInit hx hb hown (hts _ w1) (hts _ w2) (hts _ w3) rfl (by rw [hml]; exact hl.1) rfl hd hr.1 (by rw [dm_cat_sum]; show 2 * 0 + _ + 12 ≤ _; omega) (kk H locs ls hS hl)
/-! Math and System -/
theorem r_max {x y : Int32} {idx : Nat} (Cx : dm_C Y cc own rm) (w1 : Cond.methodLink own idx Lib.Math.max.name ∈ WALL) (w2 : Cond.static Lib.Math.max.name ∈ WALL) (w3 : Cond.initialized "java/lang/Math" ∈ WALL) (w4 : Cond.code Lib.Math.max.name Lib.Math.max.code 2 (some .int) ∈ WALL) (hd : decode cc pc = .ok (.invokestatic idx, 3)) (hr : 1 ≤ rm.frames ∧ (stk.map dm_cat).sum + 13 ≤ rm.locals ∧ cs ≤ rm.cells ∧ ss ≤ rm.slots) (kk : dm_W Y cs ss st (pc + 3) lv (DI (jmax x y) :: stk)) : dm_W Y cs ss st pc lv (DI y :: DI x :: stk) := by
  obtain ⟨⟨p, l, e, R, s⟩, ⟨m, args, below, meth, c⟩, ⟨D, dA, A0, nL, Q⟩⟩ := Y
  obtain ⟨hx, hb, hml, hown, hts, hK, hA, hRm, -⟩ := Cx
  subst hRm
  intro H locs ls hS hl
  exact va_mmax hx hb (by rw [hml]; exact hl.1.symm) hown (hts _ w1) (hts _ w2) (hts _ w3) (hts _ w4) hr.1 (by rw [dm_cat_sum]; exact hr.2.1) hr.2.2.1 hr.2.2.2 hd (kk H locs ls hS hl)
theorem r_min {x y : Int32} {idx : Nat} (Cx : dm_C Y cc own rm) (w1 : Cond.methodLink own idx Lib.Math.min.name ∈ WALL) (w2 : Cond.static Lib.Math.min.name ∈ WALL) (w3 : Cond.initialized "java/lang/Math" ∈ WALL) (w4 : Cond.code Lib.Math.min.name Lib.Math.min.code 2 (some .int) ∈ WALL) (hd : decode cc pc = .ok (.invokestatic idx, 3)) (hr : 1 ≤ rm.frames ∧ (stk.map dm_cat).sum + 13 ≤ rm.locals ∧ cs ≤ rm.cells ∧ ss ≤ rm.slots) (kk : dm_W Y cs ss st (pc + 3) lv (DI (jmin x y) :: stk)) : dm_W Y cs ss st pc lv (DI y :: DI x :: stk) := by
  obtain ⟨⟨p, l, e, R, s⟩, ⟨m, args, below, meth, c⟩, ⟨D, dA, A0, nL, Q⟩⟩ := Y
  obtain ⟨hx, hb, hml, hown, hts, hK, hA, hRm, -⟩ := Cx
  subst hRm
  intro H locs ls hS hl
  exact va_mmin hx hb (by rw [hml]; exact hl.1.symm) hown (hts _ w1) (hts _ w2) (hts _ w3) (hts _ w4) hr.1 (by rw [dm_cat_sum]; exact hr.2.1) hr.2.2.1 hr.2.2.2 hd (kk H locs ls hS hl)
set_option maxHeartbeats 1000000 in
theorem r_copy {r0 r1 : Option Nat} {sp dp n : Int32} {idx : Nat} (Cx : dm_C Y cc own rm) (w1 : Cond.methodLink own idx arraycopyName ∈ WALL) (w2 : Cond.native arraycopyName ∈ WALL) (w3 : Cond.static arraycopyName ∈ WALL) (w4 : Cond.initialized "java/lang/System" ∈ WALL) (hd : decode cc pc = .ok (.invokestatic idx, 3)) (hr : 1 ≤ rm.frames ∧ (stk.map dm_cat).sum + (nativeFrameWords "java/lang/System" "arraycopy" 5 + 11) ≤ rm.locals) (hv : cpI st r0 sp r1 dp n 0 = some st1) (kk : dm_W Y cs ss st1 (pc + 3) lv stk) : dm_W Y cs ss st pc lv (DI n :: DI dp :: DR r1 :: DI sp :: DR r0 :: stk) := by
  obtain ⟨⟨p, l, e, R, s⟩, ⟨m, args, below, meth, c⟩, ⟨D, dA, A0, nL, Q⟩⟩ := Y
  obtain ⟨hx, hb, hml, hown, hts, hK, hA, hRm, -⟩ := Cx
  subst hRm
  obtain ⟨⟨a0, n0, f⟩, hq0, hu⟩ := ob hv
  clear hv
  have hv := hu
  clear hu
  obtain ⟨⟨a, n1, g⟩, hq1, hu⟩ := ob hv
  clear hv
  have hv := hu
  clear hu
  obtain ⟨rfl, hst0⟩ := gAI_spec hq0
  obtain ⟨rfl, hst1⟩ := gAI_spec hq1
  dsimp only at hv hst0 hst1
  split at hv
  · rename_i hin
    obtain ⟨h1, h2, h3, h4, h5⟩ := hin
    cases hv
    have nn : ∀ z : Int32, ¬ z < 0 → z.toInt = (z.toNatClampNeg : Int) := by
      intro z hz
      have hz0 : (0 : Int) ≤ z.toInt := by
        have := Int32.not_lt.mp hz
        simpa using Int32.le_iff_toInt_le.mp this
      show z.toInt = ((z.toInt.toNat : Nat) : Int)
      omega
    intro H locs ls ⟨hR, hsz, hdom, hva⟩ hl T hT X
    have hc0 : H[a0]? = some (vp_cell (dA 0) (n0, .inl f)) := hR _ _ hst0
    have hc1 : H[a]? = some (vp_cell (dA 0) (n1, .inl g)) := hR _ _ hst1
    obtain ⟨-, k0, hk0, cm0, hkk0⟩ := (hK.2 0 (dA 0, .int) rfl).1 n0 (fun j => .int (f j))
    obtain ⟨-, k1, hk1, cm1, hkk1⟩ := (hK.2 0 (dA 0, .int) rfl).1 n1 (fun j => .int (g j))
    obtain ⟨vm', X', step⟩ := X.arraycopy hx hown (hts _ w1) (hts _ w2) (hts _ w3) (hts _ w4) (src := a0) (dst := a) (cs := vp_cell (dA 0) (n0, .inl f)) (cd := vp_cell (dA 0) (n1, .inl g)) (srcPos := sp) (destPos := dp) (n := n) (by rw [hT]; exact hc0) (by rw [hT]; exact hc1)
      (fun _ h => by cases h) (fun _ h => by cases h) (fun h => by cases h) (fun h => by cases h) hk0 hk1 hkk0 hkk1 (by simp [refKind]) h1 h2 h3
      (by rw [nn sp h1, nn n h3, vp_cell_i, arrV_size]; omega)
      (by rw [nn dp h2, nn n h3, vp_cell_i, arrV_size]; omega)
      (fun vm₁ _ i hi => by
        have e : (vp_cell (dA 0) (n0, .inl f)).slots.getD (sp.toNatClampNeg + i) .null = .int (f (sp.toNatClampNeg + i)) := by
          show (arrV (dA 0) n0 (fun j => .int (f j))).slots.getD _ _ = _
          rw [Array.getD_eq_getD_getElem?, arrV_read _ _ (by omega)]
          rfl
        refine ⟨?_, ?_⟩
        · rw [e]
          rfl
        · rw [e]
          exact trivial)
      (g := F0 m pc ls (.int n :: .int dp :: .ref a :: .int sp :: .ref a0 :: stk.map dm_v)) rfl (by rw [hml]; exact hl.1) (rest := stk.map dm_v) rfl (by rw [hb]; exact hd) hr.1 (by rw [dm_cat_sum]; show 2 * 0 + _ + _ ≤ _; omega)
    have e1 : copied (vp_cell (dA 0) (n0, .inl f)) (vp_cell (dA 0) (n1, .inl g)) sp dp n = vp_cell (dA 0) (n1, .inl (va_cpy f g sp.toNatClampNeg dp.toNatClampNeg n.toNatClampNeg)) := va_copied (fun z => .int z) (dA 0) (dA 0) f g h4
    rw [e1] at X' step
    have hla : a < H.size := (Array.getElem?_eq_some_iff.mp hc1).1
    have hheap : ((T.setVm vm').setCell a (vp_cell (dA 0) (n1, .inl (va_cpy f g sp.toNatClampNeg dp.toNatClampNeg n.toNatClampNeg)))).heap = H.setIfInBounds a (vp_cell (dA 0) (n1, .inl (va_cpy f g sp.toNatClampNeg dp.toNatClampNeg n.toNatClampNeg))) := by rw [← hT]; rfl
    have oq : ∀ q : Nat, q ≠ a → (H.setIfInBounds a (vp_cell (dA 0) (n1, .inl (va_cpy f g sp.toNatClampNeg dp.toNatClampNeg n.toNatClampNeg))))[q]? = H[q]? := fun q hq => by simp [Array.getElem?_setIfInBounds, Ne.symm hq]
    have hz : (H.setIfInBounds a (vp_cell (dA 0) (n1, .inl (va_cpy f g sp.toNatClampNeg dp.toNatClampNeg n.toNatClampNeg)))).size = H.size := by simp
    obtain ⟨t, b1, b2⟩ := kk _ _ ls ⟨hR.put (e := .inl (0, (n1, .inl (va_cpy f g sp.toNatClampNeg dp.toNatClampNeg n.toNatClampNeg)))) oq (show (H.setIfInBounds a _)[a]? = some _ by simp [Array.getElem?_setIfInBounds, hla]), hz.trans hsz, dm_up_dom hdom (hdom _ _ hst1), ⟨by rw [hz]; exact hva.1, fun q g1 g2 => by
        rw [oq q (fun e => g2 (by rw [e]; exact hdom _ _ hst1))]
        exact hva.2.1 q g1 g2, fun q hq => by
        rcases List.mem_append.mp hq with h | h
        · exact hva.2.2 q h
        · obtain ⟨z, -, hz⟩ := List.mem_map.mp h
          rw [← hz]
          exact hdom _ _ hst1⟩⟩ hl _ hheap X'
    exact ⟨t, step t b1, b2⟩
  · cases hv
/-! arrays of arrays of ints, lengths that are counted, clone -/
theorem r_aaloadA {r x : Option Nat} {i : Int32} {kd : Nat} {t : FieldType} (ht : ∀ dA : Nat → ClassId, (dm_tys dA)[kd]? = some (dA kd, .array t)) (Cx : dm_C Y cc own rm) (hd : decode cc pc = .ok (.aaload, 1)) (hv : aR st r kd i = some x) (kk : dm_W Y cs ss st (pc + 1) lv (DR x :: stk)) : dm_W Y cs ss st pc lv (DI i :: DR r :: stk) := by
  obtain ⟨⟨p, l, e, R, s⟩, ⟨m, args, below, meth, c⟩, ⟨D, dA, A0, nL, Q⟩⟩ := Y
  obtain ⟨hx, hb, hml, hown, hts, hK, -⟩ := Cx
  obtain ⟨⟨a, n, f⟩, hq, hu⟩ := ob hv
  clear hv
  have hv := hu
  clear hu
  obtain ⟨rfl, hst⟩ := gAR_spec hq
  dsimp only at hv hst
  split at hv
  · rename_i hin
    cases hv
    intro H locs ls hS hl
    have hlt : i.toNatClampNeg < n := Nat.not_le.mp fun q => inA_in hin (Or.inr q)
    exact W.aald (v := va_rf (f i.toNatClampNeg)) (ty := .array t) hx hb (hS.1 _ _ hst) ((hK.2 kd _ (ht dA)).1 n (fun j => va_rf (f j))) rfl (fun q => by cases q) (dm_sin (vp_cell_q _ _ _) (inA_in hin)) (by show (arrV _ _ _).slots[_]? = _; rw [arrV_read _ _ hlt]) rfl rfl hd (kk H locs ls hS hl)
  · cases hv
theorem r_aastoreA {r v : Option Nat} {i : Int32} (Cx : dm_C Y cc own rm) (hd : decode cc pc = .ok (.aastore, 1)) (hv : sRA st r 6 i v = some st1) (kk : dm_W Y cs ss st1 (pc + 1) lv stk) : dm_W Y cs ss st pc lv (DR v :: DI i :: DR r :: stk) := by
  obtain ⟨⟨p, l, e, R, s⟩, ⟨m, args, below, meth, c⟩, ⟨D, dA, A0, nL, Q⟩⟩ := Y
  obtain ⟨hx, hb, hml, hown, hts, hK, hA, hRm, hl0, hEv⟩ := Cx
  obtain ⟨⟨a, n, f⟩, hq, hu⟩ := ob hv
  clear hv
  obtain ⟨⟨b, n2, g⟩, hq2, hv⟩ := ob hu
  clear hu
  obtain ⟨rfl, hst⟩ := gAR_spec hq
  obtain ⟨rfl, hst2⟩ := gAI_spec hq2
  dsimp only at hv hst hst2
  split at hv
  · rename_i hin
    cases hv
    intro H locs ls ⟨hR, hsz, hdom, hva⟩ hl
    have hca : H[a]? = some (vp_cell (dA 6) (n, .inr (.inr (.inr (.inr f))))) := hR _ _ hst
    have hcb : H[b]? = some (vp_cell (dA 0) (n2, .inl g)) := hR _ _ hst2
    have hvi := inA_in hin
    have hlt : i.toNatClampNeg < n := Nat.not_le.mp fun q => hvi (Or.inr q)
    have h0 : ¬ i < 0 := fun q => hvi (Or.inl q)
    obtain ⟨comp, c9, kA, g1, -, g3, g4, g5⟩ := dm_AOA_spec hEv.2.2.2.2.2.1.2
    have e6 : s.vm.findClass ("[" ++ (FieldType.array .int).toString) = some (dA 6) := (hK.2 6 (dA 6, .array .int) rfl).2
    have e0 : s.vm.findClass ("[" ++ FieldType.int.toString) = some (dA 0) := (hK.2 0 (dA 0, .int) rfl).2
    have hc9 : c9 = dA 6 := Option.some.inj (g5.symm.trans e6)
    have hcomp : comp = dA 0 := by
      have g1' : s.vm.findClass ("[" ++ FieldType.int.toString) = some comp := g1
      exact Option.some.inj (g1'.symm.trans e0)
    subst hc9
    subst hcomp
    obtain ⟨-, k0, hk0, -⟩ := (hK.2 0 (dA 0, .int) rfl).1 n2 (fun j => .int (g j))
    refine W.aast hx hb hca (fun q h => by cases h) (fun h => by cases h) (k := kA) (kv := k0) (kcomp := k0) g3 g4 rfl hk0 ⟨h0, by rw [vp_cell_q, arrV_size]; exact hlt⟩ hcb (fun q h => by cases h) hk0 (va_asg _ _) rfl rfl hd fun H1 e1 z oq => ?_
    exact kk H1 _ ls ⟨hR.put oq (dm_cellq (v := some b) e1), z.trans hsz, dm_up_dom hdom (hdom _ _ hst), hva.put z oq (hdom _ _ hst)⟩ hl
  · cases hv
theorem r_newqV {E : String} {kd cap idx : Nat} {n : Int32} (ht : ∀ dA : Nat → ClassId, (dm_tys dA)[kd]? = some (dA kd, .object E)) (Cx : dm_C Y cc own rm) (hE : E ∈ dm_arr) (w1 : Cond.classLink own idx E ∈ WALL) (hb0 : cap ≤ 100) (hc : cs + 1 ≤ rm.cells ∧ ss + cap ≤ rm.slots) (hd : decode cc pc = .ok (.anewarray idx, 3)) (hv : nQ st n cap kd = some st1) (kk : dm_W Y (cs + 1) (ss + cap) st1 (pc + 3) lv (DR (some st.1) :: stk)) : dm_W Y cs ss st pc lv (DI n :: stk) := by
  unfold nQ at hv
  split at hv
  · rename_i hin
    cases hv
    exact r_newq ht Cx hE w1 hin.1 rfl (by omega) ⟨hc.1, by omega⟩ hd (dm_widen (Nat.le_refl _) (by omega) kk)
  · cases hv
theorem r_newqA {cap idx : Nat} {n : Int32} (Cx : dm_C Y cc own rm) (w1 : Cond.classLink own idx "[I" ∈ WALL) (hb0 : cap ≤ 100) (hc : cs + 1 ≤ rm.cells ∧ ss + cap ≤ rm.slots) (hd : decode cc pc = .ok (.anewarray idx, 3)) (hv : nQ st n cap 6 = some st1) (kk : dm_W Y (cs + 1) (ss + cap) st1 (pc + 3) lv (DR (some st.1) :: stk)) : dm_W Y cs ss st pc lv (DI n :: stk) := by
  unfold nQ at hv
  split at hv
  · rename_i hin
    cases hv
    replace kk := dm_widen (Nat.le_refl _) (show ss + n.toNatClampNeg ≤ ss + cap by omega) kk
    obtain ⟨⟨p, l, e, R, s⟩, ⟨m, args, below, meth, c⟩, ⟨D, dA, A0, nL, Q⟩⟩ := Y
    obtain ⟨hx, hb, hml, hown, hts, hK, hA, hRm, hl0, hEv⟩ := Cx
    subst hRm
    intro H locs ls ⟨hR, hsz, hdom, hva⟩ hl
    refine W.anewA (t := .int) hx hb hown (hts _ w1) hEv.2.2.2.2.2.1.2 rfl hd rfl hin.1 (by omega) hc.1 (by omega) fun cA kA comp f1 f2 f3 f4 => ?_
    generalize hH1 : H.push ({ cls := cA, slots := Array.replicate n.toNatClampNeg .null, vm := .none } : Cell) = H1
    have z1 : H1.size = H.size + 1 := by rw [← hH1, Array.size_push]
    have e1 : H1[H.size]? = some (arrV cA n.toNatClampNeg (fun _ => .null)) := by rw [← hH1, Array.getElem?_push_size, ← arrV_new]
    have o1 : ∀ q : Nat, q < H.size → H1[q]? = H[q]? := fun q hq => by rw [← hH1, Array.getElem?_push, if_neg (Nat.ne_of_lt hq)]
    have hcA : cA = dA 6 := Option.some.inj (f1.symm.trans (hK.2 6 (dA 6, .array .int) rfl).2)
    subst hcA
    have hnew : va_at D vwCl (H.size, dm_cel dA (.inl (6, nR0 n.toNatClampNeg))) H1 := by
      show H1[H.size]? = some (vp_cell (dA 6) (nR0 n.toNatClampNeg))
      unfold nR0
      rw [vp_cell_q]
      exact e1
    have hS1 : va_S A0 s.heap H1 locs := ⟨Nat.le_trans hva.1 (by omega), fun x h1 h2 => (o1 x (Nat.lt_of_lt_of_le h1 hva.1)).trans (hva.2.1 x h1 h2), hva.2.2⟩
    have h3 := hR.new o1 (e := .inl (6, nR0 n.toNatClampNeg)) hnew
    rw [hsz] at h3 ⊢
    exact kk H1 _ ls ⟨h3, by rw [z1, hsz]; rfl, dm_up_dom hdom (hA _ (by rw [← hsz]; exact hva.1)), hS1⟩ hl
  · cases hv
theorem r_castAI {r : Option Nat} {idx : Nat} {u : Unit} (Cx : dm_C Y cc own rm) (w1 : Cond.classLink own idx "[I" ∈ WALL) (hd : decode cc pc = .ok (.checkcast idx, 3)) (hv : isAI st r = some u) (kk : dm_W Y cs ss st (pc + 3) lv (DR r :: stk)) : dm_W Y cs ss st pc lv (DR r :: stk) := by
  obtain ⟨⟨p, l, e, R, s⟩, ⟨m, args, below, meth, c⟩, ⟨D, dA, A0, nL, Q⟩⟩ := Y
  obtain ⟨hx, hb, hml, hown, hts, hK, -⟩ := Cx
  obtain ⟨⟨a, n, f⟩, hq, -⟩ := ob hv
  obtain ⟨rfl, hst⟩ := gAI_spec hq
  intro H locs ls hS hl
  have e0 : s.vm.findClass ("[" ++ FieldType.int.toString) = some (dA 0) := (hK.2 0 (dA 0, .int) rfl).2
  have e1 : s.vm.findClass "[I" = some (dA 0) := by
    have e : "[" ++ FieldType.int.toString = "[I" := by decide +kernel
    rw [← e]
    exact e0
  exact va_castA hx hb hown (hts _ w1) (dm_P1 (hS.1 _ _ hst)) 0 (cA := dA 0) (x := (n, .inl f)) rfl e1 hd (kk H locs ls hS hl)
set_option maxHeartbeats 1000000 in
theorem r_cloneI {r : Option Nat} {idx cap : Nat} (Cx : dm_C Y cc own rm) (w1 : Cond.methodLink own idx ⟨"[I", "clone", "()Ljava/lang/Object;"⟩ ∈ WALL) (w2 : Cond.sameMethod "[I" "java/lang/Object" "clone" "()Ljava/lang/Object;" ∈ WALL) (w3 : Cond.native ⟨"java/lang/Object", "clone", "()Ljava/lang/Object;"⟩ ∈ WALL) (w4 : Cond.instanceMethod ⟨"java/lang/Object", "clone", "()Ljava/lang/Object;"⟩ ∈ WALL) (w5 : Cond.selects "[I" ⟨"[I", "clone", "()Ljava/lang/Object;"⟩ ⟨"java/lang/Object", "clone", "()Ljava/lang/Object;"⟩ ∈ WALL) (hca : ("[I", "java/lang/Cloneable") ∈ dm_cas) (hr : 1 ≤ rm.frames ∧ (stk.map dm_cat).sum + 14 ≤ rm.locals) (hc : cs + 1 ≤ rm.cells ∧ ss + cap ≤ rm.slots) (hd : decode cc pc = .ok (.invokevirtual idx, 3)) (hv : clI st r cap = some st1) (kk : dm_W Y (cs + 1) (ss + cap) st1 (pc + 3) lv (DR (some st.1) :: stk)) : dm_W Y cs ss st pc lv (DR r :: stk) := by
  obtain ⟨⟨a, n, f⟩, hq, hu⟩ := ob hv
  clear hv
  obtain ⟨rfl, hst⟩ := gAI_spec hq
  dsimp only at hu hst
  split at hu
  · rename_i hn
    cases hu
    replace kk := dm_widen (Nat.le_refl _) (show ss + n ≤ ss + cap by omega) kk
    obtain ⟨⟨p, l, e, R, s⟩, ⟨m, args, below, meth, c⟩, ⟨D, dA, A0, nL, Q⟩⟩ := Y
    obtain ⟨hx, hb, hml, hown, hts, hK, hA, hRm, hl0, hEv⟩ := Cx
    subst hRm
    intro H locs ls ⟨hR, hsz, hdom, hva⟩ hl
    have hcell : H[a]? = some (vp_cell (dA 0) (n, .inl f)) := hR _ _ hst
    have e0 : s.vm.findClass ("[" ++ FieldType.int.toString) = some (dA 0) := (hK.2 0 (dA 0, .int) rfl).2
    have e1 : s.vm.findClass "[I" = some (dA 0) := by
      have e : "[" ++ FieldType.int.toString = "[I" := by decide +kernel
      rw [← e]
      exact e0
    obtain ⟨c0, t0', f1, f2, f3⟩ := Cond.castable_spec (va_Nw.use (A := args) rfl (hEv.2.2.2.1 _ hca))
    cases e1.symm.trans f1
    intro T hT X
    have hcellT : T.heap[a]? = some (vp_cell (dA 0) (n, .inl f)) := by rw [hT]; exact hcell
    obtain ⟨-, kA, hkA, comp, hkind⟩ := State.isArrayOf_alike X.warmed.alike ((hK.2 0 (dA 0, .int) rfl).1 0 (fun _ => .null))
    obtain ⟨-, kS, hkS, compS, hkindS⟩ := (hK.2 0 (dA 0, .int) rfl).1 0 (fun _ => .null)
    obtain ⟨vm', X', stp⟩ := X.cloneArray hx hown (hts _ w1) (hts _ w2) (hts _ w3) (hts _ w4) (hts _ w5) (a := a) (cell := vp_cell (dA 0) (n, .inl f)) hcellT (fun k h => by cases h) (fun h => by cases h) e1 f2 f3
      (fun i v hv => by
        have hk' : T.vm.classes[(vp_cell (dA 0) (n, .inl f)).cls]? = some kA := hkA
        have hfit : fits .int v = true := va_fit (F := fun j => .int (f j)) (fun i _ => rfl) i v hv
        simpa [State.fitsSlot, State.slotType?, hk', hkind] using hfit)
      (g := F0 m pc ls (.ref a :: stk.map dm_v)) rfl (by rw [hml]; exact hl.1) rfl (by rw [hb]; exact hd) hr.1 (by rw [dm_cat_sum]; show 2 * 0 + _ + 14 ≤ _; omega) hc.1 (by rw [vp_cell_i, arrV_size]; omega) (hloader := Vm.clonesLoader_of_array hkS hkindS)
    generalize hH1 : H.push (vp_cell (dA 0) (n, .inl f)) = H1
    have z1 : H1.size = H.size + 1 := by rw [← hH1, Array.size_push]
    have e9 : H1[H.size]? = some (vp_cell (dA 0) (n, .inl f)) := by rw [← hH1, Array.getElem?_push_size]
    have o1 : ∀ q : Nat, q < H.size → H1[q]? = H[q]? := fun q hq => by rw [← hH1, Array.getElem?_push, if_neg (Nat.ne_of_lt hq)]
    have hS1 : va_S A0 s.heap H1 locs := ⟨Nat.le_trans hva.1 (by omega), fun x h1 h2 => (o1 x (Nat.lt_of_lt_of_le h1 hva.1)).trans (hva.2.1 x h1 h2), hva.2.2⟩
    have h3 := hR.new o1 (e := .inl (0, (n, .inl f))) e9
    have hcellE : ({ cls := (vp_cell (dA 0) (n, .inl f)).cls, slots := (vp_cell (dA 0) (n, .inl f)).slots } : Cell) = vp_cell (dA 0) (n, .inl f) := rfl
    rw [hcellE, show (vp_cell (dA 0) (n, .inl f)).slots.size = n from arrV_size _ _ _] at X'
    rw [hcellE] at stp
    have hsz' := hsz
    rw [hsz] at h3
    obtain ⟨t, b1, b2⟩ := kk H1 locs ls ⟨h3, by rw [z1, hsz]; rfl, dm_up_dom hdom (hA _ (by rw [← hsz]; exact hva.1)), hS1⟩ hl ((T.setVm vm').pushCell (vp_cell (dA 0) (n, .inl f))) (by rw [← hH1, ← hT]; rfl) X'
    refine ⟨t, stp t ?_, b2⟩
    rw [hT, hsz]
    exact b1
  · cases hu
end DHEAP
