/-! ends, starts and calls, said over dm_W -/
def dm_args : Nat → List DV → List (Nat × DV)
  | _, [] => []
  | k, a :: l => (k, a) :: dm_args (if dm_cat a = 2 then k + 2 else k + 1) l
theorem dm_args_lv (avs : List DV) : ∀ k, lv_args k (avs.map dm_v) = dm_lv (dm_args k avs) := by
  induction avs with
  | nil => intro k; rfl
  | cons a l ih =>
    intro k
    show (k, dm_v a) :: lv_args (if (dm_v a).category = 2 then k + 2 else k + 1) (l.map dm_v) = (k, dm_v a) :: dm_lv (dm_args (if dm_cat a = 2 then k + 2 else k + 1) l)
    rw [dm_cat_ok, ih]
theorem dm_args_len (avs : List DV) : (lg_sl (avs.map dm_v)).length = (avs.map dm_cat).sum := by
  induction avs with
  | nil => rfl
  | cons a l ih =>
    have h : lg_sl ((a :: l).map dm_v) = (if (dm_v a).category = 2 then [.val (dm_v a), .second] else [.val (dm_v a)]) ++ lg_sl (l.map dm_v) := rfl
    rw [h, List.length_append, ih, List.map_cons, List.sum_cons, dm_cat_ok]
    rcases a with x | x | x | x <;> rfl
theorem dm_blind {D : va_G} {dA : Nat → ClassId} {avs : List DV} {st : DSt} : FrameBlind (dm_Pc D dA avs st) := fun a U g mk h => by
  obtain ⟨h1, h2, h3, h4, h5⟩ := h
  exact ⟨h1, h2, h3, va_K.moved (u := U) (U := U.calling g mk a) (Vm.Alike.refl U.vm) h4, dm_Ev.same (U := U) (V := U.calling g mk a) h5 rfl⟩
theorem dm_Asub {D : va_G} {dA : Nat → ClassId} {A0 : Nat → Prop} {H0 H : Heap} {st : DSt} {locs : List Loc} (hA : ∀ q, H0.size ≤ q → A0 q) (hS : dm_S D dA A0 H0 st H locs) : ∀ q, dm_A st q → A0 q := fun q h => by
  obtain ⟨hR, hsz, hdom, hva⟩ := hS
  rcases h with ⟨e, he⟩ | h
  · exact hdom q e he
  · exact hA q (Nat.le_trans hva.1 (by rw [hsz]; exact h))
theorem dm_pre {D : va_G} {dA : Nat → ClassId} {A0 : Nat → Prop} {s : State} {H : Heap} {st : DSt} {locs : List Loc} {avs : List DV} (hA : ∀ q, s.heap.size ≤ q → A0 q) (hK : va_K D vwCl (dm_tys dA) s) (hEv : dm_Ev A0 s s.heap) (hS : dm_S D dA A0 s.heap st H locs) : ∀ U : State, U.heap = H → s.WarmedH U.vm → dm_Pc D dA avs st (avs.map dm_v).toArray U := fun U hU hW => by
  subst hU
  exact ⟨rfl, hS.1, hS.2.1, hK.moved hW.alike, hEv.warm hW hS.2.2.2 (dm_Asub hA hS)⟩
section DCALL
variable {p : Program} {l : Launch} {e : Env} {R : Room} {s : State} {m : MethodId} {args : Array Value} {below : List Frame} {meth : Method} {c : Code} {H : Heap} {locs : List Loc} {cells slots : Nat} {Q : State → Prop}
variable {pc : Nat} {ls : Array Slot} {rest st0 : List Value} {a : Array Value} {A0 A1 : Nat → Prop} {mc ms : Nat} {free : Addr → Prop} {D : va_G} {dA : Nat → ClassId} {st : DSt}
theorem dm_cont {Fin : Option DV → DSt → Prop} (hr : va_Run p l e R s m args below meth c H locs cells slots mc ms (F0 m pc ls st0) rest (dm_Qc Fin D dA A1 a) free) (hS : dm_S D dA A0 s.heap st H locs) (hA : ∀ q, A1 q → A0 q) (hf : ∀ q, free q → A0 q)
    (kk : ∀ (rv : Option DV) (u : DSt) (H1 : Heap) (locs1 : List Loc), Fin rv u → dm_S D dA A0 s.heap u H1 locs1 → W p l e R s m args below meth c H1 locs1 (cells + mc) (slots + ms) Q (F0 m (pc + 3) ls ((rv.map dm_v).toList ++ rest))) : W p l e R s m args below meth c H locs cells slots Q (F0 m pc ls st0) := by
  intro T hT X
  obtain ⟨v, st₀, t, T', L, h0, X', hL, e1, e2, ⟨⟨rv, u, hv, hp, hb1, hb2, hb3⟩, hz, hk⟩, st9⟩ := hr T hT X
  cases hv
  rw [h0] at hz hk
  have hva := hS.2.2.2
  rw [← e1] at hb1 hb2 hz hk
  obtain ⟨t2, a1, b1⟩ := kk rv u T'.heap (locs ++ L) hp ⟨hb1, hb2, fun q e he => hA q (hb3 q e he), Nat.le_trans hva.1 hz, fun q h1 h2 => by rw [hk q (Nat.lt_of_lt_of_le h1 hva.1) (fun z => h2 (hA q z))]; exact hva.2.1 q h1 h2, fun q hq => by
      rcases List.mem_append.mp hq with h | h
      · exact hva.2.2 q h
      · exact hf _ (hL q h)⟩ T' rfl X'
  exact ⟨t2, st9 t2 a1, b1⟩
theorem dm_contX {Fin : Option DV → DSt → Prop} {FinX : String → DHp → Prop} (hr : vx_Run p l e R s m args below meth c H locs cells slots mc ms (F0 m pc ls st0) rest (dm_Qc Fin D dA A1 a) (dm_XC FinX D dA A1) free) (hS : dm_S D dA A0 s.heap st H locs) (hA : ∀ q, A1 q → A0 q) (hf : ∀ q, free q → A0 q)
    (kx : ∀ (E : String) (h : DHp) (ce : Cell) (q9 : Addr) (H1 : Heap) (locs1 : List Loc), FinX E h → dm_S D dA A0 s.heap (H1.size, h) H1 locs1 → H1[q9]? = some ce → ce.vm = .none → s.vm.findClass E = some ce.cls → vx_W p l e R s m args below meth c H1 locs1 (cells + mc) (slots + ms) Q (F0 m pc ls rest) q9)
    (kk : ∀ (rv : Option DV) (u : DSt) (H1 : Heap) (locs1 : List Loc), Fin rv u → dm_S D dA A0 s.heap u H1 locs1 → W p l e R s m args below meth c H1 locs1 (cells + mc) (slots + ms) Q (F0 m (pc + 3) ls ((rv.map dm_v).toList ++ rest))) : W p l e R s m args below meth c H locs cells slots Q (F0 m pc ls st0) := by
  intro T hT X
  have hva := hS.2.2.2
  rcases hr T hT X with ⟨v, st₀, t, T', L, h0, X', hL, e1, e2, ⟨⟨rv, u, hv, hp, hb1, hb2, hb3⟩, hz, hk⟩, st9⟩ | ⟨q, st₀, t, T', L, E, ce, h0, X', hL, e1, e2, ⟨⟨hh, hp, hb1, hb3⟩, hz, hk⟩, hce, hcv, hcl, st9⟩
  · cases hv
    rw [h0] at hz hk
    rw [← e1] at hb1 hb2 hz hk
    obtain ⟨t2, a1, b1⟩ := kk rv u T'.heap (locs ++ L) hp ⟨hb1, hb2, fun q e he => hA q (hb3 q e he), Nat.le_trans hva.1 hz, fun q h1 h2 => by rw [hk q (Nat.lt_of_lt_of_le h1 hva.1) (fun z => h2 (hA q z))]; exact hva.2.1 q h1 h2, fun q hq => by
        rcases List.mem_append.mp hq with h | h
        · exact hva.2.2 q h
        · exact hf _ (hL q h)⟩ T' rfl X'
    exact ⟨t2, st9 t2 a1, b1⟩
  · rw [h0] at hz hk
    rw [← e1] at hb1 hz hk hce
    obtain ⟨t2, a1, b1⟩ := kx E hh ce q T'.heap (locs ++ L) hp ⟨hb1, rfl, fun q e he => hA q (hb3 q e he), Nat.le_trans hva.1 hz, fun q h1 h2 => by rw [hk q (Nat.lt_of_lt_of_le h1 hva.1) (fun z => h2 (hA q z))]; exact hva.2.1 q h1 h2, fun q hq => by
        rcases List.mem_append.mp hq with h | h
        · exact hva.2.2 q h
        · exact hf _ (hL q h)⟩ hce hcv hcl T' rfl X'
    exact ⟨t2, st9.trans a1, b1⟩
end DCALL
/-- what is known of a method by its name: decided once -/
def dm_md (y : MethodName) (n : Nat) : Prop := y.cls ≠ "java/lang/invoke/MethodHandle" ∧ y.cls ≠ "java/lang/invoke/VarHandle" ∧ (parseMethodDescriptor y.desc).map (fun d => d.parameters.length) = some n
section DRUN
variable {Y : DY} {cc : ByteArray} {own : String} {rm : Room} {cs ss pc : Nat} {st st1 : DSt} {lv : List (Nat × DV)} {stk stk' rest : List DV}
variable {y : MethodName} {cy : ByteArray} {maxL mc ms n idx : Nat} {ret : Option FieldType} {rmy : Room} {rv : Option DV} {r : DRes} {As : List DV} {b : Nat} {ci : Nat} {C : String} {T : u_T} {N : Nat} {ro : Option Nat}
theorem dm_pret {rv' : Option DV} {ls : List DV} (h : rv.toList ++ rest = stk') (e : rv' = rv) : (rv'.map dm_v).toList ++ rest.map dm_v = stk'.map dm_v := by
  subst e; subst h
  cases rv' <;> rfl
theorem r_callV (hM : dm_K1 y cy maxL ret rmy mc ms (DR (some b) :: As) st rv st1) (hb : oR st ro ci = some b) (hc : vwCl[ci]? = some (y.cls, T, N)) (Cx : dm_C Y cc own rm) (w1 : Cond.methodLink own idx y ∈ WALL) (w2 : Cond.instanceMethod y ∈ WALL) (w3 : Cond.selects y.cls y y ∈ WALL) (w4 : Cond.code y cy maxL ret ∈ WALL) (w5 : Cond.initialized y.cls ∈ WALL) (hd0 : dm_md y n) (hn : As.length = n) (hrm : rmy.cells = mc ∧ rmy.slots = ms ∧ rmy.frames + 1 ≤ rm.frames ∧ 8 + (maxL + 11) + rmy.locals ≤ rm.locals ∧ cs + mc ≤ rm.cells ∧ ss + ms ≤ rm.slots) (hd : decode cc pc = .ok (.invokevirtual idx, 3)) (hs : stk = As.reverse ++ DR ro :: rest) (h8 : (rest.map dm_cat).sum ≤ 8) (hs' : rv.toList ++ rest = stk') (kk : dm_W Y (cs + mc) (ss + ms) st1 (pc + 3) lv stk') : dm_W Y cs ss st pc lv stk := by
  obtain ⟨⟨p, l, e, R, s⟩, ⟨m, args, below, meth, c⟩, ⟨D, dA, A0, nL, Q⟩⟩ := Y
  obtain ⟨hx, hbb, hml, hown, hts, hK, hA, hRm, hl0, hEv⟩ := Cx
  subst hRm
  obtain ⟨h1, h2, h3, h4, h5, h6⟩ := hrm
  obtain ⟨⟨b', fs⟩, hg, hb'⟩ := ob hb
  cases hb'
  obtain ⟨rfl, hst⟩ := gO_spec hg
  dsimp only at hM hst
  intro H locs ls hS hl
  have hAs := dm_Asub hA hS
  refine dm_cont (va_runV (As := As.map dm_v) (rest := rest.map dm_v) (n := n) (C := y.cls) (index := idx) ⟨hx, hbb, hml, hown, hts⟩ (hM l D dA hl0) ⟨callB_of n hts (wall_cons w4) rfl h1 h2 (hts _ w5) (hts _ w1) hd0 ⟨h3, h4⟩, hts _ w2, hts _ w3⟩ ⟨dm_blind, va_recv hK (dm_P1 (hS.1 _ _ hst)) (q0 := 0) hc rfl, dm_pre hA hK hEv hS⟩ rfl (by rw [List.length_map]; exact hn) hl.1 ?_ (lv_room (by rw [dm_cat_sum]; exact h8)) hd ⟨h5, h6⟩) hS hAs hAs fun rv' u H1 locs1 hF hS1 => ?_
  · show stk.map dm_v = _
    rw [hs, List.map_append, List.map_reverse]
    rfl
  · obtain ⟨e1, rfl⟩ := hF
    rw [dm_pret (ls := []) hs' e1]
    exact kk H1 locs1 ls hS1 hl
theorem r_callS (hM : dm_K1 y cy maxL ret rmy mc ms As st rv st1) (Cx : dm_C Y cc own rm) (w1 : Cond.methodLink own idx y ∈ WALL) (w2 : Cond.static y ∈ WALL) (w4 : Cond.code y cy maxL ret ∈ WALL) (w5 : Cond.initialized y.cls ∈ WALL) (hd0 : dm_md y n) (hn : As.length = n) (hrm : rmy.cells = mc ∧ rmy.slots = ms ∧ rmy.frames + 1 ≤ rm.frames ∧ 8 + (maxL + 11) + rmy.locals ≤ rm.locals ∧ cs + mc ≤ rm.cells ∧ ss + ms ≤ rm.slots) (hd : decode cc pc = .ok (.invokestatic idx, 3)) (hs : stk = As.reverse ++ rest) (h8 : (rest.map dm_cat).sum ≤ 8) (hs' : rv.toList ++ rest = stk') (kk : dm_W Y (cs + mc) (ss + ms) st1 (pc + 3) lv stk') : dm_W Y cs ss st pc lv stk := by
  obtain ⟨⟨p, l, e, R, s⟩, ⟨m, args, below, meth, c⟩, ⟨D, dA, A0, nL, Q⟩⟩ := Y
  obtain ⟨hx, hbb, hml, hown, hts, hK, hA, hRm, hl0, hEv⟩ := Cx
  subst hRm
  obtain ⟨h1, h2, h3, h4, h5, h6⟩ := hrm
  intro H locs ls hS hl
  have hAs := dm_Asub hA hS
  refine dm_cont (va_runS (As := As.map dm_v) (rest := rest.map dm_v) (n := n) (index := idx) ⟨hx, hbb, hml, hown, hts⟩ (hM l D dA hl0) ⟨callB_of n hts (wall_cons w4) rfl h1 h2 (hts _ w5) (hts _ w1) hd0 ⟨h3, h4⟩, hts _ w2⟩ ⟨dm_blind, dm_pre hA hK hEv hS⟩ rfl (by rw [List.length_map]; exact hn) hl.1 ?_ (lv_room (by rw [dm_cat_sum]; exact h8)) hd ⟨h5, h6⟩) hS hAs hAs fun rv' u H1 locs1 hF hS1 => ?_
  · show stk.map dm_v = _
    rw [hs, List.map_append, List.map_reverse]
  · obtain ⟨e1, rfl⟩ := hF
    rw [dm_pret (ls := []) hs' e1]
    exact kk H1 locs1 ls hS1 hl
theorem r_callI (hM : dm_K1 y cy maxL none rmy mc ms (DR (some b) :: As) st rv st1) (Cx : dm_C Y cc own rm) (w1 : Cond.methodLink own idx y ∈ WALL) (w2 : Cond.instanceMethod y ∈ WALL) (hy1 : y.name = "<init>") (w4 : Cond.code y cy maxL none ∈ WALL) (w5 : Cond.initialized y.cls ∈ WALL) (hd0 : dm_md y n) (hn : As.length = n) (hrm : rmy.cells = mc ∧ rmy.slots = ms ∧ rmy.frames + 1 ≤ rm.frames ∧ 8 + (maxL + 11) + rmy.locals ≤ rm.locals ∧ cs + mc ≤ rm.cells ∧ ss + ms ≤ rm.slots) (hd : decode cc pc = .ok (.invokespecial idx, 3)) (hs : stk = As.reverse ++ DR (some b) :: rest) (h8 : (rest.map dm_cat).sum ≤ 8) (hs' : rv.toList ++ rest = stk') (kk : dm_W Y (cs + mc) (ss + ms) st1 (pc + 3) lv stk') : dm_W Y cs ss st pc lv stk := by
  obtain ⟨⟨p, l, e, R, s⟩, ⟨m, args, below, meth, c⟩, ⟨D, dA, A0, nL, Q⟩⟩ := Y
  obtain ⟨hx, hbb, hml, hown, hts, hK, hA, hRm, hl0, hEv⟩ := Cx
  subst hRm
  obtain ⟨h1, h2, h3, h4, h5, h6⟩ := hrm
  intro H locs ls hS hl
  have hAs := dm_Asub hA hS
  refine dm_cont (va_runI (b := b) (As := As.map dm_v) (rest := rest.map dm_v) (n := n) (index := idx) ⟨hx, hbb, hml, hown, hts⟩ (hM l D dA hl0) ⟨callB_of n hts (wall_cons w4) rfl h1 h2 (hts _ w5) (hts _ w1) hd0 ⟨h3, h4⟩, hy1, hts _ w2⟩ ⟨dm_blind, dm_pre hA hK hEv hS⟩ rfl (by rw [List.length_map]; exact hn) hl.1 ?_ (lv_room (by rw [dm_cat_sum]; exact h8)) hd ⟨h5, h6⟩) hS hAs hAs fun rv' u H1 locs1 hF hS1 => ?_
  · show stk.map dm_v = _
    rw [hs, List.map_append, List.map_reverse]
    rfl
  · obtain ⟨e1, rfl⟩ := hF
    rw [dm_pret (ls := []) hs' e1]
    exact kk H1 locs1 ls hS1 hl
/-- a call of a method that may throw: its throw is handled by kx -/
theorem r_callVX (hM : dm_K2 y cy maxL ret rmy mc ms (DR (some b) :: As) st r) (hb : oR st ro ci = some b) (hc : vwCl[ci]? = some (y.cls, T, N)) (Cx : dm_C Y cc own rm) (w1 : Cond.methodLink own idx y ∈ WALL) (w2 : Cond.instanceMethod y ∈ WALL) (w3 : Cond.selects y.cls y y ∈ WALL) (w4 : Cond.code y cy maxL ret ∈ WALL) (w5 : Cond.initialized y.cls ∈ WALL) (hd0 : dm_md y n) (hn : As.length = n) (hrm : rmy.cells = mc ∧ rmy.slots = ms ∧ rmy.frames + 1 ≤ rm.frames ∧ 8 + (maxL + 11) + rmy.locals ≤ rm.locals ∧ cs + mc ≤ rm.cells ∧ ss + ms ≤ rm.slots) (hd : decode cc pc = .ok (.invokevirtual idx, 3)) (hs : stk = As.reverse ++ DR ro :: rest) (h8 : (rest.map dm_cat).sum ≤ 8)
    (kx : match Y with
      | ((p, l, e, R, s), (m, args, below, meth, c), (D, dA, A0, nL, Q)) => ∀ (E : String) (h : DHp) (ce : Cell) (q9 : Addr) (H1 : Heap) (locs1 : List Loc) (ls : Array Slot), r = .inl (E, h) → dm_S D dA A0 s.heap (H1.size, h) H1 locs1 → lv_has ls nL (dm_lv lv) → H1[q9]? = some ce → ce.vm = .none → s.vm.findClass E = some ce.cls → vx_W p l e R s m args below meth c H1 locs1 (cs + mc) (ss + ms) Q (F0 m pc ls (rest.map dm_v)) q9)
    (kk : ∀ rv st1, r = .inr (rv, st1) → dm_W Y (cs + mc) (ss + ms) st1 (pc + 3) lv (rv.toList ++ rest)) : dm_W Y cs ss st pc lv stk := by
  obtain ⟨⟨p, l, e, R, s⟩, ⟨m, args, below, meth, c⟩, ⟨D, dA, A0, nL, Q⟩⟩ := Y
  obtain ⟨hx, hbb, hml, hown, hts, hK, hA, hRm, hl0, hEv⟩ := Cx
  subst hRm
  obtain ⟨h1, h2, h3, h4, h5, h6⟩ := hrm
  obtain ⟨⟨b', fs⟩, hg, hb'⟩ := ob hb
  cases hb'
  obtain ⟨rfl, hst⟩ := gO_spec hg
  dsimp only at hM hst kx
  intro H locs ls hS hl
  have hAs := dm_Asub hA hS
  refine dm_contX (vx_runV (As := As.map dm_v) (rest := rest.map dm_v) (n := n) (C := y.cls) (index := idx) ⟨hx, hbb, hml, hown, hts⟩ (hM l D dA hl0) ⟨callB_of n hts (wall_cons w4) rfl h1 h2 (hts _ w5) (hts _ w1) hd0 ⟨h3, h4⟩, hts _ w2, hts _ w3⟩ ⟨dm_blind, va_recv hK (dm_P1 (hS.1 _ _ hst)) (q0 := 0) hc rfl, dm_pre hA hK hEv hS⟩ rfl (by rw [List.length_map]; exact hn) hl.1 ?_ (lv_room (by rw [dm_cat_sum]; exact h8)) hd ⟨h5, h6⟩) hS hAs hAs (fun E h ce q9 H1 locs1 hF hS1 g1 g2 g3 => kx E h ce q9 H1 locs1 ls hF hS1 hl g1 g2 g3) fun rv' u H1 locs1 hF hS1 => ?_
  · show stk.map dm_v = _
    rw [hs, List.map_append, List.map_reverse]
    rfl
  · rw [dm_pret (ls := []) rfl rfl]
    exact kk rv' u hF H1 locs1 ls hS1 hl
theorem r_callSX (hM : dm_K2 y cy maxL ret rmy mc ms As st r) (Cx : dm_C Y cc own rm) (w1 : Cond.methodLink own idx y ∈ WALL) (w2 : Cond.static y ∈ WALL) (w4 : Cond.code y cy maxL ret ∈ WALL) (w5 : Cond.initialized y.cls ∈ WALL) (hd0 : dm_md y n) (hn : As.length = n) (hrm : rmy.cells = mc ∧ rmy.slots = ms ∧ rmy.frames + 1 ≤ rm.frames ∧ 8 + (maxL + 11) + rmy.locals ≤ rm.locals ∧ cs + mc ≤ rm.cells ∧ ss + ms ≤ rm.slots) (hd : decode cc pc = .ok (.invokestatic idx, 3)) (hs : stk = As.reverse ++ rest) (h8 : (rest.map dm_cat).sum ≤ 8)
    (kx : match Y with
      | ((p, l, e, R, s), (m, args, below, meth, c), (D, dA, A0, nL, Q)) => ∀ (E : String) (h : DHp) (ce : Cell) (q9 : Addr) (H1 : Heap) (locs1 : List Loc) (ls : Array Slot), r = .inl (E, h) → dm_S D dA A0 s.heap (H1.size, h) H1 locs1 → lv_has ls nL (dm_lv lv) → H1[q9]? = some ce → ce.vm = .none → s.vm.findClass E = some ce.cls → vx_W p l e R s m args below meth c H1 locs1 (cs + mc) (ss + ms) Q (F0 m pc ls (rest.map dm_v)) q9)
    (kk : ∀ rv st1, r = .inr (rv, st1) → dm_W Y (cs + mc) (ss + ms) st1 (pc + 3) lv (rv.toList ++ rest)) : dm_W Y cs ss st pc lv stk := by
  obtain ⟨⟨p, l, e, R, s⟩, ⟨m, args, below, meth, c⟩, ⟨D, dA, A0, nL, Q⟩⟩ := Y
  obtain ⟨hx, hbb, hml, hown, hts, hK, hA, hRm, hl0, hEv⟩ := Cx
  subst hRm
  obtain ⟨h1, h2, h3, h4, h5, h6⟩ := hrm
  dsimp only at kx
  intro H locs ls hS hl
  have hAs := dm_Asub hA hS
  refine dm_contX (vx_runS (As := As.map dm_v) (rest := rest.map dm_v) (n := n) (index := idx) ⟨hx, hbb, hml, hown, hts⟩ (hM l D dA hl0) ⟨callB_of n hts (wall_cons w4) rfl h1 h2 (hts _ w5) (hts _ w1) hd0 ⟨h3, h4⟩, hts _ w2⟩ ⟨dm_blind, dm_pre hA hK hEv hS⟩ rfl (by rw [List.length_map]; exact hn) hl.1 ?_ (lv_room (by rw [dm_cat_sum]; exact h8)) hd ⟨h5, h6⟩) hS hAs hAs (fun E h ce q9 H1 locs1 hF hS1 g1 g2 g3 => kx E h ce q9 H1 locs1 ls hF hS1 hl g1 g2 g3) fun rv' u H1 locs1 hF hS1 => ?_
  · show stk.map dm_v = _
    rw [hs, List.map_append, List.map_reverse]
  · rw [dm_pret (ls := []) rfl rfl]
    exact kk rv' u hF H1 locs1 ls hS1 hl
/-- a throw that this method doesn't catch -/
theorem dm_out2 {FinX : String → DHp → Prop} (E2 : dm_E2 Y mc ms FinX) (hF : ∀ E h, r = .inl (E, h) → FinX E h) (hc : cs ≤ mc ∧ ss ≤ ms) : match Y with
      | ((p, l, e, R, s), (m, args, below, meth, c), (D, dA, A0, nL, Q)) => ∀ (E : String) (h : DHp) (ce : Cell) (q9 : Addr) (H1 : Heap) (locs1 : List Loc) (ls : Array Slot), r = .inl (E, h) → dm_S D dA A0 s.heap (H1.size, h) H1 locs1 → lv_has ls nL (dm_lv lv) → H1[q9]? = some ce → ce.vm = .none → s.vm.findClass E = some ce.cls → vx_W p l e R s m args below meth c H1 locs1 cs ss Q (F0 m pc ls (rest.map dm_v)) q9 := by
  obtain ⟨⟨p, l, e, R, s⟩, ⟨m, args, below, meth, c⟩, ⟨D, dA, A0, nL, Q⟩⟩ := Y
  obtain ⟨hlk, hex, Qc, hQ⟩ := E2
  intro E h ce q9 H1 locs1 ls hr hS hl g1 g2 g3 T hT X
  obtain ⟨t, a1, b1⟩ := vx_out (Qc := Qc) (XC := dm_XC FinX D dA A0) (mc := mc) (ms := ms) (free := A0) (fun x hx => (hex x hx).elim) hlk g1 g2 g3 (fun t ht hv => ⟨⟨h, hF E h hr, by rw [ht]; exact hS.1, hS.2.2.1⟩, va_S.F hS.2.2.2 ht⟩) hS.2.2.2.2.2 hc.1 hc.2 T hT X
  exact ⟨t, a1, hQ t b1⟩
/-- a throw of this method's own: new, the text, athrow -/
theorem r_throw {FinX : String → DHp → Prop} {cls text : String} {ik is ic : Nat} (E2 : dm_E2 Y mc ms FinX) (Cx : dm_C Y cc own rm) (hF : FinX cls st.2) (hfit : Bundle.fit cls = true) (w1 : Cond.classLink own ik cls ∈ WALL) (w2 : Cond.initialized cls ∈ WALL) (hstr : (own, is, text) ∈ dm_strs) (hat : ∀ w ∈ vx_atS own ic cls ["java/lang/RuntimeException", "java/lang/Exception"], w ∈ WALL ∨ (∃ q ∈ dm_cas, w = .castable q.1 q.2) ∨ ∃ y ∈ dm_dcl, w = .declares y) (hgood : ∀ w ∈ Cond.classLink own ik cls :: Cond.initialized cls :: vx_atS own ic cls ["java/lang/RuntimeException", "java/lang/Exception"], vx_ot w = true)
    (d0 : decode cc pc = .ok (.new ik, 3)) (d3 : decode cc (pc + 3) = .ok (.dup, 1)) (d4 : decode cc (pc + 4) = .ok (.ldc is, 2)) (d6 : decode cc (pc + 6) = .ok (.invokespecial ic, 3)) (d9 : decode cc (pc + 9) = .ok (.athrow, 1))
    (hr : 6 ≤ rm.frames ∧ (stk.map dm_cat).sum + 82 ≤ rm.locals ∧ cs + 1 ≤ rm.cells ∧ ss + 6 ≤ rm.slots ∧ cs + 1 ≤ mc ∧ ss + 6 ≤ ms) : dm_W Y cs ss st pc lv stk := by
  obtain ⟨⟨p, l, e, R, s⟩, ⟨m, args, below, meth, c⟩, ⟨D, dA, A0, nL, Q⟩⟩ := Y
  obtain ⟨hx, hbb, hml, hown, hts, hK, hA, hRm, hl0, hEv⟩ := Cx
  subst hRm
  obtain ⟨hlk, hex, Qc, hQ⟩ := E2
  obtain ⟨hU, hN, hst9, hca, hdc, -⟩ := hEv
  obtain ⟨sa, hsa⟩ := hst9 _ hstr
  obtain ⟨h1, h2, h3, h4, h5, h6⟩ := hr
  intro H locs ls hS hl
  refine dm_mono hQ ?_
  refine vx_throwS hx hbb hl0 hown hfit (by decide +kernel) (hts _ w1) (hts _ w2) hsa (fun w hw => ?_) hgood hU hN hS.2.2.2 (hl.1.trans hml.symm) d0 d3 d4 d6 d9 (fun x hx => (hex x hx).elim) (by show 2 + 3 < R.frames; omega) (by rw [dm_cat_sum]; show _ + (13 * (2 + 1) + 43) ≤ R.locals; omega) h3 h4 hlk (fun t _ hz hq => ⟨⟨st.2, hF, hS.1.mono hq, hS.2.2.1⟩, Nat.le_trans hS.2.2.2.1 hz, fun q g1 g2 => by rw [hq q (Nat.lt_of_lt_of_le g1 hS.2.2.2.1)]; exact hS.2.2.2.2.1 q g1 g2⟩) hS.2.2.2.2.2 h5 h6
  rcases hat w hw with h | ⟨q, hq, rfl⟩ | ⟨q, hq, rfl⟩
  · exact hts w h
  · exact va_Nw.use rfl (hca q hq)
  · exact va_Nw.use rfl (hdc q hq)
/-- .. where the text lies beyond place 255 -/
theorem r_throwW {FinX : String → DHp → Prop} {cls text : String} {ik is ic : Nat} (E2 : dm_E2 Y mc ms FinX) (Cx : dm_C Y cc own rm) (hF : FinX cls st.2) (hfit : Bundle.fit cls = true) (w1 : Cond.classLink own ik cls ∈ WALL) (w2 : Cond.initialized cls ∈ WALL) (hstr : (own, is, text) ∈ dm_strs) (hat : ∀ w ∈ vx_atS own ic cls ["java/lang/RuntimeException", "java/lang/Exception"], w ∈ WALL ∨ (∃ q ∈ dm_cas, w = .castable q.1 q.2) ∨ ∃ y ∈ dm_dcl, w = .declares y) (hgood : ∀ w ∈ Cond.classLink own ik cls :: Cond.initialized cls :: vx_atS own ic cls ["java/lang/RuntimeException", "java/lang/Exception"], vx_ot w = true)
    (d0 : decode cc pc = .ok (.new ik, 3)) (d3 : decode cc (pc + 3) = .ok (.dup, 1)) (d4 : decode cc (pc + 4) = .ok (.ldc_w is, 3)) (d6 : decode cc (pc + 7) = .ok (.invokespecial ic, 3)) (d9 : decode cc (pc + 10) = .ok (.athrow, 1))
    (hr : 6 ≤ rm.frames ∧ (stk.map dm_cat).sum + 82 ≤ rm.locals ∧ cs + 1 ≤ rm.cells ∧ ss + 6 ≤ rm.slots ∧ cs + 1 ≤ mc ∧ ss + 6 ≤ ms) : dm_W Y cs ss st pc lv stk := by
  obtain ⟨⟨p, l, e, R, s⟩, ⟨m, args, below, meth, c⟩, ⟨D, dA, A0, nL, Q⟩⟩ := Y
  obtain ⟨hx, hbb, hml, hown, hts, hK, hA, hRm, hl0, hEv⟩ := Cx
  subst hRm
  obtain ⟨hlk, hex, Qc, hQ⟩ := E2
  obtain ⟨hU, hN, hst9, hca, hdc, -⟩ := hEv
  obtain ⟨sa, hsa⟩ := hst9 _ hstr
  obtain ⟨h1, h2, h3, h4, h5, h6⟩ := hr
  intro H locs ls hS hl
  refine dm_mono hQ ?_
  refine vx_throwSW hx hbb hl0 hown hfit (by decide +kernel) (hts _ w1) (hts _ w2) hsa (fun w hw => ?_) hgood hU hN hS.2.2.2 (hl.1.trans hml.symm) d0 d3 d4 d6 d9 (fun x hx => (hex x hx).elim) (by show 2 + 3 < R.frames; omega) (by rw [dm_cat_sum]; show _ + (13 * (2 + 1) + 43) ≤ R.locals; omega) h3 h4 hlk (fun t _ hz hq => ⟨⟨st.2, hF, hS.1.mono hq, hS.2.2.1⟩, Nat.le_trans hS.2.2.2.1 hz, fun q g1 g2 => by rw [hq q (Nat.lt_of_lt_of_le g1 hS.2.2.2.1)]; exact hS.2.2.2.2.1 q g1 g2⟩) hS.2.2.2.2.2 h5 h6
  rcases hat w hw with h | ⟨q, hq, rfl⟩ | ⟨q, hq, rfl⟩
  · exact hts w h
  · exact va_Nw.use rfl (hca q hq)
  · exact va_Nw.use rfl (hdc q hq)
/-! returns -/
theorem dm_ret {D : va_G} {dA : Nat → ClassId} {A0 : Nat → Prop} {s t : State} {H : Heap} {st : DSt} {locs : List Loc} {args : Array Value} {Fin : Option DV → DSt → Prop} (hF : Fin rv st) (hS : dm_S D dA A0 s.heap st H locs) (ht : t.heap = H) : dm_Qc Fin D dA A0 args s (.returned (rv.map dm_v)) t := ⟨⟨rv, st, rfl, hF, by rw [ht]; exact hS.1, by rw [ht]; exact hS.2.1, hS.2.2.1⟩, va_S.F hS.2.2.2 ht⟩
theorem r_iret {Fin : Option DV → DSt → Prop} {x : Int32} (E1 : dm_E1 Y (some .int) mc ms Fin) (Cx : dm_C Y cc own rm) (hF : Fin (some (DI x)) st) (hc : cs ≤ mc ∧ ss ≤ ms) (hd : decode cc pc = .ok (.ireturn, 1)) : dm_W Y cs ss st pc lv [DI x] := by
  obtain ⟨⟨p, l, e, R, s⟩, ⟨m, args, below, meth, c⟩, ⟨D, dA, A0, nL, Q⟩⟩ := Y
  obtain ⟨hrt, hlk, hQ⟩ := E1
  intro H locs ls hS hl
  exact dm_mono hQ (W.widen hc.1 hc.2 (W.iret (v := x) Cx.1 Cx.2.1 hrt (fun t ht hW => dm_ret hF hS ht) hS.2.2.2.2.2 hd hlk))
theorem r_zret {Fin : Option DV → DSt → Prop} {x z : Int32} (E1 : dm_E1 Y (some .boolean) mc ms Fin) (Cx : dm_C Y cc own rm) (hz : oZ x = some z) (hF : Fin (some (DI z)) st) (hc : cs ≤ mc ∧ ss ≤ ms) (hd : decode cc pc = .ok (.ireturn, 1)) : dm_W Y cs ss st pc lv [DI x] := by
  obtain ⟨⟨p, l, e, R, s⟩, ⟨m, args, below, meth, c⟩, ⟨D, dA, A0, nL, Q⟩⟩ := Y
  obtain ⟨hrt, hlk, hQ⟩ := E1
  obtain ⟨rfl, hn⟩ := oZ_spec hz
  intro H locs ls hS hl
  exact dm_mono hQ (W.widen hc.1 hc.2 (W.zret (v := z) Cx.1 Cx.2.1 hrt hn (fun t ht hW => dm_ret hF hS ht) hS.2.2.2.2.2 hd hlk))
theorem r_lret {Fin : Option DV → DSt → Prop} {x : Int64} (E1 : dm_E1 Y (some .long) mc ms Fin) (Cx : dm_C Y cc own rm) (hF : Fin (some (DL x)) st) (hc : cs ≤ mc ∧ ss ≤ ms) (hd : decode cc pc = .ok (.lreturn, 1)) : dm_W Y cs ss st pc lv [DL x] := by
  obtain ⟨⟨p, l, e, R, s⟩, ⟨m, args, below, meth, c⟩, ⟨D, dA, A0, nL, Q⟩⟩ := Y
  obtain ⟨hrt, hlk, hQ⟩ := E1
  intro H locs ls hS hl
  exact dm_mono hQ (W.widen hc.1 hc.2 (W.lret (v := x) Cx.1 Cx.2.1 hrt (fun t ht hW => dm_ret hF hS ht) hS.2.2.2.2.2 hd hlk))
theorem r_dret {Fin : Option DV → DSt → Prop} {x : UInt64} (E1 : dm_E1 Y (some .double) mc ms Fin) (Cx : dm_C Y cc own rm) (hF : Fin (some (DD x)) st) (hc : cs ≤ mc ∧ ss ≤ ms) (hd : decode cc pc = .ok (.dreturn, 1)) : dm_W Y cs ss st pc lv [DD x] := by
  obtain ⟨⟨p, l, e, R, s⟩, ⟨m, args, below, meth, c⟩, ⟨D, dA, A0, nL, Q⟩⟩ := Y
  obtain ⟨hrt, hlk, hQ⟩ := E1
  intro H locs ls hS hl
  exact dm_mono hQ (W.widen hc.1 hc.2 (W.dret (v := x) Cx.1 Cx.2.1 hrt (fun t ht hW => dm_ret hF hS ht) hS.2.2.2.2.2 hd hlk))
theorem r_vret {Fin : Option DV → DSt → Prop} (E1 : dm_E1 Y none mc ms Fin) (Cx : dm_C Y cc own rm) (hF : Fin none st) (hc : cs ≤ mc ∧ ss ≤ ms) (hd : decode cc pc = .ok (.return_, 1)) : dm_W Y cs ss st pc lv [] := by
  obtain ⟨⟨p, l, e, R, s⟩, ⟨m, args, below, meth, c⟩, ⟨D, dA, A0, nL, Q⟩⟩ := Y
  obtain ⟨hrt, hlk, hQ⟩ := E1
  intro H locs ls hS hl
  exact dm_mono hQ (W.widen hc.1 hc.2 (W.vret Cx.1 Cx.2.1 hrt (fun t ht hW => dm_ret (rv := none) hF hS ht) hS.2.2.2.2.2 hd hlk))
theorem r_aret {Fin : Option DV → DSt → Prop} {x : Option Nat} {rt : FieldType} (hrf : (∃ n, rt = .object n) ∨ ∃ t, rt = .array t) (E1 : dm_E1 Y (some rt) mc ms Fin) (Cx : dm_C Y cc own rm) (hF : Fin (some (DR x)) st) (hc : cs ≤ mc ∧ ss ≤ ms) (hd : decode cc pc = .ok (.areturn, 1)) : dm_W Y cs ss st pc lv [DR x] := by
  obtain ⟨⟨p, l, e, R, s⟩, ⟨m, args, below, meth, c⟩, ⟨D, dA, A0, nL, Q⟩⟩ := Y
  obtain ⟨hrt, hlk, hQ⟩ := E1
  intro H locs ls hS hl
  have hv : va_rf x = .null ∨ ∃ a, va_rf x = .ref a := by
    cases x with
    | none => exact Or.inl rfl
    | some a => exact Or.inr ⟨a, rfl⟩
  exact dm_mono hQ (W.widen hc.1 hc.2 (W.aret (v := va_rf x) Cx.1 Cx.2.1 hrt hrf hv (fun t ht hW => dm_ret (rv := some (DR x)) hF hS ht) hS.2.2.2.2.2 hd hlk))
end DRUN
/-! starts -/
theorem dm_k1 {y : MethodName} {cy : ByteArray} {maxL mc ms : Nat} {ret : Option FieldType} {rmy : Room} {avs : List DV} {st st1 : DSt} {rv : Option DV} {own : String} (hy : plainName y.cls = true) (ho : y.cls = own) (hlen : (avs.map dm_cat).sum ≤ maxL)
    (body : ∀ Y : DY, dm_C Y cy own rmy → dm_N Y maxL → (y.name = "<init>" → dm_I Y own) → dm_E1 Y ret mc ms (fun rv' u => rv' = rv ∧ u = st1) → dm_W Y 0 0 st 0 (dm_args 0 avs) []) : dm_K1 y cy maxL ret rmy mc ms avs st rv st1 := by
  intro l D dA hl0
  refine Met.ofW (cc := cy) (maxL := maxL) (ret := ret) hy rfl ?_
  intro p e s m args below meth c s₁ B hml hv
  obtain ⟨rfl, hR, hsz, hK, hEv⟩ := hv
  have hts : ∀ w ∈ WALL, w.before (avs.map dm_v).toArray s = true := fun w hw => atoms_spec (ws := Cond.code y cy maxL ret :: WALL) B.pre w (List.mem_cons_of_mem _ hw)
  have hown : s.vm.findClass own = some m.cls := by rw [← ho]; exact findClass_of_methodNamed B.named
  have hA : ∀ q, s.heap.size ≤ q → dm_A st q := fun q h => Or.inr (by rw [← hsz]; exact h)
  have h := body ((p, l, e, _, s), (m, _, below, meth, c), (D, dA, dm_A st, maxL, _)) ⟨B.exec, B.bytes, hml, hown, hts, hK, hA, rfl, hl0, hEv⟩ rfl (fun hi => ((name_of_methodNamed B.named B.method).1.trans hi : meth.name = "<init>")) ⟨B.returns, B.notSynchronized, fun t ht => ht⟩
  rw [lg_entry_eq]
  refine h s.heap [] _ ⟨hR, hsz, fun q e he => Or.inl ⟨e, he⟩, va_S.rf⟩ ?_
  rw [← dm_args_lv]
  exact lv_entry (avs.map dm_v) (by rw [dm_args_len]; exact hlen)
theorem dm_k2 {y : MethodName} {cy : ByteArray} {maxL mc ms : Nat} {ret : Option FieldType} {rmy : Room} {avs : List DV} {st : DSt} {r : DRes} {own : String} (hy : plainName y.cls = true) (ho : y.cls = own) (hlen : (avs.map dm_cat).sum ≤ maxL)
    (body : ∀ Y : DY, dm_C Y cy own rmy → dm_N Y maxL → dm_E1 Y ret mc ms (fun rv u => r = .inr (rv, u)) → dm_E2 Y mc ms (fun E h => r = .inl (E, h)) → dm_W Y 0 0 st 0 (dm_args 0 avs) []) : dm_K2 y cy maxL ret rmy mc ms avs st r := by
  intro l D dA hl0
  refine vx_ofW (cc := cy) (maxL := maxL) (ret := ret) hy rfl ?_
  intro p e s m args below meth c s₁ B hml hex hv
  obtain ⟨rfl, hR, hsz, hK, hEv⟩ := hv
  have hts : ∀ w ∈ WALL, w.before (avs.map dm_v).toArray s = true := fun w hw => atoms_spec (ws := Cond.code y cy maxL ret :: WALL) B.pre w (List.mem_cons_of_mem _ hw)
  have hown : s.vm.findClass own = some m.cls := by rw [← ho]; exact findClass_of_methodNamed B.named
  have hA : ∀ q, s.heap.size ≤ q → dm_A st q := fun q h => Or.inr (by rw [← hsz]; exact h)
  have h := body ((p, l, e, _, s), (m, _, below, meth, c), (D, dA, dm_A st, maxL, _)) ⟨B.exec, B.bytes, hml, hown, hts, hK, hA, rfl, hl0, hEv⟩ rfl ⟨B.returns, B.notSynchronized, fun t ht => by
    obtain ⟨o, b1, b2, b3, b4⟩ := ht
    exact ⟨o, b1, b2, Or.inl ⟨b3, b4⟩⟩⟩ ⟨B.notSynchronized, hex, _, fun t ht => ht⟩
  rw [lg_entry_eq]
  refine h s.heap [] _ ⟨hR, hsz, fun q e he => Or.inl ⟨e, he⟩, va_S.rf⟩ ?_
  rw [← dm_args_lv]
  exact lv_entry (avs.map dm_v) (by rw [dm_args_len]; exact hlen)
/-! what generated walks use -/
section DGEN
variable {Y : DY} {cc : ByteArray} {own : String} {rm : Room} {cs ss pc : Nat} {st st1 : DSt} {lv : List (Nat × DV)} {stk stk' rest : List DV}
variable {y : MethodName} {cy : ByteArray} {maxL mc ms mcy msy n idx : Nat} {ret : Option FieldType} {rmy : Room} {rv : Option DV} {As : List DV} {b : Nat} {ci : Nat} {T : u_T} {N : Nat} {ro : Option Nat}
theorem dm_noX (h : DRes) (hne : ∀ E h', ¬ h = .inl (E, h')) : match Y with
      | ((p, l, e, R, s), (m, args, below, meth, c), (D, dA, A0, nL, Q)) => ∀ (E : String) (h' : DHp) (ce : Cell) (q9 : Addr) (H1 : Heap) (locs1 : List Loc) (ls : Array Slot), h = .inl (E, h') → dm_S D dA A0 s.heap (H1.size, h') H1 locs1 → lv_has ls nL (dm_lv lv) → H1[q9]? = some ce → ce.vm = .none → s.vm.findClass E = some ce.cls → vx_W p l e R s m args below meth c H1 locs1 cs ss Q (F0 m pc ls (rest.map dm_v)) q9 := by
  obtain ⟨⟨p, l, e, R, s⟩, ⟨m, args, below, meth, c⟩, ⟨D, dA, A0, nL, Q⟩⟩ := Y
  intro E h' ce q9 H1 locs1 ls hr
  exact absurd hr (hne E h')
theorem r_callVX_ret (hM : dm_K2 y cy maxL ret rmy mc ms (DR (some b) :: As) st (.inr (rv, st1))) (hb : oR st ro ci = some b) (hc : vwCl[ci]? = some (y.cls, T, N)) (Cx : dm_C Y cc own rm) (w1 : Cond.methodLink own idx y ∈ WALL) (w2 : Cond.instanceMethod y ∈ WALL) (w3 : Cond.selects y.cls y y ∈ WALL) (w4 : Cond.code y cy maxL ret ∈ WALL) (w5 : Cond.initialized y.cls ∈ WALL) (hd0 : dm_md y n) (hn : As.length = n) (hrm : rmy.cells = mc ∧ rmy.slots = ms ∧ rmy.frames + 1 ≤ rm.frames ∧ 8 + (maxL + 11) + rmy.locals ≤ rm.locals ∧ cs + mc ≤ rm.cells ∧ ss + ms ≤ rm.slots) (hd : decode cc pc = .ok (.invokevirtual idx, 3)) (hs : stk = As.reverse ++ DR ro :: rest) (h8 : (rest.map dm_cat).sum ≤ 8) (hs' : rv.toList ++ rest = stk') (kk : dm_W Y (cs + mc) (ss + ms) st1 (pc + 3) lv stk') : dm_W Y cs ss st pc lv stk := by
  refine r_callVX hM hb hc Cx w1 w2 w3 w4 w5 hd0 hn hrm hd hs h8 (dm_noX _ fun E h' h => nomatch h) fun rv' st' h => ?_
  cases h
  rw [hs']
  exact kk
theorem r_callVX_thr {FinX : String → DHp → Prop} {E : String} {h : DHp} (hM : dm_K2 y cy maxL ret rmy mcy msy (DR (some b) :: As) st (.inl (E, h))) (E2 : dm_E2 Y mc ms FinX) (hF : FinX E h) (hb : oR st ro ci = some b) (hc : vwCl[ci]? = some (y.cls, T, N)) (Cx : dm_C Y cc own rm) (w1 : Cond.methodLink own idx y ∈ WALL) (w2 : Cond.instanceMethod y ∈ WALL) (w3 : Cond.selects y.cls y y ∈ WALL) (w4 : Cond.code y cy maxL ret ∈ WALL) (w5 : Cond.initialized y.cls ∈ WALL) (hd0 : dm_md y n) (hn : As.length = n) (hrm : rmy.cells = mcy ∧ rmy.slots = msy ∧ rmy.frames + 1 ≤ rm.frames ∧ 8 + (maxL + 11) + rmy.locals ≤ rm.locals ∧ cs + mcy ≤ rm.cells ∧ ss + msy ≤ rm.slots) (hm : cs + mcy ≤ mc ∧ ss + msy ≤ ms) (hd : decode cc pc = .ok (.invokevirtual idx, 3)) (hs : stk = As.reverse ++ DR ro :: rest) (h8 : (rest.map dm_cat).sum ≤ 8) : dm_W Y cs ss st pc lv stk :=
  r_callVX hM hb hc Cx w1 w2 w3 w4 w5 hd0 hn hrm hd hs h8 (dm_out2 E2 (fun E' h' e => by cases e; exact hF) hm) fun rv' st' h => nomatch h
theorem r_callSX_ret (hM : dm_K2 y cy maxL ret rmy mc ms As st (.inr (rv, st1))) (Cx : dm_C Y cc own rm) (w1 : Cond.methodLink own idx y ∈ WALL) (w2 : Cond.static y ∈ WALL) (w4 : Cond.code y cy maxL ret ∈ WALL) (w5 : Cond.initialized y.cls ∈ WALL) (hd0 : dm_md y n) (hn : As.length = n) (hrm : rmy.cells = mc ∧ rmy.slots = ms ∧ rmy.frames + 1 ≤ rm.frames ∧ 8 + (maxL + 11) + rmy.locals ≤ rm.locals ∧ cs + mc ≤ rm.cells ∧ ss + ms ≤ rm.slots) (hd : decode cc pc = .ok (.invokestatic idx, 3)) (hs : stk = As.reverse ++ rest) (h8 : (rest.map dm_cat).sum ≤ 8) (hs' : rv.toList ++ rest = stk') (kk : dm_W Y (cs + mc) (ss + ms) st1 (pc + 3) lv stk') : dm_W Y cs ss st pc lv stk := by
  refine r_callSX hM Cx w1 w2 w4 w5 hd0 hn hrm hd hs h8 (dm_noX _ fun E h' h => nomatch h) fun rv' st' h => ?_
  cases h
  rw [hs']
  exact kk
theorem r_callSX_thr {FinX : String → DHp → Prop} {E : String} {h : DHp} (hM : dm_K2 y cy maxL ret rmy mcy msy As st (.inl (E, h))) (E2 : dm_E2 Y mc ms FinX) (hF : FinX E h) (Cx : dm_C Y cc own rm) (w1 : Cond.methodLink own idx y ∈ WALL) (w2 : Cond.static y ∈ WALL) (w4 : Cond.code y cy maxL ret ∈ WALL) (w5 : Cond.initialized y.cls ∈ WALL) (hd0 : dm_md y n) (hn : As.length = n) (hrm : rmy.cells = mcy ∧ rmy.slots = msy ∧ rmy.frames + 1 ≤ rm.frames ∧ 8 + (maxL + 11) + rmy.locals ≤ rm.locals ∧ cs + mcy ≤ rm.cells ∧ ss + msy ≤ rm.slots) (hm : cs + mcy ≤ mc ∧ ss + msy ≤ ms) (hd : decode cc pc = .ok (.invokestatic idx, 3)) (hs : stk = As.reverse ++ rest) (h8 : (rest.map dm_cat).sum ≤ 8) : dm_W Y cs ss st pc lv stk :=
  r_callSX hM Cx w1 w2 w4 w5 hd0 hn hrm hd hs h8 (dm_out2 E2 (fun E' h' e => by cases e; exact hF) hm) fun rv' st' h => nomatch h
end DGEN
def oN {β : Type} (r : Option Nat) (A : β) (B : Nat → β) : β := match r with
  | none => A
  | some a => B a
/-- results as the contracts have them: x: impure with a value; v: impure, void; p: pure with a value; u: pure, void -/
def rxI (r : (String × DHp) ⊕ (Int32 × DSt)) : DRes := match r with
  | .inl e => .inl e
  | .inr q => .inr (some (DI q.1), q.2)
def rxV (r : (String × DHp) ⊕ DSt) : DRes := match r with
  | .inl e => .inl e
  | .inr q => .inr (none, q)
def rpI (st : DSt) (r : (String × DHp) ⊕ Int32) : DRes := match r with
  | .inl e => .inl e
  | .inr q => .inr (some (DI q), st)
def rpR (st : DSt) (r : (String × DHp) ⊕ Option Nat) : DRes := match r with
  | .inl e => .inl e
  | .inr q => .inr (some (DR q), st)
def rpV (st : DSt) (r : (String × DHp) ⊕ Unit) : DRes := match r with
  | .inl e => .inl e
  | .inr _ => .inr (none, st)
theorem f1xI {x v : Int32} {s t : DSt} (h : some (x, s) = some (v, t)) : some (DI x) = some (DI v) ∧ s = t := by cases h; exact ⟨rfl, rfl⟩
theorem f1xR {x v : Option Nat} {s t : DSt} (h : some (x, s) = some (v, t)) : some (DR x) = some (DR v) ∧ s = t := by cases h; exact ⟨rfl, rfl⟩
theorem f1xV {s t : DSt} (h : some s = some t) : (none : Option DV) = none ∧ s = t := by cases h; exact ⟨rfl, rfl⟩
theorem f1pI {x v : Int32} {s : DSt} (h : some x = some v) : some (DI x) = some (DI v) ∧ s = s := by cases h; exact ⟨rfl, rfl⟩
theorem f1pR {x v : Option Nat} {s : DSt} (h : some x = some v) : some (DR x) = some (DR v) ∧ s = s := by cases h; exact ⟨rfl, rfl⟩
theorem f1pL {x v : Int64} {s : DSt} (h : some x = some v) : some (DL x) = some (DL v) ∧ s = s := by cases h; exact ⟨rfl, rfl⟩
theorem f1pD {x v : UInt64} {s : DSt} (h : some x = some v) : some (DD x) = some (DD v) ∧ s = s := by cases h; exact ⟨rfl, rfl⟩
theorem f1pV {s : DSt} : (none : Option DV) = none ∧ s = s := ⟨rfl, rfl⟩
theorem f1xL {x v : Int64} {s t : DSt} (h : some (x, s) = some (v, t)) : some (DL x) = some (DL v) ∧ s = t := by cases h; exact ⟨rfl, rfl⟩
theorem f1xD {x v : UInt64} {s t : DSt} (h : some (x, s) = some (v, t)) : some (DD x) = some (DD v) ∧ s = t := by cases h; exact ⟨rfl, rfl⟩
theorem f2xI {x : Int32} {s : DSt} {r} (h : some (Sum.inr (x, s)) = some r) : rxI r = .inr (some (DI x), s) := by cases h; rfl
theorem f2xV {s : DSt} {r} (h : some (Sum.inr s) = some r) : rxV r = .inr (none, s) := by cases h; rfl
theorem f2pI {x : Int32} {s : DSt} {r} (h : some (Sum.inr x) = some r) : rpI s r = .inr (some (DI x), s) := by cases h; rfl
theorem f2pR {x : Option Nat} {s : DSt} {r} (h : some (Sum.inr x) = some r) : rpR s r = .inr (some (DR x), s) := by cases h; rfl
theorem f2pV {s : DSt} {r} (h : some (Sum.inr ()) = some r) : rpV s r = .inr (none, s) := by cases h; rfl
theorem t2xI {e r} (h : some (Sum.inl e) = some r) : rxI r = .inl e := by cases h; rfl
theorem t2xV {e r} (h : some (Sum.inl e) = some r) : rxV r = .inl e := by cases h; rfl
theorem t2pI {s : DSt} {e r} (h : some (Sum.inl e) = some r) : rpI s r = .inl e := by cases h; rfl
theorem t2pR {s : DSt} {e r} (h : some (Sum.inl e) = some r) : rpR s r = .inl e := by cases h; rfl
theorem t2pV {s : DSt} {e r} (h : some (Sum.inl e) = some r) : rpV s r = .inl e := by cases h; rfl
/-! the script as an argument; private constructors of nest mates -/
def dm_SC (Y : DY) (b L : Nat) (xs : Nat → Int32) : Prop :=
  match Y with
  | ((_, _, _, _, s), _, (_, _, A0, _, _)) => va_X b L xs s s.heap ∧ b < s.heap.size ∧ ¬ A0 b
def dm_K1S (b L : Nat) (xs : Nat → Int32) (y : MethodName) (cy : ByteArray) (maxL : Nat) (ret : Option FieldType) (rmy : Room) (mc ms : Nat) (avs : List DV) (st : DSt) (rv : Option DV) (st1 : DSt) : Prop :=
  ¬ dm_A st b → ∀ (l : Launch) (D : va_G) (dA : Nat → ClassId), l.stackTraces = false → Met l y (Cond.code y cy maxL ret :: WALL) rmy (fun args U => dm_Pc D dA avs st args U ∧ va_X b L xs U U.heap) (dm_Qc (fun rv' u => rv' = rv ∧ u = st1) D dA (dm_A st)) mc ms (dm_A st)
theorem dm_k1s {b L : Nat} {xs : Nat → Int32} {y : MethodName} {cy : ByteArray} {maxL mc ms : Nat} {ret : Option FieldType} {rmy : Room} {avs : List DV} {st st1 : DSt} {rv : Option DV} {own : String} (hy : plainName y.cls = true) (ho : y.cls = own) (hlen : (avs.map dm_cat).sum ≤ maxL)
    (body : ∀ Y : DY, dm_C Y cy own rmy → dm_N Y maxL → dm_SC Y b L xs → dm_E1 Y ret mc ms (fun rv' u => rv' = rv ∧ u = st1) → dm_W Y 0 0 st 0 (dm_args 0 avs) []) : dm_K1S b L xs y cy maxL ret rmy mc ms avs st rv st1 := by
  intro hbA l D dA hl0
  refine Met.ofW (cc := cy) (maxL := maxL) (ret := ret) hy rfl ?_
  intro p e s m args below meth c s₁ B hml hv
  obtain ⟨⟨rfl, hR, hsz, hK, hEv⟩, hX⟩ := hv
  have hts : ∀ w ∈ WALL, w.before (avs.map dm_v).toArray s = true := fun w hw => atoms_spec (ws := Cond.code y cy maxL ret :: WALL) B.pre w (List.mem_cons_of_mem _ hw)
  have hown : s.vm.findClass own = some m.cls := by rw [← ho]; exact findClass_of_methodNamed B.named
  have hA : ∀ q, s.heap.size ≤ q → dm_A st q := fun q h => Or.inr (by rw [← hsz]; exact h)
  have hbl : b < s.heap.size := by
    obtain ⟨scr, h1, -⟩ := hX
    exact (Array.getElem?_eq_some_iff.mp h1).1
  have h := body ((p, l, e, _, s), (m, _, below, meth, c), (D, dA, dm_A st, maxL, _)) ⟨B.exec, B.bytes, hml, hown, hts, hK, hA, rfl, hl0, hEv⟩ rfl ⟨hX, hbl, hbA⟩ ⟨B.returns, B.notSynchronized, fun t ht => ht⟩
  rw [lg_entry_eq]
  refine h s.heap [] _ ⟨hR, hsz, fun q e he => Or.inl ⟨e, he⟩, va_S.rf⟩ ?_
  rw [← dm_args_lv]
  exact lv_entry (avs.map dm_v) (by rw [dm_args_len]; exact hlen)
section DSCR
variable {Y : DY} {cc : ByteArray} {own : String} {rm : Room} {cs ss pc : Nat} {st st1 : DSt} {lv : List (Nat × DV)} {stk stk' rest : List DV} {b L : Nat} {xs : Nat → Int32}
variable {y : MethodName} {cy : ByteArray} {maxL mc ms n idx : Nat} {ret : Option FieldType} {rmy : Room} {rv : Option DV} {As : List DV}
def sldO (xs : Nat → Int32) (L : Nat) (i : Int32) : Option Int32 := if inA i L = true then some (xs i.toNatClampNeg) else none
theorem r_sld {i v : Int32} (hSC : dm_SC Y b L xs) (Cx : dm_C Y cc own rm) (hd : decode cc pc = .ok (.iaload, 1)) (hv : sldO xs L i = some v) (kk : dm_W Y cs ss st (pc + 1) lv (DI v :: stk)) : dm_W Y cs ss st pc lv (DI i :: DR (some b) :: stk) := by
  obtain ⟨⟨p, l, e, R, s⟩, ⟨m, args, below, meth, c⟩, ⟨D, dA, A0, nL, Q⟩⟩ := Y
  obtain ⟨hX, hbl, hbA⟩ := hSC
  unfold sldO at hv
  split at hv
  · rename_i hin
    cases hv
    intro H locs ls hS hl
    exact va_sld Cx.1 Cx.2.1 hX hbl (A := A0) hbA hS.2.2.2 (inA_in hin) hd (kk H locs ls hS hl)
  · cases hv
theorem r_slen (hSC : dm_SC Y b L xs) (Cx : dm_C Y cc own rm) (hd : decode cc pc = .ok (.arraylength, 1)) (kk : dm_W Y cs ss st (pc + 1) lv (DI (Int32.ofNat L) :: stk)) : dm_W Y cs ss st pc lv (DR (some b) :: stk) := by
  obtain ⟨⟨p, l, e, R, s⟩, ⟨m, args, below, meth, c⟩, ⟨D, dA, A0, nL, Q⟩⟩ := Y
  obtain ⟨hX, hbl, hbA⟩ := hSC
  intro H locs ls hS hl
  exact va_slen Cx.1 Cx.2.1 hX hbl (A := A0) hbA hS.2.2.2 hd (kk H locs ls hS hl)
theorem r_callSS (hM : dm_K1S b L xs y cy maxL ret rmy mc ms As st rv st1) (hSC : dm_SC Y b L xs) (Cx : dm_C Y cc own rm) (w1 : Cond.methodLink own idx y ∈ WALL) (w2 : Cond.static y ∈ WALL) (w4 : Cond.code y cy maxL ret ∈ WALL) (w5 : Cond.initialized y.cls ∈ WALL) (hd0 : dm_md y n) (hn : As.length = n) (hrm : rmy.cells = mc ∧ rmy.slots = ms ∧ rmy.frames + 1 ≤ rm.frames ∧ 8 + (maxL + 11) + rmy.locals ≤ rm.locals ∧ cs + mc ≤ rm.cells ∧ ss + ms ≤ rm.slots) (hd : decode cc pc = .ok (.invokestatic idx, 3)) (hs : stk = As.reverse ++ rest) (h8 : (rest.map dm_cat).sum ≤ 8) (hs' : rv.toList ++ rest = stk') (kk : dm_W Y (cs + mc) (ss + ms) st1 (pc + 3) lv stk') : dm_W Y cs ss st pc lv stk := by
  obtain ⟨⟨p, l, e, R, s⟩, ⟨m, args, below, meth, c⟩, ⟨D, dA, A0, nL, Q⟩⟩ := Y
  obtain ⟨hx, hbb, hml, hown, hts, hK, hA, hRm, hl0, hEv⟩ := Cx
  obtain ⟨hX, hbl, hbA⟩ := hSC
  subst hRm
  obtain ⟨h1, h2, h3, h4, h5, h6⟩ := hrm
  intro H locs ls hS hl
  have hAs := dm_Asub hA hS
  have hXH : va_X b L xs s H := hX.kept (hS.2.2.2.2.1 b hbl hbA)
  refine dm_cont (va_runS (As := As.map dm_v) (rest := rest.map dm_v) (n := n) (index := idx) ⟨hx, hbb, hml, hown, hts⟩ (hM (fun z => hbA (hAs b z)) l D dA hl0) ⟨callB_of n hts (wall_cons w4) rfl h1 h2 (hts _ w5) (hts _ w1) hd0 ⟨h3, h4⟩, hts _ w2⟩ ⟨fun a U g mk h => ⟨dm_blind a U g mk h.1, va_X.moved (u := U) (U := U.calling g mk a) (Vm.Alike.refl U.vm) h.2⟩, fun U hU hW => ⟨dm_pre hA hK hEv hS U hU hW, by rw [hU]; exact hXH.moved hW.alike⟩⟩ rfl (by rw [List.length_map]; exact hn) hl.1 ?_ (lv_room (by rw [dm_cat_sum]; exact h8)) hd ⟨h5, h6⟩) hS hAs hAs fun rv' u H1 locs1 hF hS1 => ?_
  · show stk.map dm_v = _
    rw [hs, List.map_append, List.map_reverse]
  · obtain ⟨e1, rfl⟩ := hF
    rw [dm_pret (ls := []) hs' e1]
    exact kk H1 locs1 ls hS1 hl
theorem r_callIN {b : Nat} {host : String} (hM : dm_K1 y cy maxL none rmy mc ms (DR (some b) :: As) st rv st1) (Cx : dm_C Y cc own rm) (w1 : (own, idx, y, host) ∈ dm_nst) (w2 : Cond.instanceMethod y ∈ WALL) (hy1 : y.name = "<init>") (w4 : Cond.code y cy maxL none ∈ WALL) (w5 : Cond.initialized y.cls ∈ WALL) (hd0 : dm_md y n) (hn : As.length = n) (hrm : rmy.cells = mc ∧ rmy.slots = ms ∧ rmy.frames + 1 ≤ rm.frames ∧ 8 + (maxL + 11) + rmy.locals ≤ rm.locals ∧ cs + mc ≤ rm.cells ∧ ss + ms ≤ rm.slots) (hd : decode cc pc = .ok (.invokespecial idx, 3)) (hs : stk = As.reverse ++ DR (some b) :: rest) (h8 : (rest.map dm_cat).sum ≤ 8) (hs' : rv.toList ++ rest = stk') (kk : dm_W Y (cs + mc) (ss + ms) st1 (pc + 3) lv stk') : dm_W Y cs ss st pc lv stk := by
  obtain ⟨⟨p, l, e, R, s⟩, ⟨m, args, below, meth, c⟩, ⟨D, dA, A0, nL, Q⟩⟩ := Y
  obtain ⟨hx, hbb, hml, hown, hts, hK, hA, hRm, hl0, hEv⟩ := Cx
  subst hRm
  obtain ⟨h1, h2, h3, h4, h5, h6⟩ := hrm
  intro H locs ls hS hl
  have hAs := dm_Asub hA hS
  refine dm_cont (va_runIN (b := b) (As := As.map dm_v) (rest := rest.map dm_v) (n := n) (index := idx) (host := host) ⟨hx, hbb, hml, hown, hts⟩ (hM l D dA hl0) ⟨va_cnB n hts (wall_cons w4) rfl h1 h2 (hEv.2.2.2.2.2.1.1 _ w1) (hts _ w5) hd0 ⟨h3, h4⟩, hy1, hts _ w2⟩ ⟨dm_blind, dm_pre hA hK hEv hS⟩ rfl (by rw [List.length_map]; exact hn) hl.1 ?_ (lv_room (by rw [dm_cat_sum]; exact h8)) hd ⟨h5, h6⟩) hS hAs hAs fun rv' u H1 locs1 hF hS1 => ?_
  · show stk.map dm_v = _
    rw [hs, List.map_append, List.map_reverse]
    rfl
  · obtain ⟨e1, rfl⟩ := hF
    rw [dm_pret (ls := []) hs' e1]
    exact kk H1 locs1 ls hS1 hl
end DSCR
