/-! methods with handlers (the law's own callers), and the law's body as a proposition -/
def dm_T (Y : DY) (hh : List (Nat × Nat × Nat × Nat)) : Prop :=
  match Y with
  | (_, (_, _, _, _, c), _) => c.exceptionTable.toList = tableOf hh
def dm_KW (y : MethodName) (cy : ByteArray) (maxL : Nat) (ret : Option FieldType) (hh : List (Nat × Nat × Nat × Nat)) (rmy : Room) (mc ms : Nat) (avs : List DV) (st : DSt) (Fin : Option DV → DSt → Prop) : Prop :=
  ∀ (l : Launch) (D : va_G) (dA : Nat → ClassId), l.stackTraces = false → Met l y (Cond.codeWith y cy maxL ret hh :: WALL) rmy (dm_Pc D dA avs st) (dm_Qc Fin D dA (dm_A st)) mc ms (dm_A st)
theorem dm_ofWH {l : Launch} {y : MethodName} {ws ws' : List Cond} {rm : Room} {Pc : Array Value → State → Prop} {Qc : Array Value → State → Outcome → State → Prop} {mc ms : Nat} {free : Addr → Prop} {cc : ByteArray} {maxL : Nat} {ret : Option FieldType} {hh : List (Nat × Nat × Nat × Nat)}
    (hy : plainName y.cls = true) (hw : ws = Cond.codeWith y cc maxL ret hh :: ws')
    (body : ∀ p e s m args below meth c s₁, BodyLoose p l y (headSpec ws rm) cc maxL ret e s m args below meth c s₁ → c.maxLocals = maxL → Pc args s →
      W p l e (headSpec ws rm).room s m args below meth c s.heap [] 0 0 (MQ below Qc args s mc ms free) (entryFrame m args maxL)) : Met l y ws rm Pc Qc mc ms free := by
  refine MetFree.of_bodyS (code := cc) (maxLocals := maxL) (ret := ret) hy ?_ ?_
  · intro args s m h hn
    obtain ⟨m9, meth, c, hn9, h1, h2, h3, h4, -, h5, h6, -⟩ := Cond.codeWith_spec (atoms_spec (ws := ws) h _ (by rw [hw]; exact List.mem_cons_self))
    cases hn.symm.trans hn9
    exact ⟨meth, c, h1, h2, h3, h4, h5, h6⟩
  · intro p e s m args below meth c s₁ B hml hP _
    have hh0 : s₁.heap = s.heap := by rw [B.state]; rfl
    obtain ⟨t, a1, o, b1, b2, b3⟩ := body p e s m args below meth c s₁ B hml hP s₁ hh0 (Stand.of_body B)
    exact ⟨t, o, a1, b1, b2, ⟨b3.1, b3.2⟩⟩
theorem dm_kw {y : MethodName} {cy : ByteArray} {maxL mc ms : Nat} {ret : Option FieldType} {hh : List (Nat × Nat × Nat × Nat)} {rmy : Room} {avs : List DV} {st : DSt} {Fin : Option DV → DSt → Prop} {own : String} (hy : plainName y.cls = true) (ho : y.cls = own) (hlen : (avs.map dm_cat).sum ≤ maxL)
    (body : ∀ Y : DY, dm_C Y cy own rmy → dm_N Y maxL → dm_E1 Y ret mc ms Fin → dm_T Y hh → dm_W Y 0 0 st 0 (dm_args 0 avs) []) : dm_KW y cy maxL ret hh rmy mc ms avs st Fin := by
  intro l D dA hl0
  refine dm_ofWH (cc := cy) (maxL := maxL) (ret := ret) (hh := hh) hy rfl ?_
  intro p e s m args below meth c s₁ B hml hv
  obtain ⟨rfl, hR, hsz, hK, hEv⟩ := hv
  have hts : ∀ w ∈ WALL, w.before (avs.map dm_v).toArray s = true := fun w hw => atoms_spec (ws := Cond.codeWith y cy maxL ret hh :: WALL) B.pre w (List.mem_cons_of_mem _ hw)
  have hown : s.vm.findClass own = some m.cls := by rw [← ho]; exact findClass_of_methodNamed B.named
  have hA : ∀ q, s.heap.size ≤ q → dm_A st q := fun q h => Or.inr (by rw [← hsz]; exact h)
  have hT : c.exceptionTable.toList = tableOf hh := vx_table (x := y) B (atoms_spec (ws := Cond.codeWith y cy maxL ret hh :: WALL) B.pre _ List.mem_cons_self)
  have h := body ((p, l, e, _, s), (m, _, below, meth, c), (D, dA, dm_A st, maxL, _)) ⟨B.exec, B.bytes, hml, hown, hts, hK, hA, rfl, hl0, hEv⟩ rfl ⟨B.returns, B.notSynchronized, fun t ht => ht⟩ hT
  rw [lg_entry_eq]
  refine h s.heap [] _ ⟨hR, hsz, fun q e he => Or.inl ⟨e, he⟩, va_S.rf⟩ ?_
  rw [← dm_args_lv]
  exact lv_entry (avs.map dm_v) (by rw [dm_args_len]; exact hlen)
/-- what a caller with handlers answers -/
def wrF (code : String → Option Int32) (out : Option Nat) (r : (String × DHp) ⊕ (Int32 × DSt)) (rv : Option DV) (u : DSt) : Prop := match r with
  | .inl e => ∃ k, code e.1 = some k ∧ rv = some (DI k) ∧ u.2 = e.2
  | .inr q => sL q.2 out 5 0 q.1.toInt64 = some u ∧ rv = some (DI 0)
def wrOK (code : String → Option Int32) (out : Option Nat) (r : (String × DHp) ⊕ (Int32 × DSt)) : Prop := match r with
  | .inl e => ∃ k, code e.1 = some k
  | .inr q => ∃ u, sL q.2 out 5 0 q.1.toInt64 = some u
def wrP (st : DSt) (r : (String × DHp) ⊕ Int32) : (String × DHp) ⊕ (Int32 × DSt) := match r with
  | .inl e => .inl e
  | .inr v => .inr (v, st)
theorem wr_int {code out r rv u} (h : wrF code out r rv u) : ∃ k : Int32, rv = some (DI k) := by
  rcases r with e | q
  · obtain ⟨k, -, h, -⟩ := h
    exact ⟨k, h⟩
  · exact ⟨0, h.2⟩
section DWRAP
variable {Y : DY} {cc : ByteArray} {own : String} {rm : Room} {cs ss pc : Nat} {st st1 : DSt} {lv : List (Nat × DV)} {stk stk' rest : List DV}
variable {y : MethodName} {cy : ByteArray} {maxL mc ms n idx : Nat} {ret : Option FieldType} {rmy : Room} {As : List DV} {hh : List (Nat × Nat × Nat × Nat)} {Fin : Option DV → DSt → Prop}
theorem r_callSW (hM : dm_KW y cy maxL ret hh rmy mc ms As st Fin) (Cx : dm_C Y cc own rm) (w1 : Cond.methodLink own idx y ∈ WALL) (w2 : Cond.static y ∈ WALL) (w4 : Cond.codeWith y cy maxL ret hh ∈ WALL) (w5 : Cond.initialized y.cls ∈ WALL) (hd0 : dm_md y n) (hn : As.length = n) (hrm : rmy.cells = mc ∧ rmy.slots = ms ∧ rmy.frames + 1 ≤ rm.frames ∧ 8 + (maxL + 11) + rmy.locals ≤ rm.locals ∧ cs + mc ≤ rm.cells ∧ ss + ms ≤ rm.slots) (hd : decode cc pc = .ok (.invokestatic idx, 3)) (hs : stk = As.reverse ++ rest) (h8 : (rest.map dm_cat).sum ≤ 8) (kk : ∀ rv u, Fin rv u → (∀ q e, u.2 q = some e → q < u.1) → dm_W Y (cs + mc) (ss + ms) u (pc + 3) lv (rv.toList ++ rest)) : dm_W Y cs ss st pc lv stk := by
  obtain ⟨⟨p, l, e, R, s⟩, ⟨m, args, below, meth, c⟩, ⟨D, dA, A0, nL, Q⟩⟩ := Y
  obtain ⟨hx, hbb, hml, hown, hts, hK, hA, hRm, hl0, hEv⟩ := Cx
  subst hRm
  obtain ⟨h1, h2, h3, h4, h5, h6⟩ := hrm
  intro H locs ls hS hl
  have hAs := dm_Asub hA hS
  have hws := fun w hw => wall_cons w4 w hw
  have hG : GoodIn WALL (va_wsS own idx y (Cond.codeWith y cy maxL ret hh :: WALL)) := fun w hw => by
    unfold va_wsS at hw
    rcases List.mem_append.mp hw with hw | hw
    · have : w ∈ WALL := by
        rcases List.mem_cons.mp hw with rfl | hw
        · exact w1
        · rcases List.mem_cons.mp hw with rfl | hw
          · exact w2
          · rcases List.mem_cons.mp hw with rfl | hw
            · exact w5
            · cases hw
      exact ⟨this, wall_good _ this⟩
    · exact hws w hw
  refine dm_cont (vx_runSW (As := As.map dm_v) (rest := rest.map dm_v) (n := n) (index := idx) (hh := hh) ⟨hx, hbb, hml, hown, hts⟩ (hM l D dA hl0) (vx_cwSW n hts hG rfl h1 h2 hd0 ⟨h3, h4⟩) ⟨dm_blind, dm_pre hA hK hEv hS⟩ rfl (by rw [List.length_map]; exact hn) hl.1 ?_ (lv_room (by rw [dm_cat_sum]; exact h8)) hd ⟨h5, h6⟩) hS hAs hAs fun rv' u H1 locs1 hF hS1 => ?_
  · show stk.map dm_v = _
    rw [hs, List.map_append, List.map_reverse]
  · rw [dm_pret (ls := []) rfl rfl]
    exact kk rv' u hF (fun q e he => by rw [← hS1.2.1]; exact (hS1.1 q e he).lt) H1 locs1 ls hS1 hl
/-- caught by a row of this method's table -/
theorem r_catch {E : String} {h : DHp} (Cx : dm_C Y cc own rm) (hT : dm_T Y hh) (pre suf : List (Nat × Nat × Nat × Nat)) (x : Nat × Nat × Nat × Nat) (hsp : hh = pre ++ x :: suf) (hpre : ∀ z ∈ pre, z.2.2.2 ≠ 0 ∧ ∃ nm : String, Cond.classLink own z.2.2.2 nm ∈ WALL ∧ (E, nm) ∈ dm_ncs) (hcov : covers ⟨x.1, x.2.1, x.2.2.1, x.2.2.2⟩ pc = true) (h0 : x.2.2.2 ≠ 0) (w1 : Cond.classLink own x.2.2.2 E ∈ WALL) (hca : (E, E) ∈ dm_cas) (kk : ∀ q9 sz, dm_W Y cs ss (sz, h) x.2.2.1 lv [DR (some q9)]) : match Y with
      | ((p, l, e, R, s), (m, args, below, meth, c), (D, dA, A0, nL, Q)) => ∀ (E' : String) (h' : DHp) (ce : Cell) (q9 : Addr) (H1 : Heap) (locs1 : List Loc) (ls : Array Slot), (.inl (E, h) : DRes) = .inl (E', h') → dm_S D dA A0 s.heap (H1.size, h') H1 locs1 → lv_has ls nL (dm_lv lv) → H1[q9]? = some ce → ce.vm = .none → s.vm.findClass E' = some ce.cls → vx_W p l e R s m args below meth c H1 locs1 cs ss Q (F0 m pc ls (rest.map dm_v)) q9 := by
  obtain ⟨⟨p, l, e, R, s⟩, ⟨m, args, below, meth, c⟩, ⟨D, dA, A0, nL, Q⟩⟩ := Y
  obtain ⟨hx, hbb, hml, hown, hts, hK, hA, hRm, hl0, hEv⟩ := Cx
  intro E' h' ce q9 H1 locs1 ls hr hS hl g1 g2 g3
  cases hr
  have hT : c.exceptionTable.toList = tableOf hh := hT
  refine vx_catch hown (tableOf pre) ⟨x.1, x.2.1, x.2.2.1, x.2.2.2⟩ (tableOf suf) (by rw [hT, hsp]; unfold tableOf; rw [List.map_append, List.map_cons]) (fun z hz => ?_) hcov h0 (hts _ w1) (va_Nw.use rfl (hEv.2.2.2.1 _ hca)) g1 g2 g3 (kk q9 H1.size H1 locs1 ls hS hl)
  obtain ⟨z', hz', rfl⟩ := List.mem_map.mp hz
  obtain ⟨k1, nm, k2, k3⟩ := hpre z' hz'
  exact Or.inr ⟨k1, nm, hts _ k2, hEv.2.2.2.2.2.1 _ k3⟩
end DWRAP
/-! the law's body as a proposition -/
def pB {α : Type} (o : Option α) (k : α → Prop) : Prop := ∃ a, o = some a ∧ k a
theorem pb {α : Type} {o : Option α} {k : α → Prop} (h : pB o k) : ∃ a, o = some a ∧ k a := h
theorem pi_t {c : Prop} [Decidable c] {A B : Prop} (hc : c) (h : if c then A else B) : A := by rw [if_pos hc] at h; exact h
theorem pi_f {c : Prop} [Decidable c] {A B : Prop} (hc : ¬ c) (h : if c then A else B) : B := by rw [if_neg hc] at h; exact h
def pLoop {σ : Type} (f : σ → (σ → Prop) → Prop) : Nat → σ → Prop
  | 0, _ => False
  | n + 1, z => f z (pLoop f n)
def sldO (xs : Nat → Int32) (L : Nat) (i : Int32) : Option Int32 := if inA i L = true then some (xs i.toNatClampNeg) else none
/-- the law's own frame: the script at b, its end -/
def dm_LE (Y : DY) (b L : Nat) (xs : Nat → Int32) : Prop :=
  match Y with
  | ((_, _, _, R, s), (_, args, below, meth, c), (_, _, A0, _, Q)) => ∃ s0 : State, s = s0.setDrawn s0.drawn ∧ args = #[Value.ref b] ∧ R = room_1 ∧ Q = lw_Z below #[Value.ref b] s0 ∧ meth.sig.returnType = ret ∧ meth.locks = false ∧ c.code = code ∧ A0 = (fun q => s0.heap.size ≤ q) ∧ va_X b L xs s s.heap ∧ b < s.heap.size
section DLAW
variable {Y : DY} {cc : ByteArray} {own : String} {rm : Room} {cs ss pc : Nat} {st : DSt} {lv : List (Nat × DV)} {stk : List DV} {b L : Nat} {xs : Nat → Int32}
theorem r_sld {i v : Int32} (hLE : dm_LE Y b L xs) (Cx : dm_C Y cc own rm) (hd : decode cc pc = .ok (.iaload, 1)) (hv : sldO xs L i = some v) (kk : dm_W Y cs ss st (pc + 1) lv (DI v :: stk)) : dm_W Y cs ss st pc lv (DI i :: DR (some b) :: stk) := by
  obtain ⟨⟨p, l, e, R, s⟩, ⟨m, args, below, meth, c⟩, ⟨D, dA, A0, nL, Q⟩⟩ := Y
  obtain ⟨s0, hs, ha, hRm, hQ, hr, hlk, hcd, hA0, hX, hbl⟩ := hLE
  unfold sldO at hv
  split at hv
  · rename_i hin
    cases hv
    intro H locs ls hS hl
    refine va_sld Cx.1 Cx.2.1 hX hbl (A := A0) ?_ hS.2.2.2 (inA_in hin) hd (kk H locs ls hS hl)
    rw [hA0]
    have : s.heap = s0.heap := by rw [hs]; rfl
    rw [this] at hbl
    exact Nat.not_le.mpr hbl
  · cases hv
theorem r_slen (hLE : dm_LE Y b L xs) (Cx : dm_C Y cc own rm) (hd : decode cc pc = .ok (.arraylength, 1)) (kk : dm_W Y cs ss st (pc + 1) lv (DI (Int32.ofNat L) :: stk)) : dm_W Y cs ss st pc lv (DR (some b) :: stk) := by
  obtain ⟨⟨p, l, e, R, s⟩, ⟨m, args, below, meth, c⟩, ⟨D, dA, A0, nL, Q⟩⟩ := Y
  obtain ⟨s0, hs, ha, hRm, hQ, hr, hlk, hcd, hA0, hX, hbl⟩ := hLE
  intro H locs ls hS hl
  refine va_slen Cx.1 Cx.2.1 hX hbl (A := A0) ?_ hS.2.2.2 hd (kk H locs ls hS hl)
  rw [hA0]
  have : s.heap = s0.heap := by rw [hs]; rfl
  rw [this] at hbl
  exact Nat.not_le.mpr hbl
theorem r_lawret (hLE : dm_LE Y b L xs) (Cx : dm_C Y cc own rm) (hd : decode code pc = .ok (.ireturn, 1)) (h1 : cs ≤ lw_cells) (h2 : ss ≤ lw_slots) : dm_W Y cs ss st pc lv [DI 1] := by
  obtain ⟨⟨p, l, e, R, s⟩, ⟨m, args, below, meth, c⟩, ⟨D, dA, A0, nL, Q⟩⟩ := Y
  obtain ⟨s0, rfl, rfl, rfl, rfl, hr, hlk, hcd, rfl, hX, hbl⟩ := hLE
  intro H locs ls hS hl
  refine va_forget (fun q hq => hS.2.2.2.2.2 q hq) ?_
  refine W.widen h1 h2 ?_
  exact lw_ret (Drawn.sameBut.refl s0.drawn lw_cs) Cx.1 hcd hr hlk hd
end DLAW
