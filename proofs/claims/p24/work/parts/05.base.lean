/-! THE ABSTRACT HEAP: typed values, cells, a heap as a function from addresses; one word dm_W for 'from here the method goes on well' -/
abbrev DV : Type := Int32 ⊕ (Option Nat ⊕ (Int64 ⊕ UInt64))
abbrev DI (x : Int32) : DV := .inl x
abbrev DR (r : Option Nat) : DV := .inr (.inl r)
abbrev DL (x : Int64) : DV := .inr (.inr (.inl x))
abbrev DD (x : UInt64) : DV := .inr (.inr (.inr x))
def dm_v (v : DV) : Value := match v with
  | .inl x => .int x
  | .inr (.inl r) => va_rf r
  | .inr (.inr (.inl x)) => .long x
  | .inr (.inr (.inr x)) => .double x
def dm_cat (v : DV) : Nat := match v with
  | .inl _ => 1
  | .inr (.inl _) => 1
  | .inr (.inr _) => 2
theorem dm_cat_ok (v : DV) : (dm_v v).category = dm_cat v := by
  rcases v with x | (_ | a) | x | x <;> rfl
theorem dm_cat_sum (l : List DV) : ((l.map dm_v).map fun v => v.category).sum = (l.map dm_cat).sum := by
  induction l with
  | nil => rfl
  | cons a l ih => simp only [List.map_cons, List.sum_cons, ih, dm_cat_ok]
abbrev DCel : Type := (Nat × vp_A) ⊕ (Nat × List DV)
abbrev DHp : Type := Nat → Option DCel
abbrev DSt : Type := Nat × DHp
def dm_cel (dA : Nat → ClassId) (c : DCel) : va_E := match c with
  | .inl x => .inl (dA x.1, x.2)
  | .inr o => .inr (o.1, o.2.map dm_v)
def dm_tys (dA : Nat → ClassId) : List (ClassId × FieldType) := [(dA 0, .int), (dA 1, .boolean), (dA 2, .object "ChocolateMoulds$Bowl"), (dA 3, .object "ChocolateMoulds$Slab"), (dA 4, .object "ChocolateMoulds$Box"), (dA 5, .object "ChocolateMouldsLaw$Bowl"), (dA 6, .array .int)]
def dm_R (D : va_G) (dA : Nat → ClassId) (h : DHp) (H : Heap) : Prop := ∀ a e, h a = some e → va_at D vwCl (a, dm_cel dA e) H
def dm_A (st : DSt) : Nat → Prop := fun q => (∃ e, st.2 q = some e) ∨ st.1 ≤ q
def dm_S (D : va_G) (dA : Nat → ClassId) (A0 : Nat → Prop) (H0 : Heap) (st : DSt) (H : Heap) (locs : List Loc) : Prop :=
  dm_R D dA st.2 H ∧ H.size = st.1 ∧ (∀ q e, st.2 q = some e → A0 q) ∧ va_S A0 H0 H locs
/-- arrays of arrays of ints, and the private constructors of nest mates -/
def dm_AOA (U : State) : Prop := (Cond.arrayOver (.array .int)).before #[] U = true
theorem dm_AOA_spec {args : Array Value} {first s : State} {o : Option Outcome} {idx : List Nat} {t : FieldType} (h : (Cond.arrayOver (.array t)).holds args first o s idx = true) :
    ∃ comp c k, s.vm.findClass (FieldType.array t).toString = some comp ∧ (s.vm.classes.findIdx? fun x => match x.kind with | .array component _ => component == comp | _ => false) = some c ∧ s.vm.classes[c]? = some k ∧ k.kind = .array comp (.array t) ∧ s.vm.findClass ("[" ++ (FieldType.array t).toString) = some c := by
  simp only [Cond.holds, Cond.value, beq_iff_eq] at h
  cases hc : s.vm.findClass (FieldType.array t).toString with
  | none => simp [hc] at h
  | some comp =>
    simp only [hc, Option.bind_some, Option.bind_eq_some_iff, Option.map_eq_some_iff] at h
    obtain ⟨c, hi, k, hk, hb⟩ := h
    obtain ⟨hlt, hp, -⟩ := Array.findIdx?_eq_some_iff_getElem.mp hi
    have hkk : s.vm.classes[c] = k := (Array.getElem?_eq_some_iff.mp hk).2
    rw [hkk] at hp
    cases hkind : k.kind with
    | array component ty =>
      rw [hkind] at hb hp
      simp at hb hp
      exact ⟨comp, c, k, rfl, hi, hk, by rw [hkind, hp, hb.1], hb.2⟩
    | _ => rw [hkind] at hb; simp at hb
theorem dm_AOA.moved {u U : State} (hvm : u.vm.Alike U.vm) (h : dm_AOA u) : dm_AOA U := by
  obtain ⟨comp, c, k, h1, h2, h3, h4, h5⟩ := dm_AOA_spec h
  obtain ⟨k', hk', he⟩ := hvm.2.2 _ _ h3
  have hi : (U.vm.classes.findIdx? fun (x : Class) => match x.kind with | .array component _ => component == comp | _ => false) = some c := (hvm.findIdx?_eq _ (fun _ => rfl)).trans h2
  have hkind : k'.kind = .array comp (.array .int) := by rw [he]; exact h4
  have f1 : U.vm.findClass (FieldType.array .int).toString = some comp := by rw [hvm.findClass]; exact h1
  have f2 : U.vm.findClass ("[" ++ (FieldType.array .int).toString) = some c := by rw [hvm.findClass]; exact h5
  unfold dm_AOA Cond.before Cond.holds
  simp only [Cond.value]
  rw [f1, Option.bind_some]
  refine (congrArg (fun o : Option Nat => (o.bind (fun c => (U.vm.classes[c]?).map fun (k : Class) => match k.kind with | .array _ ty => decide (ty = FieldType.array .int) && decide (U.vm.findClass ("[" ++ (FieldType.array .int).toString) = some c) | _ => false) == some true)) hi).trans ?_
  simp [hk', hkind, f2]
def dm_Ev2 (U : State) : Prop := (∀ q ∈ dm_nst, va_Nw (.methodLinkNest q.1 q.2.1 q.2.2.1 q.2.2.2) U) ∧ dm_AOA U
theorem dm_Ev2.warm {s U : State} (hW : s.WarmedH U.vm) (h : dm_Ev2 s) : dm_Ev2 U := ⟨fun q hq => (h.1 q hq).warmM hW, h.2.moved hW.alike⟩
/-- what a throw needs of the start beyond the words: Throwable's two statics, the texts, what can be cast, arrays of objects -/
def dm_Ev (A0 : Nat → Prop) (U : State) (H : Heap) : Prop :=
  vx_Zq Bundle.tN "UNASSIGNED_STACK" Bundle.steD A0 U H ∧ vx_Zq Bundle.tN "SUPPRESSED_SENTINEL" Bundle.listD A0 U H ∧ (∀ q ∈ dm_strs, ∃ sa, vk_R q.1 q.2.1 q.2.2 sa U) ∧ (∀ q ∈ dm_cas, va_Nw (.castable q.1 q.2) U) ∧ (∀ y ∈ dm_dcl, va_Nw (.declares y) U) ∧ dm_Ev2 U ∧ (∀ q ∈ dm_arr, va_AO q U)
theorem dm_Nw.warmD {y : MethodName} {s U : State} (hW : s.WarmedH U.vm) (hZ : va_Nw (.declares y) s) : va_Nw (.declares y) U := va_tabs rfl (rfl : (s.setVm U.vm).vm = U.vm) (by rw [Cond.declares_setVm hW.alike]; exact hZ)
theorem dm_Ev.warm {A0 A1 : Nat → Prop} {s U : State} {H0 H : Heap} {locs : List Loc} (h : dm_Ev A0 s H0) (hW : s.WarmedH U.vm) (hS : va_S A0 H0 H locs) (hA : ∀ q, A1 q → A0 q) : dm_Ev A1 U H := by
  obtain ⟨h1, h2, h3, h4, hd, h5, h6⟩ := h
  refine ⟨((h1.kept hS.2.1).narrow hA).moved hW.alike, ((h2.kept hS.2.1).narrow hA).moved hW.alike, fun q hq => ?_, fun w hw => (h4 w hw).warmC hW, fun w hw => dm_Nw.warmD hW (hd w hw), h5.warm hW, fun q hq => (h6 q hq).moved hW.alike⟩
  obtain ⟨sa, h⟩ := h3 q hq
  exact ⟨sa, h.warm hW⟩
theorem dm_Ev.same {A0 : Nat → Prop} {U V : State} {H : Heap} (h : dm_Ev A0 U H) (hv : V.vm = U.vm) : dm_Ev A0 V H := by
  have hA : U.vm.Alike V.vm := by rw [hv]; exact Vm.Alike.refl _
  have hW : U.WarmedH V.vm := by rw [hv]; exact State.WarmedH.refl U
  obtain ⟨h1, h2, h3, h4, hd, h5, h6⟩ := h
  refine ⟨h1.moved hA, h2.moved hA, fun q hq => ?_, fun w hw => (h4 w hw).warmC hW, fun w hw => dm_Nw.warmD hW (hd w hw), h5.warm hW, fun q hq => (h6 q hq).moved hA⟩
  obtain ⟨sa, h⟩ := h3 q hq
  exact ⟨sa, h.same hv⟩
/-- all that stays during a walk -/
abbrev DY : Type := (Program × Launch × Env × Room × State) × (MethodId × Array Value × List Frame × Method × Code) × (va_G × (Nat → ClassId) × (Nat → Prop) × Nat × (State → Prop))
def dm_lv (lv : List (Nat × DV)) : List (Nat × Value) := lv.map fun q => (q.1, dm_v q.2)
def dm_W (Y : DY) (cs ss : Nat) (st : DSt) (pc : Nat) (lv : List (Nat × DV)) (stk : List DV) : Prop :=
  match Y with
  | ((p, l, e, R, s), (m, args, below, meth, c), (D, dA, A0, nL, Q)) =>
    ∀ (H : Heap) (locs : List Loc) (ls : Array Slot), dm_S D dA A0 s.heap st H locs → lv_has ls nL (dm_lv lv) → W p l e R s m args below meth c H locs cs ss Q (F0 m pc ls (stk.map dm_v))
def dm_C (Y : DY) (cc : ByteArray) (own : String) (rm : Room) : Prop :=
  match Y with
  | ((p, l, _, R, s), (m, args, _, _, c), (D, dA, A0, nL, _)) =>
    p.tables.exec = Jvm.exec ∧ c.code = cc ∧ c.maxLocals = nL ∧ s.vm.findClass own = some m.cls ∧ (∀ w ∈ WALL, w.before args s = true) ∧ va_K D vwCl (dm_tys dA) s ∧ (∀ q, s.heap.size ≤ q → A0 q) ∧ R = rm ∧ l.stackTraces = false ∧ dm_Ev A0 s s.heap
/-! contracts -/
def dm_Pc (D : va_G) (dA : Nat → ClassId) (avs : List DV) (st : DSt) : Array Value → State → Prop := va_Pc (avs.map dm_v) (fun U => dm_R D dA st.2 U.heap ∧ U.heap.size = st.1 ∧ va_K D vwCl (dm_tys dA) U ∧ dm_Ev (dm_A st) U U.heap)
def dm_B (D : va_G) (dA : Nat → ClassId) (A : Nat → Prop) (u : DSt) (t : State) : Prop := dm_R D dA u.2 t.heap ∧ t.heap.size = u.1 ∧ ∀ q e, u.2 q = some e → A q
def dm_Qc (Fin : Option DV → DSt → Prop) (D : va_G) (dA : Nat → ClassId) (A : Nat → Prop) : Array Value → State → Outcome → State → Prop := fun _ st oc t =>
  (∃ (rv : Option DV) (u : DSt), oc = .returned (rv.map dm_v) ∧ Fin rv u ∧ dm_B D dA A u t) ∧ va_F A st t
def dm_XC (FinX : String → DHp → Prop) (D : va_G) (dA : Nat → ClassId) (A : Nat → Prop) : String → State → State → Prop := fun E st t =>
  (∃ h : DHp, FinX E h ∧ dm_R D dA h t.heap ∧ ∀ q e, h q = some e → A q) ∧ va_F A st t
/-- a contract: from st, with these arguments, the method returns rv and leaves st1 -/
def dm_K1 (y : MethodName) (cy : ByteArray) (maxL : Nat) (ret : Option FieldType) (rmy : Room) (mc ms : Nat) (avs : List DV) (st : DSt) (rv : Option DV) (st1 : DSt) : Prop :=
  ∀ (l : Launch) (D : va_G) (dA : Nat → ClassId), l.stackTraces = false → Met l y (Cond.code y cy maxL ret :: WALL) rmy (dm_Pc D dA avs st) (dm_Qc (fun rv' u => rv' = rv ∧ u = st1) D dA (dm_A st)) mc ms (dm_A st)
abbrev DRes : Type := (String × DHp) ⊕ (Option DV × DSt)
/-- a contract of a method that returns or throws -/
def dm_K2 (y : MethodName) (cy : ByteArray) (maxL : Nat) (ret : Option FieldType) (rmy : Room) (mc ms : Nat) (avs : List DV) (st : DSt) (r : DRes) : Prop :=
  ∀ (l : Launch) (D : va_G) (dA : Nat → ClassId), l.stackTraces = false → vx_Met l y (Cond.code y cy maxL ret :: WALL) rmy (dm_Pc D dA avs st) (dm_Qc (fun rv u => r = .inr (rv, u)) D dA (dm_A st)) (dm_XC (fun E h => r = .inl (E, h)) D dA (dm_A st)) mc ms (dm_A st)
/-- the end of a method -/
def dm_E1 (Y : DY) (rt : Option FieldType) (mc ms : Nat) (Fin : Option DV → DSt → Prop) : Prop :=
  match Y with
  | ((_, _, _, _, s), (_, args, below, meth, _), (D, dA, A0, _, Q)) =>
    meth.sig.returnType = rt ∧ meth.locks = false ∧ ∀ t, MQ below (dm_Qc Fin D dA A0) args s mc ms A0 t → Q t
def dm_E2 (Y : DY) (mc ms : Nat) (FinX : String → DHp → Prop) : Prop :=
  match Y with
  | ((_, _, _, _, s), (_, args, below, meth, c), (D, dA, A0, _, Q)) =>
    meth.locks = false ∧ (∀ x ∈ c.exceptionTable.toList, False) ∧ ∃ Qc, ∀ t, vx_MQ below Qc (dm_XC FinX D dA A0) args s mc ms A0 t → Q t
theorem dm_mono {p : Program} {l : Launch} {e : Env} {R : Room} {s : State} {m : MethodId} {args : Array Value} {below : List Frame} {meth : Method} {c : Code} {H : Heap} {locs : List Loc} {cells slots : Nat} {Q Q' : State → Prop} {g : JFrame} (h : ∀ t, Q t → Q' t) (k : W p l e R s m args below meth c H locs cells slots Q g) : W p l e R s m args below meth c H locs cells slots Q' g := fun T hT X => by
  obtain ⟨t, a, b⟩ := k T hT X
  exact ⟨t, a, h t b⟩
theorem dm_R.mono {D : va_G} {dA : Nat → ClassId} {h : DHp} {H H1 : Heap} (hR : dm_R D dA h H) (hq : ∀ q : Nat, q < H.size → H1[q]? = H[q]?) : dm_R D dA h H1 := fun a e he => (hR a e he).kept (hq a (hR a e he).lt)
theorem dm_R.put {D : va_G} {dA : Nat → ClassId} {h : DHp} {H H1 : Heap} {a : Nat} {e : DCel} (hR : dm_R D dA h H) (hq : ∀ q : Nat, q ≠ a → H1[q]? = H[q]?) (hn : va_at D vwCl (a, dm_cel dA e) H1) : dm_R D dA (va_up h a (some e)) H1 := fun b e' he => by
  by_cases hb : b = a
  · subst hb
    simp only [va_up, if_true] at he
    cases he
    exact hn
  · simp only [va_up, if_neg hb] at he
    exact (hR b e' he).kept (hq b hb)
theorem dm_R.new {D : va_G} {dA : Nat → ClassId} {h : DHp} {H H1 : Heap} {e : DCel} (hR : dm_R D dA h H) (hq : ∀ q : Nat, q < H.size → H1[q]? = H[q]?) (hn : va_at D vwCl (H.size, dm_cel dA e) H1) : dm_R D dA (va_up h H.size (some e)) H1 := fun b e' he => by
  by_cases hb : b = H.size
  · subst hb
    simp only [va_up, if_true] at he
    cases he
    exact hn
  · simp only [va_up, if_neg hb] at he
    exact (hR b e' he).kept (hq b (hR b e' he).lt)
theorem dm_up_dom {h : DHp} {a : Nat} {e : DCel} {A0 : Nat → Prop} (hd : ∀ q e, h q = some e → A0 q) (ha : A0 a) : ∀ q e', va_up h a (some e) q = some e' → A0 q := fun q e' he => by
  by_cases hb : q = a
  · rw [hb]; exact ha
  · simp only [va_up, if_neg hb] at he
    exact hd q e' he
/-! pure steps over the abstract heap -/
def oB {α β : Type} (o : Option α) (k : α → Option β) : Option β := match o with
  | none => none
  | some a => k a
theorem ob {α β : Type} {o : Option α} {k : α → Option β} {r : β} (h : oB o k = some r) : ∃ a, o = some a ∧ k a = some r := by
  cases o with
  | none => cases h
  | some a => exact ⟨a, rfl, h⟩
/-- a call that may throw: the throw goes on -/
def xB {α β : Type} (o : Option ((String × DHp) ⊕ α)) (k : α → Option ((String × DHp) ⊕ β)) : Option ((String × DHp) ⊕ β) := match o with
  | none => none
  | some (.inl e) => some (.inl e)
  | some (.inr a) => k a
theorem xb {α β : Type} {o : Option ((String × DHp) ⊕ α)} {k : α → Option ((String × DHp) ⊕ β)} {r : (String × DHp) ⊕ β} (h : xB o k = some r) : (∃ e, o = some (.inl e) ∧ r = .inl e) ∨ ∃ a, o = some (.inr a) ∧ k a = some r := by
  rcases o with _ | e | a
  · cases h
  · exact Or.inl ⟨e, rfl, (Option.some.inj h).symm⟩
  · exact Or.inr ⟨a, rfl, h⟩
/-- a call that must not throw here -/
def nX {α : Type} (o : Option ((String × DHp) ⊕ α)) : Option α := match o with
  | some (.inr a) => some a
  | _ => none
theorem nx {α : Type} {o : Option ((String × DHp) ⊕ α)} {a : α} (h : nX o = some a) : o = some (.inr a) := by
  rcases o with _ | e | b
  · cases h
  · cases h
  · cases h; rfl
theorem oi_t {α : Type} {c : Prop} [Decidable c] {a b : α} {r : α} (hc : c) (h : (if c then a else b) = r) : a = r := by rw [if_pos hc] at h; exact h
theorem oi_f {α : Type} {c : Prop} [Decidable c] {a b : α} {r : α} (hc : ¬ c) (h : (if c then a else b) = r) : b = r := by rw [if_neg hc] at h; exact h
def gO (st : DSt) (r : Option Nat) (ci : Nat) : Option (Nat × List DV) := match r with
  | none => none
  | some a => match st.2 a with
    | some (.inr (c, fs)) => if c = ci then some (a, fs) else none
    | _ => none
theorem gO_spec {st : DSt} {r : Option Nat} {ci : Nat} {x : Nat × List DV} (h : gO st r ci = some x) : r = some x.1 ∧ st.2 x.1 = some (.inr (ci, x.2)) := by
  unfold gO at h
  split at h
  · cases h
  · split at h
    · rename_i hst
      split at h
      · rename_i hc
        cases h
        subst hc
        exact ⟨rfl, hst⟩
      · cases h
    · cases h
def asI (v : DV) : Option Int32 := match v with
  | .inl x => some x
  | _ => none
def asR (v : DV) : Option (Option Nat) := match v with
  | .inr (.inl r) => some r
  | _ => none
theorem asI_spec {v : DV} {x : Int32} (h : asI v = some x) : v = DI x := by
  rcases v with y | y | y | y <;> first | (cases h; rfl) | cases h
theorem asR_spec {v : DV} {x : Option Nat} (h : asR v = some x) : v = DR x := by
  rcases v with y | y | y | y <;> first | (cases h; rfl) | cases h
def gV (st : DSt) (r : Option Nat) (ci k : Nat) : Option DV := oB (gO st r ci) fun q => q.2[k]?
def gI (st : DSt) (r : Option Nat) (ci k : Nat) : Option Int32 := oB (gV st r ci k) asI
def gR (st : DSt) (r : Option Nat) (ci k : Nat) : Option (Option Nat) := oB (gV st r ci k) asR
def pV (st : DSt) (r : Option Nat) (ci k : Nat) (v : DV) : Option DSt := oB (gO st r ci) fun q => if k < q.2.length then some (st.1, va_up st.2 q.1 (some (.inr (ci, q.2.set k v)))) else none
/-- the receiver of a call: an object of that class -/
def oR (st : DSt) (r : Option Nat) (ci : Nat) : Option Nat := oB (gO st r ci) fun q => some q.1
/-- an array's cell: address, length, contents -/
def gA (st : DSt) (r : Option Nat) (kd : Nat) : Option (Nat × vp_A) := match r with
  | none => none
  | some a => match st.2 a with
    | some (.inl (c, x)) => if c = kd then some (a, x) else none
    | _ => none
theorem gA_spec {st : DSt} {r : Option Nat} {kd : Nat} {x : Nat × vp_A} (h : gA st r kd = some x) : r = some x.1 ∧ st.2 x.1 = some (.inl (kd, x.2)) := by
  unfold gA at h
  split at h
  · cases h
  · split at h
    · rename_i hst
      split at h
      · rename_i hc
        cases h
        subst hc
        exact ⟨rfl, hst⟩
      · cases h
    · cases h
def gAI (st : DSt) (r : Option Nat) (kd : Nat) : Option (Nat × Nat × (Nat → Int32)) := oB (gA st r kd) fun q => match q.2.2 with
  | .inl f => some (q.1, q.2.1, f)
  | _ => none
def gAR (st : DSt) (r : Option Nat) (kd : Nat) : Option (Nat × Nat × (Nat → Option Nat)) := oB (gA st r kd) fun q => match q.2.2 with
  | .inr (.inr (.inr (.inr f))) => some (q.1, q.2.1, f)
  | _ => none
def gAL (st : DSt) (r : Option Nat) (kd : Nat) : Option (Nat × Nat × (Nat → Int64)) := oB (gA st r kd) fun q => match q.2.2 with
  | .inr (.inl f) => some (q.1, q.2.1, f)
  | _ => none
theorem gAI_spec {st : DSt} {r : Option Nat} {kd : Nat} {x : Nat × Nat × (Nat → Int32)} (h : gAI st r kd = some x) : r = some x.1 ∧ st.2 x.1 = some (.inl (kd, (x.2.1, .inl x.2.2))) := by
  obtain ⟨⟨a, n, z⟩, h1, h2⟩ := ob h
  obtain ⟨h3, h4⟩ := gA_spec h1
  rcases z with f | f | f | f | f <;> first | (cases h2; exact ⟨h3, h4⟩) | cases h2
theorem gAR_spec {st : DSt} {r : Option Nat} {kd : Nat} {x : Nat × Nat × (Nat → Option Nat)} (h : gAR st r kd = some x) : r = some x.1 ∧ st.2 x.1 = some (.inl (kd, (x.2.1, .inr (.inr (.inr (.inr x.2.2)))))) := by
  obtain ⟨⟨a, n, z⟩, h1, h2⟩ := ob h
  obtain ⟨h3, h4⟩ := gA_spec h1
  rcases z with f | f | f | f | f <;> first | (cases h2; exact ⟨h3, h4⟩) | cases h2
theorem gAL_spec {st : DSt} {r : Option Nat} {kd : Nat} {x : Nat × Nat × (Nat → Int64)} (h : gAL st r kd = some x) : r = some x.1 ∧ st.2 x.1 = some (.inl (kd, (x.2.1, .inr (.inl x.2.2)))) := by
  obtain ⟨⟨a, n, z⟩, h1, h2⟩ := ob h
  obtain ⟨h3, h4⟩ := gA_spec h1
  rcases z with f | f | f | f | f <;> first | (cases h2; exact ⟨h3, h4⟩) | cases h2
def inA (i : Int32) (n : Nat) : Bool := !(decide (i < 0)) && decide (i.toNatClampNeg < n)
theorem inA_in {i : Int32} {n : Nat} (h : inA i n = true) : vp_in i n := by
  unfold inA at h
  simp only [Bool.and_eq_true, Bool.not_eq_true', decide_eq_false_iff_not, decide_eq_true_eq] at h
  rintro (q | q)
  · exact h.1 q
  · omega
def aI (st : DSt) (r : Option Nat) (kd : Nat) (i : Int32) : Option Int32 := oB (gAI st r kd) fun q => if inA i q.2.1 = true then some (q.2.2 i.toNatClampNeg) else none
def aR (st : DSt) (r : Option Nat) (kd : Nat) (i : Int32) : Option (Option Nat) := oB (gAR st r kd) fun q => if inA i q.2.1 = true then some (q.2.2 i.toNatClampNeg) else none
def aL (st : DSt) (r : Option Nat) (kd : Nat) (i : Int32) : Option Int64 := oB (gAL st r kd) fun q => if inA i q.2.1 = true then some (q.2.2 i.toNatClampNeg) else none
def sI (st : DSt) (r : Option Nat) (kd : Nat) (i x : Int32) : Option DSt := oB (gAI st r kd) fun q => if inA i q.2.1 = true then some (st.1, va_up st.2 q.1 (some (.inl (kd, (q.2.1, .inl (upd q.2.2 i.toNatClampNeg x)))))) else none
def sL (st : DSt) (r : Option Nat) (kd : Nat) (i : Int32) (x : Int64) : Option DSt := oB (gAL st r kd) fun q => if inA i q.2.1 = true then some (st.1, va_up st.2 q.1 (some (.inl (kd, (q.2.1, .inr (.inl (vp_updL q.2.2 i.toNatClampNeg x))))))) else none
/-- what may stand in an array of references: null, or an object of the class -/
def okR (st : DSt) (v : Option Nat) (ci : Nat) : Bool := match v with
  | none => true
  | some b => (gO st (some b) ci).isSome
def sR (st : DSt) (r : Option Nat) (kd ci : Nat) (i : Int32) (v : Option Nat) : Option DSt := oB (gAR st r kd) fun q => if inA i q.2.1 = true ∧ okR st v ci = true then some (st.1, va_up st.2 q.1 (some (.inl (kd, (q.2.1, .inr (.inr (.inr (.inr (va_up q.2.2 i.toNatClampNeg v))))))))) else none
def aN (st : DSt) (r : Option Nat) (kd : Nat) : Option Int32 := oB (gA st r kd) fun q => some (Int32.ofNat q.2.1)
def nC (st : DSt) (c : DCel) : DSt := (st.1 + 1, va_up st.2 st.1 (some c))
def nI0 (n : Nat) : vp_A := (n, .inl (fun _ => 0))
def nL0 (n : Nat) : vp_A := (n, .inr (.inl (fun _ => 0)))
def nR0 (n : Nat) : vp_A := (n, .inr (.inr (.inr (.inr (fun _ => none)))))
def cpI (st : DSt) (r0 : Option Nat) (sp : Int32) (r1 : Option Nat) (dp n : Int32) (kd : Nat) : Option DSt := oB (gAI st r0 kd) fun q0 => oB (gAI st r1 kd) fun q1 =>
  if ¬ sp < 0 ∧ ¬ dp < 0 ∧ ¬ n < 0 ∧ sp.toNatClampNeg + n.toNatClampNeg ≤ q0.2.1 ∧ dp.toNatClampNeg + n.toNatClampNeg ≤ q1.2.1 then some (st.1, va_up st.2 q1.1 (some (.inl (kd, (q1.2.1, .inl (va_cpy q0.2.2 q1.2.2 sp.toNatClampNeg dp.toNatClampNeg n.toNatClampNeg)))))) else none
def jmax (x y : Int32) : Int32 := if x < y then y else x
def jmin (x y : Int32) : Int32 := if y < x then y else x
/-- division: the divisor isn't 0 -/
def oD (x y : Int32) : Option Int32 := if y = 0 then none else some (x / y)
theorem oD_spec {x y z : Int32} (h : oD x y = some z) : ¬ y = 0 ∧ z = x / y := by
  unfold oD at h
  split at h
  · cases h
  · rename_i h0
    cases h
    exact ⟨h0, rfl⟩
/-- a boolean that is returned -/
def oZ (x : Int32) : Option Int32 := if x = 0 ∨ x = 1 then some x else none
theorem oZ_spec {x z : Int32} (h : oZ x = some z) : z = x ∧ narrow .boolean (.int x) = .int x := by
  unfold oZ at h
  split at h
  · rename_i h0
    cases h
    refine ⟨rfl, ?_⟩
    rcases h0 with h0 | h0 <;> subst h0 <;> rfl
  · cases h
/-! loops: a step goes on with a new state, or ends -/
def dl_it {σ β : Type} (f : σ → Option (σ ⊕ β)) : Nat → σ → Option β
  | 0, _ => none
  | n + 1, s => match f s with
    | none => none
    | some (.inl s') => dl_it f n s'
    | some (.inr b) => some b
theorem dl_more {σ β : Type} (f : σ → Option (σ ⊕ β)) : ∀ (n : Nat) (s : σ) (b : β), dl_it f n s = some b → dl_it f (n + 1) s = some b := by
  intro n
  induction n with
  | zero => intro s b h; cases h
  | succ n ih =>
    intro s b h
    unfold dl_it at h ⊢
    rcases hf : f s with _ | s' | b'
    · rw [hf] at h; cases h
    · rw [hf] at h
      exact ih s' b h
    · rw [hf] at h
      exact h
theorem dl_more' {σ β : Type} (f : σ → Option (σ ⊕ β)) {n : Nat} {s : σ} {b : β} (h : dl_it f n s = some b) : ∀ k, dl_it f (n + k) s = some b := by
  intro k
  induction k with
  | zero => exact h
  | succ k ih => exact dl_more f _ _ _ ih
theorem dl_one {σ β : Type} (f : σ → Option (σ ⊕ β)) {n m : Nat} {s : σ} {b b' : β} (h : dl_it f n s = some b) (h' : dl_it f m s = some b') : b = b' := by
  have h1 := dl_more' f h m
  have h2 := dl_more' f h' n
  rw [Nat.add_comm m n] at h2
  rw [h1] at h2
  exact Option.some.inj h2
noncomputable def dlp {σ β : Type} (f : σ → Option (σ ⊕ β)) (s : σ) : Option β :=
  @dite _ (∃ n b, dl_it f n s = some b) (Classical.propDecidable _) (fun h => some (Classical.choose (Classical.choose_spec h))) (fun _ => none)
theorem dlp_of {σ β : Type} {f : σ → Option (σ ⊕ β)} {n : Nat} {s : σ} {b : β} (h : dl_it f n s = some b) : dlp f s = some b := by
  have hx : ∃ n b, dl_it f n s = some b := ⟨n, b, h⟩
  unfold dlp
  rw [dif_pos hx]
  exact congrArg some (dl_one f (Classical.choose_spec (Classical.choose_spec hx)) h)
theorem dlp_it {σ β : Type} {f : σ → Option (σ ⊕ β)} {s : σ} {b : β} (h : dlp f s = some b) : ∃ n, dl_it f n s = some b := by
  unfold dlp at h
  by_cases hx : ∃ n b, dl_it f n s = some b
  · obtain ⟨n, b', h'⟩ := hx
    rw [dif_pos ⟨n, b', h'⟩] at h
    cases h
    exact ⟨_, Classical.choose_spec (Classical.choose_spec (⟨n, b', h'⟩ : ∃ n b, dl_it f n s = some b))⟩
  · rw [dif_neg hx] at h
    cases h
theorem dlp_step {σ β : Type} (f : σ → Option (σ ⊕ β)) (s : σ) : dlp f s = match f s with
    | none => none
    | some (.inl s') => dlp f s'
    | some (.inr b) => some b := by
  rcases hf : f s with _ | s' | b
  · cases h : dlp f s with
    | none => rfl
    | some b =>
      obtain ⟨n, hn⟩ := dlp_it h
      cases n with
      | zero => cases hn
      | succ n => unfold dl_it at hn; rw [hf] at hn; cases hn
  · show dlp f s = dlp f s'
    cases h : dlp f s' with
    | none =>
      cases h2 : dlp f s with
      | none => rfl
      | some b =>
        obtain ⟨n, hn⟩ := dlp_it h2
        cases n with
        | zero => cases hn
        | succ n =>
          unfold dl_it at hn; rw [hf] at hn
          rw [dlp_of hn] at h; cases h
    | some b =>
      obtain ⟨n, hn⟩ := dlp_it h
      exact dlp_of (n := n + 1) (by unfold dl_it; rw [hf]; exact hn)
  · exact dlp_of (n := 1) (by unfold dl_it; rw [hf])
/-- the walk of a loop: what holds at its end holds at its head, if each step carries it back -/
theorem dlp_W {σ β : Type} (f : σ → Option (σ ⊕ β)) (Wh : σ → Prop) (We : β → Prop) (h : ∀ s r, f s = some r → (match r with | .inl s' => Wh s' | .inr b => We b) → Wh s) {s : σ} {b : β} (hf : dlp f s = some b) (he : We b) : Wh s := by
  obtain ⟨n, hn⟩ := dlp_it hf
  clear hf
  induction n generalizing s with
  | zero => cases hn
  | succ n ih =>
    unfold dl_it at hn
    rcases hs : f s with _ | s' | b'
    · rw [hs] at hn; cases hn
    · rw [hs] at hn
      exact h s _ hs (ih hn)
    · rw [hs] at hn
      cases hn
      exact h s _ hs he
/-- a loop that makes things: each step its share -/
theorem dl_Wc {σ β : Type} (f : σ → Option (σ ⊕ β)) (MC MS CM SM : Nat) (Wh : Nat → Nat → σ → Prop) (We : Nat → Nat → β → Prop) (hm : ∀ c c' s s' b, c ≤ c' → s ≤ s' → We c' s' b → We c s b) (hm' : ∀ c c' s s' b, c ≤ c' → s ≤ s' → Wh c' s' b → Wh c s b) (h : ∀ cs ss s r, f s = some r → cs + MC ≤ CM → ss + MS ≤ SM → (match r with | .inl s' => Wh (cs + MC) (ss + MS) s' | .inr b => We (cs + MC) (ss + MS) b) → Wh cs ss s) : ∀ n cs ss s b, dl_it f n s = some b → cs + n * MC ≤ CM → ss + n * MS ≤ SM → We (cs + n * MC) (ss + n * MS) b → Wh cs ss s := by
  intro n
  induction n with
  | zero => intro cs ss s b hn; cases hn
  | succ n ih =>
    intro cs ss s b hn h1 h2 he
    rw [Nat.succ_mul] at h1 h2
    rw [Nat.succ_mul, Nat.succ_mul] at he
    unfold dl_it at hn
    rcases hs : f s with _ | s' | b'
    · rw [hs] at hn; cases hn
    · rw [hs] at hn
      refine h cs ss s _ hs (by omega) (by omega) (ih _ _ _ _ hn (by omega) (by omega) ?_)
      rw [show cs + MC + n * MC = cs + (n * MC + MC) by omega, show ss + MS + n * MS = ss + (n * MS + MS) by omega]
      exact he
    · rw [hs] at hn
      cases hn
      exact h cs ss s _ hs (by omega) (by omega) (hm _ _ _ _ _ (by omega) (by omega) he)
/-- the rest of a division -/
def oM (x y : Int32) : Option Int32 := if y = 0 then none else some (x - x / y * y)
theorem oM_spec {x y z : Int32} (h : oM x y = some z) : ¬ y = 0 ∧ z = x - x / y * y := by
  unfold oM at h
  split at h
  · cases h
  · rename_i h0
    cases h
    exact ⟨h0, rfl⟩
/-- a new array of references, of a length that is counted -/
def nQ (st : DSt) (n : Int32) (cap kd : Nat) : Option DSt := if ¬ n < 0 ∧ n.toNatClampNeg ≤ cap then some (nC st (.inl (kd, nR0 n.toNatClampNeg))) else none
/-- what may stand in an array of arrays of ints -/
def sRA (st : DSt) (r : Option Nat) (kd : Nat) (i : Int32) (v : Option Nat) : Option DSt := oB (gAR st r kd) fun q => oB (gAI st v 0) fun w => if inA i q.2.1 = true then some (st.1, va_up st.2 q.1 (some (.inl (kd, (q.2.1, .inr (.inr (.inr (.inr (va_up q.2.2 i.toNatClampNeg (some w.1)))))))))) else none
/-- a copy of an array of ints -/
def clI (st : DSt) (r : Option Nat) (cap : Nat) : Option DSt := oB (gAI st r 0) fun q => if q.2.1 ≤ cap then some (nC st (.inl (0, (q.2.1, .inl q.2.2)))) else none
/-- an array of ints, as what is cast -/
def isAI (st : DSt) (r : Option Nat) : Option Unit := oB (gAI st r 0) fun _ => some ()
