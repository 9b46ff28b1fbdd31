section
-- ===== PART A: goes FIRST, ahead of the names: the tables' words, and 'selects' of the private methods out of them =====
/-- a private method of a class that the tables say can be made, by its rows of tables_1 -/
def lw_okq (q : MethodName × Nat) : Prop := (q.1.cls ≠ "java/lang/invoke/MethodHandle" ∧ q.1.cls ≠ "java/lang/invoke/VarHandle") ∧ Cond.instantiable q.1.cls q.2 ∈ tables_1 ∧ Cond.privateMethod q.1 ∈ tables_1 ∧ Cond.instanceMethod q.1 ∈ tables_1
theorem lw_p0 : lw_okq (⟨"ChocolateMoulds", "slabAt", "(I)LChocolateMoulds$Slab;"⟩, 11) := ⟨⟨by decide +kernel, by decide +kernel⟩, List.mem_of_getElem? (i := 16) (by decide +kernel), List.mem_of_getElem? (i := 82) (by decide +kernel), List.mem_of_getElem? (i := 83) (by decide +kernel)⟩
theorem lw_p1 : lw_okq (⟨"ChocolateMoulds", "findSlab", "(I)LChocolateMoulds$Slab;"⟩, 11) := ⟨⟨by decide +kernel, by decide +kernel⟩, List.mem_of_getElem? (i := 16) (by decide +kernel), List.mem_of_getElem? (i := 86) (by decide +kernel), List.mem_of_getElem? (i := 87) (by decide +kernel)⟩
theorem lw_p2 : lw_okq (⟨"java/lang/Throwable", "fillInStackTrace", "(I)Ljava/lang/Throwable;"⟩, 6) := ⟨⟨by decide +kernel, by decide +kernel⟩, List.mem_of_getElem? (i := 128) (by decide +kernel), List.mem_of_getElem? (i := 126) (by decide +kernel), List.mem_of_getElem? (i := 127) (by decide +kernel)⟩
theorem lw_p3 : lw_okq (⟨"ChocolateMoulds", "bowlAt", "(I)LChocolateMoulds$Bowl;"⟩, 11) := ⟨⟨by decide +kernel, by decide +kernel⟩, List.mem_of_getElem? (i := 16) (by decide +kernel), List.mem_of_getElem? (i := 169) (by decide +kernel), List.mem_of_getElem? (i := 170) (by decide +kernel)⟩
theorem lw_p4 : lw_okq (⟨"ChocolateMoulds", "firstEmptyBoxFor", "(LChocolateMoulds$Slab;)I"⟩, 11) := ⟨⟨by decide +kernel, by decide +kernel⟩, List.mem_of_getElem? (i := 16) (by decide +kernel), List.mem_of_getElem? (i := 194) (by decide +kernel), List.mem_of_getElem? (i := 195) (by decide +kernel)⟩
theorem lw_p5 : lw_okq (⟨"ChocolateMoulds", "boxAt", "(I)LChocolateMoulds$Box;"⟩, 11) := ⟨⟨by decide +kernel, by decide +kernel⟩, List.mem_of_getElem? (i := 16) (by decide +kernel), List.mem_of_getElem? (i := 207) (by decide +kernel), List.mem_of_getElem? (i := 208) (by decide +kernel)⟩
theorem lw_p6 : lw_okq (⟨"ChocolateMoulds", "filledBoxes", "()I"⟩, 11) := ⟨⟨by decide +kernel, by decide +kernel⟩, List.mem_of_getElem? (i := 16) (by decide +kernel), List.mem_of_getElem? (i := 216) (by decide +kernel), List.mem_of_getElem? (i := 217) (by decide +kernel)⟩
theorem lw_p7 : lw_okq (⟨"ChocolateMoulds", "gramsOfBowls", "()I"⟩, 11) := ⟨⟨by decide +kernel, by decide +kernel⟩, List.mem_of_getElem? (i := 16) (by decide +kernel), List.mem_of_getElem? (i := 220) (by decide +kernel), List.mem_of_getElem? (i := 221) (by decide +kernel)⟩
theorem lw_p8 : lw_okq (⟨"ChocolateMoulds", "squaresOfSlabs", "()I"⟩, 11) := ⟨⟨by decide +kernel, by decide +kernel⟩, List.mem_of_getElem? (i := 16) (by decide +kernel), List.mem_of_getElem? (i := 224) (by decide +kernel), List.mem_of_getElem? (i := 225) (by decide +kernel)⟩
theorem lw_p9 : lw_okq (⟨"ChocolateMoulds", "bloomedSlabs", "()I"⟩, 11) := ⟨⟨by decide +kernel, by decide +kernel⟩, List.mem_of_getElem? (i := 16) (by decide +kernel), List.mem_of_getElem? (i := 228) (by decide +kernel), List.mem_of_getElem? (i := 229) (by decide +kernel)⟩
theorem lw_p10 : lw_okq (⟨"ChocolateMoulds", "addSlab", "(LChocolateMoulds$Slab;)I"⟩, 11) := ⟨⟨by decide +kernel, by decide +kernel⟩, List.mem_of_getElem? (i := 16) (by decide +kernel), List.mem_of_getElem? (i := 462) (by decide +kernel), List.mem_of_getElem? (i := 463) (by decide +kernel)⟩
theorem lw_p11 : lw_okq (⟨"ChocolateMoulds", "planFilling", "(I)I"⟩, 11) := ⟨⟨by decide +kernel, by decide +kernel⟩, List.mem_of_getElem? (i := 16) (by decide +kernel), List.mem_of_getElem? (i := 503) (by decide +kernel), List.mem_of_getElem? (i := 504) (by decide +kernel)⟩
theorem lw_p12 : lw_okq (⟨"ChocolateMoulds", "planSlab", "(LChocolateMoulds$Box;I)I"⟩, 11) := ⟨⟨by decide +kernel, by decide +kernel⟩, List.mem_of_getElem? (i := 16) (by decide +kernel), List.mem_of_getElem? (i := 507) (by decide +kernel), List.mem_of_getElem? (i := 508) (by decide +kernel)⟩
theorem lw_p13 : lw_okq (⟨"ChocolateMoulds", "moveIntoBox", "(ILChocolateMoulds$Box;)V"⟩, 11) := ⟨⟨by decide +kernel, by decide +kernel⟩, List.mem_of_getElem? (i := 16) (by decide +kernel), List.mem_of_getElem? (i := 511) (by decide +kernel), List.mem_of_getElem? (i := 512) (by decide +kernel)⟩
theorem lw_p14 : lw_okq (⟨"ChocolateMoulds", "closeGaps", "()V"⟩, 11) := ⟨⟨by decide +kernel, by decide +kernel⟩, List.mem_of_getElem? (i := 16) (by decide +kernel), List.mem_of_getElem? (i := 519) (by decide +kernel), List.mem_of_getElem? (i := 520) (by decide +kernel)⟩
def lw_privs_1 : List (MethodName × Nat) := [(⟨"ChocolateMoulds", "slabAt", "(I)LChocolateMoulds$Slab;"⟩, 11), (⟨"ChocolateMoulds", "findSlab", "(I)LChocolateMoulds$Slab;"⟩, 11), (⟨"java/lang/Throwable", "fillInStackTrace", "(I)Ljava/lang/Throwable;"⟩, 6), (⟨"ChocolateMoulds", "bowlAt", "(I)LChocolateMoulds$Bowl;"⟩, 11), (⟨"ChocolateMoulds", "firstEmptyBoxFor", "(LChocolateMoulds$Slab;)I"⟩, 11), (⟨"ChocolateMoulds", "boxAt", "(I)LChocolateMoulds$Box;"⟩, 11), (⟨"ChocolateMoulds", "filledBoxes", "()I"⟩, 11), (⟨"ChocolateMoulds", "gramsOfBowls", "()I"⟩, 11), (⟨"ChocolateMoulds", "squaresOfSlabs", "()I"⟩, 11), (⟨"ChocolateMoulds", "bloomedSlabs", "()I"⟩, 11), (⟨"ChocolateMoulds", "addSlab", "(LChocolateMoulds$Slab;)I"⟩, 11), (⟨"ChocolateMoulds", "planFilling", "(I)I"⟩, 11), (⟨"ChocolateMoulds", "planSlab", "(LChocolateMoulds$Box;I)I"⟩, 11), (⟨"ChocolateMoulds", "moveIntoBox", "(ILChocolateMoulds$Box;)V"⟩, 11), (⟨"ChocolateMoulds", "closeGaps", "()V"⟩, 11)]
theorem lw_r1 : ∀ q ∈ lw_privs_1, lw_okq q := List.forall_mem_cons.mpr ⟨lw_p0, List.forall_mem_cons.mpr ⟨lw_p1, List.forall_mem_cons.mpr ⟨lw_p2, List.forall_mem_cons.mpr ⟨lw_p3, List.forall_mem_cons.mpr ⟨lw_p4, List.forall_mem_cons.mpr ⟨lw_p5, List.forall_mem_cons.mpr ⟨lw_p6, List.forall_mem_cons.mpr ⟨lw_p7, List.forall_mem_cons.mpr ⟨lw_p8, List.forall_mem_cons.mpr ⟨lw_p9, List.forall_mem_cons.mpr ⟨lw_p10, List.forall_mem_cons.mpr ⟨lw_p11, List.forall_mem_cons.mpr ⟨lw_p12, List.forall_mem_cons.mpr ⟨lw_p13, List.forall_mem_cons.mpr ⟨lw_p14, fun _ h => absurd h List.not_mem_nil⟩⟩⟩⟩⟩⟩⟩⟩⟩⟩⟩⟩⟩⟩⟩
def lw_privs : List (MethodName × Nat) := lw_privs_1
def lw_tbl : List Cond := k2_sels lw_privs ++ tables_1
theorem lw_privs_ok : ∀ q ∈ lw_privs, lw_okq q := lw_r1
/-- the streams that the claim lets the run draw from -/
abbrev lw_cs : List Choice := [Jvm.Choice.named "NaN.bits"]
theorem lw_bits : nanBits ∈ lw_cs := by first | decide | exact List.mem_cons_self | simp [lw_cs, nanBits]

/-! ===== BEGIN words of one list among another's, by their places ===== -/
theorem goodIn_r {big : List Cond} (ws : List Cond) (ps : List Nat) (hp : ws = ps.filterMap (fun i => big[i]?)) (h : ws.all goodWord = true) : GoodIn big ws := by
  intro w hw
  have h1 := List.all_eq_true.mp h w hw
  rw [hp] at hw
  obtain ⟨i, -, hi⟩ := List.mem_filterMap.mp hw
  have hm : w ∈ big := by first | exact List.mem_of_getElem? hi | exact List.getElem?_mem hi
  exact ⟨hm, good_of_word h1⟩
theorem goodIn_app {big a b : List Cond} (ha : GoodIn big a) (hb : GoodIn big b) : GoodIn big (a ++ b) := fun w h => (List.mem_append.mp h).elim (ha w) (hb w)
theorem goodIn_ca {big a b : List Cond} {c : Cond} (ha : GoodIn big (c :: a)) (hb : GoodIn big b) : GoodIn big (c :: (a ++ b)) := fun w h => (List.mem_cons.mp h).elim (fun e => ha w (List.mem_cons.mpr (Or.inl e))) (fun h => (List.mem_append.mp h).elim (fun h => ha w (List.mem_cons.mpr (Or.inr h))) (hb w))
theorem goodIn_sub {big ws : List Cond} (hm : ∀ w ∈ ws, w ∈ big) (h : ws.all goodWord = true) : GoodIn big ws := fun w hw => ⟨hm w hw, good_of_word (List.all_eq_true.mp h w hw)⟩
/-! ===== END ===== -/

/-! ===== BEGIN exceptions that leave a method, and their catching by the caller (launches without stack traces) ===== -/
section VXA
/-! The laws vx_back, vx_callV, vx_callS, vx_callSW, vx_throw0, vx_throwS follow proofs of the library, with one case more: JvmDerived/Free/Laws.lean (Back.of_free), Shelf42/LK1.lean (callV, callS), Shelf/KitTraced.lean (throwNew0V, throwNewS). -/
/-- where a method has thrown q: the class by its name, the cell, what was written, the world -/
def vx_T (XC : String → State → State → Prop) (st : State) (q : Addr) (t : State) (mc ms : Nat) (free : Addr → Prop) : Prop :=
  ∃ (E : String) (ce : Cell) (L : List Loc), XC E st t ∧ t.heap[q]? = some ce ∧ ce.vm = .none ∧ st.vm.findClass E = some ce.cls ∧ st.WarmedH t.vm ∧ st.sameButNew ({ t with vm := st.vm } : State) L mc ms ∧ ∀ z ∈ L, free z.base
def vx_Q (Qc : Array Value → State → Outcome → State → Prop) (XC : String → State → State → Prop) (mc ms : Nat) (free : Addr → Prop) : Array Value → State → Outcome → State → Prop := fun a st o t =>
  (Qc a st o t ∧ ∃ L, FrameEnd st o t L mc ms ∧ ∀ q ∈ L, free q.base) ∨ ∃ q, o = .threw q ∧ vx_T XC st q t mc ms free
/-- a callee that returns or throws -/
def vx_Met (l : Launch) (y : MethodName) (ws : List Cond) (rm : Room) (Pc : Array Value → State → Prop) (Qc : Array Value → State → Outcome → State → Prop) (XC : String → State → State → Prop) (mc ms : Nat) (free : Addr → Prop) : Prop :=
  MetFree l y (headSpec ws rm) Pc (fun _ _ _ _ _ => True) (vx_Q Qc XC mc ms free)
def vx_Post (XC : String → State → State → Prop) (mc ms : Nat) (free : Addr → Prop) : Pt → Array Value → Addr → Pt → Prop := fun A a q B =>
  ∃ (g : JFrame) (mk : MethodId) (t : State) (L : List Loc) (E : String) (ce : Cell), B.U.heap = t.heap ∧ B.U.vm = t.vm ∧ XC E (A.U.calling g mk a) t ∧ t.heap[q]? = some ce ∧ ce.vm = .none ∧ A.U.vm.findClass E = some ce.cls ∧ B.locs = A.locs ++ L ∧ (∀ z ∈ L, free z.base) ∧ B.cells = A.cells + mc ∧ B.slots = A.slots + ms
def vx_Back (l : Launch) (R : Room) (p : Program) (e : Env) (below : List Frame) (s : State) (sargs : Array Value) (y : MethodName) (len W9 : Nat)
    (Pre : Pt → Array Value → Prop) (Post : Pt → Array Value → Option Value → Pt → Prop) (PostX : Pt → Array Value → Addr → Pt → Prop) : Prop :=
  ∀ (m : MethodId) (meth : Method) (c : Code) (A : Pt) (g : JFrame) (ig : Instr) (mk : MethodId) (a : Array Value),
    Stand p l e R s m sargs below meth c A.U A.locs A.cells A.slots → g.method = m → g.locals.size = c.maxLocals → decode c.code g.pc = .ok (ig, len) →
    2 * g.monitorRoom + (g.stack.map fun v => v.category).sum ≤ W9 → A.U.methodNamed? y = some mk → Pre A a →
    (∃ (v : Option Value) (B : Pt), Stand p l e R s m sargs below meth c B.U B.locs B.cells B.slots ∧ Post A a v B ∧
      Steps p.tables e below (doInvoke e (A.U.setTop g) [] mk a).1 (B.U.setTop { g with pc := g.pc + len, stack := v.toList ++ g.stack })) ∨
    (∃ (q : Addr) (B : Pt), Stand p l e R s m sargs below meth c B.U B.locs B.cells B.slots ∧ PostX A a q B ∧
      Steps p.tables e below (doInvoke e (A.U.setTop g) [] mk a).1 ((B.U.setTop g).pushFrame (.throwing q)))
section Payer
variable {l : Launch} {R : Room} {p : Program} {e : Env} {below : List Frame} {s : State} {sargs : Array Value} {y : MethodName} {len W9 : Nat}
theorem vx_back {ws : List Cond} {rm : Room} {Pc : Array Value → State → Prop} {Qc : Array Value → State → Outcome → State → Prop} {XC : String → State → State → Prop} {mc ms : Nat} {free : Addr → Prop} {bytes : ByteArray} {maxL : Nat} {ret : Option FieldType}
    (hM : vx_Met l y ws rm Pc Qc XC mc ms free) (hblind : FrameBlind Pc) (hrc : rm.cells = mc) (hrs : rm.slots = ms)
    (hframes : rm.frames + 1 ≤ R.frames) (hlocals : W9 + (maxL + 11) + rm.locals ≤ R.locals)
    (hws : ∀ w ∈ ws, ∀ a' U, s.WarmedH U.vm → w.before a' U = true) (hcode : Cond.code y bytes maxL ret ∈ ws) (hinit : ∀ a' U, s.WarmedH U.vm → (Cond.initialized y.cls).before a' U = true) :
    vx_Back l R p e below s sargs y len W9 (PreOf R mc ms Pc) (PostOf Qc mc ms free) (vx_Post XC mc ms free) := by
  intro m meth c A g ig mk a X hg hsize hdg hW hn hp
  have h1 : (headSpec ws rm).pre.before a A.U = true := atoms_intro fun w hw => hws w hw _ _ X.warmed
  have h2 : (Cond.code y bytes maxL ret).before a A.U = true := hws _ hcode _ _ X.warmed
  have h3 : (Cond.initialized y.cls).before a A.U = true := hinit _ _ X.warmed
  have h4 : A.cells + (headSpec ws rm).room.cells ≤ R.cells := by rw [show (headSpec ws rm).room.cells = mc from hrc]; exact hp.1
  have h5 : A.slots + (headSpec ws rm).room.slots ≤ R.slots := by rw [show (headSpec ws rm).room.slots = ms from hrs]; exact hp.2.1
  have hPc : Pc a (A.U.calling g mk a) := hblind _ _ _ _ hp.2.2
  obtain ⟨U, Ls, c0, s0⟩ := A
  dsimp only [Pt.U, Pt.locs, Pt.cells, Pt.slots] at h1 h2 h3 h4 h5 X hn hPc ⊢
  obtain ⟨methY, cY, hmY, hcY, -, hlY, -, -, -, -⟩ := Cond.code_spec hn h2
  obtain ⟨kY, hkY, -⟩ := className_of_methodNamed hn
  have hinitY : kY.init = .initialized := Cond.initialized_spec (findClass_of_methodNamed hn) hkY h3
  have h : At U g.method c below := by rw [hg]; exact X.here
  have hlocals9 : W9 + (maxL + 11) + (headSpec ws rm).room.locals ≤ R.locals := hlocals
  have happ : (headSpec ws rm).appliesLoose y e.platform (U.calling g mk a) = true :=
    Spec.appliesLoose_calling (g := g) h hdg hn hkY hinitY
      (X.room_calling (g := g) (R' := (headSpec ws rm).room) hsize hmY hcY hframes (by rw [hlY]; omega) h4 h5) h1
  obtain ⟨mid, hmid⟩ := h.above
  have hfr : (U.setTop g).frames = (.java g :: mid) ++ below := by rw [State.frames_setTop' g h.top, hmid]; rfl
  obtain ⟨o, s₂, hsteps, -, hend, hq⟩ := Steps.callFree hM p X.admits X.cas X.clock (acts := []) hfr happ hPc trivial
  have hq' : vx_Q Qc XC mc ms free a (U.calling g mk a) o s₂ := hq
  rw [State.frames_setTop' g h.top] at hend
  obtain ⟨g₀, hg0⟩ := Option.isSome_iff_exists.mp h.top
  obtain ⟨r, hr⟩ := State.topJava?_eq_some.mp hg0
  have hr' : (({ U with heap := s₂.heap, slotsUsed := s₂.slotsUsed } : State).setVm s₂.vm).frames = .java g₀ :: r := hr
  rcases hq' with ⟨hqc, L, hfe, hL⟩ | ⟨q, rfl, E, ce, L, hx, hce, hcv, hcl, hW₂, hsm, hL⟩
  · obtain ⟨⟨v, rfl⟩, hW₂, e2, q2, q3, q4, q5, q6⟩ := id hfe
    have e3 : s₂ = ({ (U.calling g mk a).setFrames s₂.frames with heap := s₂.heap, slotsUsed := s₂.slotsUsed } : State).setVm s₂.vm := by
      have : s₂ = ({ s₂ with vm := (U.calling g mk a).vm } : State).setVm s₂.vm := rfl
      rw [e2] at this
      exact this
    obtain ⟨c₂, i₂, len₂, hc₂, hd₂, hf₂⟩ := hend
    have hW' : U.WarmedH s₂.vm := hW₂
    have hcc : c₂ = c := by
      have h1 : s₂.code? g.method = U.code? g.method := by
        rw [State.code?_eq, State.code?_eq, hW'.alike.method?]
      exact Option.some.inj (hc₂.symm.trans (h1.trans h.code))
    subst hcc
    have hlen : len₂ = len := by rw [hdg] at hd₂; cases hd₂; rfl
    subst hlen
    have hs₂ : s₂ = (({ U with heap := s₂.heap, slotsUsed := s₂.slotsUsed } : State).setVm s₂.vm).setTop { g with pc := g.pc + len₂, stack := v.toList ++ g.stack } := by
      refine e3.trans ?_
      rw [hf₂, State.calling_eq h.top, State.setFrames_setFrames, State.setTop_of_frames _ hr', hr]
      rfl
    have hsame : U.sameButNew ({ U with heap := s₂.heap, slotsUsed := s₂.slotsUsed } : State) L mc ms := by
      refine ⟨?_, q2, q3, q4, q5, q6⟩
      obtain ⟨t, ht, -⟩ := State.frames_cons hr
      show ({ U with heap := s₂.heap, slotsUsed := s₂.slotsUsed } : State) = { U.setFrames U.frames with heap := s₂.heap, slotsUsed := s₂.slotsUsed }
      rw [State.setFrames_self ht]
    subst hg
    refine Or.inl ⟨v, ⟨(({ U with heap := s₂.heap, slotsUsed := s₂.slotsUsed } : State).setVm s₂.vm), Ls ++ L, c0 + mc, s0 + ms⟩,
      ⟨X.admits, X.cas, X.clock, X.frames, X.room, X.hears, X.method, X.code, (X.here.setHeapUsed s₂.heap s₂.slotsUsed).setVm hW'.alike, X.tail, State.WarmedH.trans X.warmed hW', X.limits, X.bytes, X.same.trans (hsame.setVm s.vm)⟩,
      ⟨g, mk, s₂, L, rfl, rfl, hqc, rfl, hL, rfl, rfl⟩, ?_⟩
    show Steps p.tables e below _ ((({ U with heap := s₂.heap, slotsUsed := s₂.slotsUsed } : State).setVm s₂.vm).setTop { g with pc := g.pc + len₂, stack := v.toList ++ g.stack })
    rw [← hs₂]
    exact hsteps
  · obtain ⟨e2, q2, q3, q4, q5, q6⟩ := id hsm
    have e3 : s₂ = ({ (U.calling g mk a).setFrames s₂.frames with heap := s₂.heap, slotsUsed := s₂.slotsUsed } : State).setVm s₂.vm := by
      have : s₂ = ({ s₂ with vm := (U.calling g mk a).vm } : State).setVm s₂.vm := rfl
      rw [e2] at this
      exact this
    have hf₂ : s₂.frames = .throwing q :: .java g :: U.frames.tail := hend
    have hW' : U.WarmedH s₂.vm := hW₂
    have hs₂ : s₂ = ((({ U with heap := s₂.heap, slotsUsed := s₂.slotsUsed } : State).setVm s₂.vm).setTop g).pushFrame (.throwing q) := by
      refine e3.trans ?_
      rw [hf₂, State.calling_eq h.top, State.setFrames_setFrames, State.pushFrame, State.frames_setTop _ hr', State.setTop_of_frames _ hr', State.setFrames_setFrames, hr]
      rfl
    have hsame : U.sameButNew ({ U with heap := s₂.heap, slotsUsed := s₂.slotsUsed } : State) L mc ms := by
      refine ⟨?_, q2, q3, q4, q5, q6⟩
      obtain ⟨t, ht, -⟩ := State.frames_cons hr
      show ({ U with heap := s₂.heap, slotsUsed := s₂.slotsUsed } : State) = { U.setFrames U.frames with heap := s₂.heap, slotsUsed := s₂.slotsUsed }
      rw [State.setFrames_self ht]
    subst hg
    refine Or.inr ⟨q, ⟨(({ U with heap := s₂.heap, slotsUsed := s₂.slotsUsed } : State).setVm s₂.vm), Ls ++ L, c0 + mc, s0 + ms⟩,
      ⟨X.admits, X.cas, X.clock, X.frames, X.room, X.hears, X.method, X.code, (X.here.setHeapUsed s₂.heap s₂.slotsUsed).setVm hW'.alike, X.tail, State.WarmedH.trans X.warmed hW', X.limits, X.bytes, X.same.trans (hsame.setVm s.vm)⟩,
      ⟨g, mk, s₂, L, E, ce, rfl, rfl, hx, hce, hcv, hcl, rfl, hL, rfl, rfl⟩, ?_⟩
    show Steps p.tables e below _ (((({ U with heap := s₂.heap, slotsUsed := s₂.slotsUsed } : State).setVm s₂.vm).setTop g).pushFrame (.throwing q))
    rw [← hs₂]
    exact hsteps
end Payer
section Calls
variable {p : Program} {l : Launch} {e : Env} {R : Room} {s : State} {m : MethodId} {args : Array Value} {below : List Frame} {meth : Method} {c : Code} {T : State} {locs : List Loc} {cells slots : Nat}
theorem vx_callV (X : Stand p l e R s m args below meth c T locs cells slots) (hexec : p.tables.exec = Jvm.exec) {own C : String} {index : Nat} {y : MethodName} {bytes : ByteArray} {maxL : Nat} {ret : Option FieldType}
    (hown : s.vm.findClass own = some m.cls) (hlink : (Cond.methodLink own index y).before args s = true) (hinst : (Cond.instanceMethod y).before args s = true) (hsel : (Cond.selects C y y).before args s = true)
    (hcode : (Cond.code y bytes maxL ret).before args s = true) (hy : y.cls ≠ "java/lang/invoke/MethodHandle" ∧ y.cls ≠ "java/lang/invoke/VarHandle")
    {W9 : Nat} {Pre : Pt → Array Value → Prop} {Post : Pt → Array Value → Option Value → Pt → Prop} {PostX : Pt → Array Value → Addr → Pt → Prop} (hK : vx_Back l R p e below s args y 3 W9 Pre Post PostX)
    {b : Addr} {cellB : Cell} (hcell : T.heap[b]? = some cellB) (hobj : cellB.vm.isStatics = false) (hcls : s.vm.findClass C = some cellB.cls)
    {g : JFrame} (hg : g.method = m) (hsize : g.locals.size = c.maxLocals) {argsL rest : List Value} (hlen : ∀ sig, parseMethodDescriptor y.desc = some sig → argsL.length = sig.parameters.length)
    (hstack : g.stack = argsL.reverse ++ .ref b :: rest) (hW : 2 * g.monitorRoom + (rest.map fun v => v.category).sum ≤ W9) (hdg : decode c.code g.pc = .ok (.invokevirtual index, 3))
    (hpre : ∀ vm₁, s.WarmedH vm₁ → Pre ⟨T.setVm vm₁, locs, cells, slots⟩ (Value.ref b :: argsL).toArray) :
    (∃ (v : Option Value) (vm₁ : Vm) (B : Pt), s.WarmedH vm₁ ∧ Stand p l e R s m args below meth c B.U B.locs B.cells B.slots ∧ Post ⟨T.setVm vm₁, locs, cells, slots⟩ (Value.ref b :: argsL).toArray v B ∧
      ∀ target, Steps p.tables e below (B.U.setTop { g with pc := g.pc + 3, stack := v.toList ++ rest }) target → Steps p.tables e below (T.setTop g) target) ∨
    (∃ (q : Addr) (vm₁ : Vm) (B : Pt), s.WarmedH vm₁ ∧ Stand p l e R s m args below meth c B.U B.locs B.cells B.slots ∧ PostX ⟨T.setVm vm₁, locs, cells, slots⟩ (Value.ref b :: argsL).toArray q B ∧
      Steps p.tables e below (T.setTop g) ((B.U.setTop { g with stack := rest }).pushFrame (.throwing q))) := by
  obtain ⟨mk, methM, hnamed, hmethM, hstM, habM⟩ := Cond.instanceMethod_spec hinst
  obtain ⟨methM', cM, hmethM', -, -, -, -, -, -, hsigM⟩ := Cond.code_spec hnamed hcode
  cases hmethM.symm.trans hmethM'
  obtain ⟨c2, r2, m2, q1, q2, q3, q4, kP, hkP, hkPi⟩ := Cond.selects_spec hsel
  cases hcls.symm.trans q1
  cases (State.methodFound?_of_named hnamed hy).symm.trans q2
  cases hnamed.symm.trans q3
  have hselP : selectMethod e.platform s.vm cellB.cls mk = .method mk := by rw [Launch.admits_selectMethod X.admits]; exact q4
  obtain ⟨vm₁, X₁, hstep₁⟩ := X.invokevirtual hexec hown hlink hnamed hmethM hstM hkP hkPi hy (a := b) (cell := cellB) hcell
    (fun z h => by rw [h] at hobj; cases hobj) hselP hmethM habM hkP hkPi (g := g) hg (argsL := argsL) (rest := rest) (hlen _ hsigM) hstack hdg
  rcases hK m meth c ⟨T.setVm vm₁, locs, cells, slots⟩ { g with stack := rest } (.invokevirtual index) mk (Value.ref b :: argsL).toArray X₁ hg hsize hdg hW (X₁.named hnamed) (hpre vm₁ X₁.warmed) with ⟨v, B, X', hpost, hsteps⟩ | ⟨q, B, X', hpost, hsteps⟩
  · exact Or.inl ⟨v, vm₁, B, X₁.warmed, X', hpost, fun target h => hstep₁ _ fun acts => by rw [doInvoke_state]; exact hsteps.trans h⟩
  · exact Or.inr ⟨q, vm₁, B, X₁.warmed, X', hpost, hstep₁ _ fun acts => by rw [doInvoke_state]; exact hsteps⟩
theorem vx_callS (X : Stand p l e R s m args below meth c T locs cells slots) (hexec : p.tables.exec = Jvm.exec) {own : String} {index : Nat} {y : MethodName} {bytes : ByteArray} {maxL : Nat} {ret : Option FieldType}
    (hown : s.vm.findClass own = some m.cls) (hlink : (Cond.methodLink own index y).before args s = true) (hstat : (Cond.static y).before args s = true) (hinit : (Cond.initialized y.cls).before args s = true)
    (hcode : (Cond.code y bytes maxL ret).before args s = true) (hy : y.cls ≠ "java/lang/invoke/MethodHandle" ∧ y.cls ≠ "java/lang/invoke/VarHandle")
    {W9 : Nat} {Pre : Pt → Array Value → Prop} {Post : Pt → Array Value → Option Value → Pt → Prop} {PostX : Pt → Array Value → Addr → Pt → Prop} (hK : vx_Back l R p e below s args y 3 W9 Pre Post PostX)
    {g : JFrame} (hg : g.method = m) (hsize : g.locals.size = c.maxLocals) {argsL rest : List Value} (hlen : ∀ sig, parseMethodDescriptor y.desc = some sig → argsL.length = sig.parameters.length)
    (hstack : g.stack = argsL.reverse ++ rest) (hW : 2 * g.monitorRoom + (rest.map fun v => v.category).sum ≤ W9) (hdg : decode c.code g.pc = .ok (.invokestatic index, 3))
    (hpre : ∀ vm₁, s.WarmedH vm₁ → Pre ⟨T.setVm vm₁, locs, cells, slots⟩ argsL.toArray) :
    (∃ (v : Option Value) (vm₁ : Vm) (B : Pt), s.WarmedH vm₁ ∧ Stand p l e R s m args below meth c B.U B.locs B.cells B.slots ∧ Post ⟨T.setVm vm₁, locs, cells, slots⟩ argsL.toArray v B ∧
      ∀ target, Steps p.tables e below (B.U.setTop { g with pc := g.pc + 3, stack := v.toList ++ rest }) target → Steps p.tables e below (T.setTop g) target) ∨
    (∃ (q : Addr) (vm₁ : Vm) (B : Pt), s.WarmedH vm₁ ∧ Stand p l e R s m args below meth c B.U B.locs B.cells B.slots ∧ PostX ⟨T.setVm vm₁, locs, cells, slots⟩ argsL.toArray q B ∧
      Steps p.tables e below (T.setTop g) ((B.U.setTop { g with stack := rest }).pushFrame (.throwing q))) := by
  obtain ⟨mk, hnamed⟩ := Cond.code_named hcode
  obtain ⟨methM, cM, hmethM, -, -, -, -, -, -, hsigM⟩ := Cond.code_spec hnamed hcode
  have hstatic : methM.isStatic = true := Cond.static_spec hnamed hmethM hstat
  obtain ⟨kP, hkP, -⟩ := className_of_methodNamed hnamed
  have hinitP : kP.init = .initialized := Cond.initialized_spec (findClass_of_methodNamed hnamed) hkP hinit
  obtain ⟨vm₁, X₁, hstep₁⟩ := X.invokestatic hexec hown hlink hnamed hmethM hstatic hkP hinitP hy (g := g) hg (argsL := argsL) (rest := rest) (hlen _ hsigM) hstack hdg
  rcases hK m meth c ⟨T.setVm vm₁, locs, cells, slots⟩ { g with stack := rest } (.invokestatic index) mk argsL.toArray X₁ hg hsize hdg hW (X₁.named hnamed) (hpre vm₁ X₁.warmed) with ⟨v, B, X', hpost, hsteps⟩ | ⟨q, B, X', hpost, hsteps⟩
  · exact Or.inl ⟨v, vm₁, B, X₁.warmed, X', hpost, fun target h => hstep₁ _ fun acts => by rw [doInvoke_state]; exact hsteps.trans h⟩
  · exact Or.inr ⟨q, vm₁, B, X₁.warmed, X', hpost, hstep₁ _ fun acts => by rw [doInvoke_state]; exact hsteps⟩
end Calls
theorem vx_cls {s : State} {T : State} {vm₁ : Vm} {E : String} {k : ClassId} (hW : s.WarmedH vm₁) (h : (T.setVm vm₁).vm.findClass E = some k) : s.vm.findClass E = some k := by
  have h1 : vm₁.findClass E = some k := h
  rw [hW.alike.findClass] at h1
  exact h1
/-- the method's frame g, with q thrown over it -/
def vx_W (p : Program) (l : Launch) (e : Env) (R : Room) (s : State) (m : MethodId) (args : Array Value) (below : List Frame) (meth : Method) (c : Code) (H : Heap) (locs : List Loc) (cells slots : Nat) (Q : State → Prop) (g : JFrame) (q : Addr) : Prop :=
  ∀ T : State, T.heap = H → Stand p l e R s m args below meth c T locs cells slots → ∃ t, Steps p.tables e below ((T.setTop g).pushFrame (.throwing q)) t ∧ Q t
def vx_Run (p : Program) (l : Launch) (e : Env) (R : Room) (s : State) (m : MethodId) (args : Array Value) (below : List Frame) (meth : Method) (c : Code) (H : Heap) (locs : List Loc) (cells slots mc ms : Nat) (g : JFrame) (rest : List Value) (Qa : State → Outcome → State → Prop) (XC : String → State → State → Prop) (free : Addr → Prop) : Prop :=
  ∀ T : State, T.heap = H → Stand p l e R s m args below meth c T locs cells slots →
    (∃ (v : Option Value) (st₀ t T' : State) (L : List Loc), st₀.heap = H ∧ Stand p l e R s m args below meth c T' (locs ++ L) (cells + mc) (slots + ms) ∧ (∀ q ∈ L, free q.base) ∧ T'.heap = t.heap ∧ T'.vm = t.vm ∧ Qa st₀ (.returned v) t ∧
      Goes p e below T g T' { g with pc := g.pc + 3, stack := v.toList ++ rest }) ∨
    (∃ (q : Addr) (st₀ t T' : State) (L : List Loc) (E : String) (ce : Cell), st₀.heap = H ∧ Stand p l e R s m args below meth c T' (locs ++ L) (cells + mc) (slots + ms) ∧ (∀ z ∈ L, free z.base) ∧ T'.heap = t.heap ∧ T'.vm = t.vm ∧ XC E st₀ t ∧ t.heap[q]? = some ce ∧ ce.vm = .none ∧ s.vm.findClass E = some ce.cls ∧
      Steps p.tables e below (T.setTop g) ((T'.setTop { g with stack := rest }).pushFrame (.throwing q)))
def vx_X {S : Type} (px : S → Prop) (B : String → S → State → Prop) (A : Nat → Prop) : String → State → State → Prop := fun E st t => ∃ u : S, px u ∧ B E u t ∧ va_F A st t
section Runs
variable {p : Program} {l : Launch} {e : Env} {R : Room} {s : State} {m : MethodId} {args : Array Value} {below : List Frame} {meth : Method} {c : Code} {H : Heap} {locs : List Loc} {cells slots : Nat}
variable {y : MethodName} {bytes cc : ByteArray} {maxL nL mc ms n index : Nat} {ret : Option FieldType} {ws : List Cond} {rm : Room} {Pc : Array Value → State → Prop} {Qc : Array Value → State → Outcome → State → Prop} {XC : String → State → State → Prop} {free : Addr → Prop} {Ts : List Cond} {own C : String} {b : Addr} {As rest : List Value} {g : JFrame}
theorem vx_callBack (cb : CallB R s args own index y bytes maxL ret ws rm mc ms n) (hM : vx_Met l y ws rm Pc Qc XC mc ms free) (hbl : FrameBlind Pc) : vx_Back l R p e below s args y 3 8 (PreOf R mc ms Pc) (PostOf Qc mc ms free) (vx_Post XC mc ms free) := by
  obtain ⟨hrc, hrs, hfr, hlo, hws, hcw, -, hini, -⟩ := cb
  exact vx_back (bytes := bytes) (maxL := maxL) (ret := ret) hM hbl hrc hrs hfr hlo hws hcw (fun a' U hW => word_at hW (Or.inl (by first | rfl | simp [Cond.onTables, Cond.keeps, Cond.steady])) hini)
theorem vx_runV (S : CallFix p m c cc nL s args Ts own) (hM : vx_Met l y ws rm Pc Qc XC mc ms free) (cw : CallW R s args own C index y bytes maxL ret ws rm mc ms n) (hp : PreV s H C b Pc As)
    (hg : g.method = m) (hn : As.length = n) (hsize : g.locals.size = nL) (hstack : g.stack = As.reverse ++ .ref b :: rest) (hW : 2 * g.monitorRoom + (rest.map fun v => v.category).sum ≤ 8) (hdg : decode cc g.pc = .ok (.invokevirtual index, 3)) (hf : cells + mc ≤ R.cells ∧ slots + ms ≤ R.slots) :
    vx_Run p l e R s m args below meth c H locs cells slots mc ms g rest (Qc (Value.ref b :: As).toArray) XC free := by
  have hK : vx_Back l R p e below s args y 3 8 (PreOf R mc ms Pc) (PostOf Qc mc ms free) (vx_Post XC mc ms free) := vx_callBack cw.1 hM hp.1
  obtain ⟨⟨-, -, -, -, -, -, hcode, -, hy, hlen, hl⟩, hin, hse⟩ := cw
  obtain ⟨hx, hb, hml, ho, -⟩ := S
  obtain ⟨-, ⟨cellB, hcB, hoB, hclB⟩, hPc⟩ := hp
  intro T hT X
  rcases vx_callV X hx (C := C) (bytes := bytes) (maxL := maxL) (ret := ret) ho hl hin hse hcode hy hK (by rw [hT]; exact hcB) hoB hclB hg (hsize.trans hml.symm) (argsL := As) (rest := rest) (fun sig h => hn.trans (hlen sig h)) hstack hW (by rw [hb]; exact hdg)
    (fun vm₁ hW₁ => ⟨hf.1, hf.2, hPc (T.setVm vm₁) hT hW₁⟩) with ⟨v, vm₁, ⟨U', l2, c2, s2⟩, hW₁, X', ⟨g', mk, t, L, e1, e2, hq, h1, hL, h2, h3⟩, st⟩ | ⟨q, vm₁, ⟨U', l2, c2, s2⟩, hW₁, X', ⟨g', mk, t, L, E, ce, e1, e2, hq, hce, hcv, hcl, h1, hL, h2, h3⟩, st⟩
  · dsimp only [Pt.U, Pt.locs, Pt.cells, Pt.slots] at X' e1 e2 h1 h2 h3 st
    subst h1; subst h2; subst h3
    exact Or.inl ⟨v, (T.setVm vm₁).calling g' mk (Value.ref b :: As).toArray, t, U', L, hT, X', hL, e1, e2, hq, st⟩
  · dsimp only [Pt.U, Pt.locs, Pt.cells, Pt.slots] at X' e1 e2 h1 h2 h3 st hcl
    subst h1; subst h2; subst h3
    exact Or.inr ⟨q, (T.setVm vm₁).calling g' mk (Value.ref b :: As).toArray, t, U', L, E, ce, hT, X', hL, e1, e2, hq, hce, hcv, vx_cls hW₁ hcl, st⟩
theorem vx_runS (S : CallFix p m c cc nL s args Ts own) (hM : vx_Met l y ws rm Pc Qc XC mc ms free) (cw : CallB R s args own index y bytes maxL ret ws rm mc ms n ∧ (Cond.static y).before args s = true) (hp : PreS s H Pc As)
    (hg : g.method = m) (hn : As.length = n) (hsize : g.locals.size = nL) (hstack : g.stack = As.reverse ++ rest) (hW : 2 * g.monitorRoom + (rest.map fun v => v.category).sum ≤ 8) (hdg : decode cc g.pc = .ok (.invokestatic index, 3)) (hf : cells + mc ≤ R.cells ∧ slots + ms ≤ R.slots) :
    vx_Run p l e R s m args below meth c H locs cells slots mc ms g rest (Qc As.toArray) XC free := by
  have hK : vx_Back l R p e below s args y 3 8 (PreOf R mc ms Pc) (PostOf Qc mc ms free) (vx_Post XC mc ms free) := vx_callBack cw.1 hM hp.1
  obtain ⟨⟨-, -, -, -, -, -, hcode, hini, hy, hlen, hl⟩, hstt⟩ := cw
  obtain ⟨hx, hb, hml, ho, -⟩ := S
  intro T hT X
  rcases vx_callS X hx (bytes := bytes) (maxL := maxL) (ret := ret) ho hl hstt hini hcode hy hK hg (hsize.trans hml.symm) (argsL := As) (rest := rest) (fun sig h => hn.trans (hlen sig h)) hstack hW (by rw [hb]; exact hdg)
    (fun vm₁ hW₁ => ⟨hf.1, hf.2, hp.2 (T.setVm vm₁) hT hW₁⟩) with ⟨v, vm₁, ⟨U', l2, c2, s2⟩, hW₁, X', ⟨g', mk, t, L, e1, e2, hq, h1, hL, h2, h3⟩, st⟩ | ⟨q, vm₁, ⟨U', l2, c2, s2⟩, hW₁, X', ⟨g', mk, t, L, E, ce, e1, e2, hq, hce, hcv, hcl, h1, hL, h2, h3⟩, st⟩
  · dsimp only [Pt.U, Pt.locs, Pt.cells, Pt.slots] at X' e1 e2 h1 h2 h3 st
    subst h1; subst h2; subst h3
    exact Or.inl ⟨v, (T.setVm vm₁).calling g' mk As.toArray, t, U', L, hT, X', hL, e1, e2, hq, st⟩
  · dsimp only [Pt.U, Pt.locs, Pt.cells, Pt.slots] at X' e1 e2 h1 h2 h3 st hcl
    subst h1; subst h2; subst h3
    exact Or.inr ⟨q, (T.setVm vm₁).calling g' mk As.toArray, t, U', L, E, ce, hT, X', hL, e1, e2, hq, hce, hcv, vx_cls hW₁ hcl, st⟩
end Runs
section Rows
variable {p : Program} {l : Launch} {e : Env} {R : Room} {s : State} {m : MethodId} {args : Array Value} {below : List Frame} {meth : Method} {c : Code} {H : Heap} {locs : List Loc} {cells slots : Nat} {Q : State → Prop}
variable {mc ms : Nat} {free : Addr → Prop} {A0 A1 : Nat → Prop} {H0 : Heap} {a : Array Value} {pc : Nat} {ls : Array Slot} {st0 rest : List Value}
theorem vx_keep {st₀ t T' : State} {L : List Loc} (h0 : st₀.heap = H) (e1 : T'.heap = t.heap) (hS : va_S A0 H0 H locs) (hA : ∀ q, q < H.size → A1 q → A0 q) (hf : ∀ q, free q → A0 q) (hL : ∀ q ∈ L, free q.base) (hF : va_F A1 st₀ t) :
    H.size ≤ T'.heap.size ∧ (∀ q : Nat, q < H.size → ¬ A1 q → T'.heap[q]? = H[q]?) ∧ va_S A0 H0 T'.heap (locs ++ L) := by
  obtain ⟨hz, hk⟩ := hF
  rw [h0] at hz hk
  exact ⟨by rw [e1]; exact hz, fun q h1 h2 => by rw [e1]; exact hk q h1 h2,
    ⟨Nat.le_trans hS.1 (by rw [e1]; exact hz), fun q h1 h2 => by rw [e1, hk q (Nat.lt_of_lt_of_le h1 hS.1) (fun z => h2 (hA q (Nat.lt_of_lt_of_le h1 hS.1) z))]; exact hS.2.1 q h1 h2, fun q hq => by
      rcases List.mem_append.mp hq with h | h
      · exact hS.2.2 q h
      · exact hf _ (hL q h)⟩⟩
theorem vx_calli {S SX : Type} {post : Int32 → S → Prop} {px : SX → Prop} {B : S → State → Prop} {BX : String → SX → State → Prop} {AX : Nat → Prop} (hr : vx_Run p l e R s m args below meth c H locs cells slots mc ms (F0 m pc ls st0) rest (va_Qi post B A1 a) (vx_X px BX AX) free) (hS : va_S A0 H0 H locs) (hA : ∀ q, q < H.size → A1 q → A0 q) (hf : ∀ q, free q → A0 q) (hAX : ∀ q, q < H.size → AX q → A0 q)
    (kx : ∀ (E : String) (ce : Cell) (q9 : Addr) (u : SX) (t : State) (H1 : Heap) (locs1 : List Loc), t.heap = H1 → s.vm.Alike t.vm → px u → BX E u t → H.size ≤ H1.size → (∀ q : Nat, q < H.size → ¬ AX q → H1[q]? = H[q]?) → va_S A0 H0 H1 locs1 → H1[q9]? = some ce → ce.vm = .none → s.vm.findClass E = some ce.cls → vx_W p l e R s m args below meth c H1 locs1 (cells + mc) (slots + ms) Q (F0 m pc ls rest) q9)
    (kk : ∀ (r : Int32) (u : S) (t : State) (H1 : Heap) (locs1 : List Loc), t.heap = H1 → s.vm.Alike t.vm → post r u → B u t → H.size ≤ H1.size → (∀ q : Nat, q < H.size → ¬ A1 q → H1[q]? = H[q]?) → va_S A0 H0 H1 locs1 → W p l e R s m args below meth c H1 locs1 (cells + mc) (slots + ms) Q (F0 m (pc + 3) ls (.int r :: rest))) : W p l e R s m args below meth c H locs cells slots Q (F0 m pc ls st0) := by
  intro T hT X
  rcases hr T hT X with ⟨v, st₀, t, T', L, h0, X', hL, e1, e2, ⟨⟨r, u, hv, hp, hb⟩, hF⟩, st⟩ | ⟨q, st₀, t, T', L, E, ce, h0, X', hL, e1, e2, ⟨u, hp, hb, hF⟩, hce, hcv, hcl, st⟩
  · cases hv
    obtain ⟨k1, k2, k3⟩ := vx_keep h0 e1 hS hA hf hL hF
    obtain ⟨t2, a1, b1⟩ := kk r u t T'.heap (locs ++ L) e1.symm (by rw [← e2]; exact X'.warmed.alike) hp hb k1 k2 k3 T' rfl X'
    exact ⟨t2, st t2 a1, b1⟩
  · obtain ⟨k1, k2, k3⟩ := vx_keep h0 e1 hS hAX hf hL hF
    obtain ⟨t2, a1, b1⟩ := kx E ce q u t T'.heap (locs ++ L) e1.symm (by rw [← e2]; exact X'.warmed.alike) hp hb k1 k2 k3 (by rw [e1]; exact hce) hcv hcl T' rfl X'
    exact ⟨t2, st.trans a1, b1⟩
theorem vx_calll {S SX : Type} {post : Int64 → S → Prop} {px : SX → Prop} {B : S → State → Prop} {BX : String → SX → State → Prop} {AX : Nat → Prop} (hr : vx_Run p l e R s m args below meth c H locs cells slots mc ms (F0 m pc ls st0) rest (va_Ql post B A1 a) (vx_X px BX AX) free) (hS : va_S A0 H0 H locs) (hA : ∀ q, q < H.size → A1 q → A0 q) (hf : ∀ q, free q → A0 q) (hAX : ∀ q, q < H.size → AX q → A0 q)
    (kx : ∀ (E : String) (ce : Cell) (q9 : Addr) (u : SX) (t : State) (H1 : Heap) (locs1 : List Loc), t.heap = H1 → s.vm.Alike t.vm → px u → BX E u t → H.size ≤ H1.size → (∀ q : Nat, q < H.size → ¬ AX q → H1[q]? = H[q]?) → va_S A0 H0 H1 locs1 → H1[q9]? = some ce → ce.vm = .none → s.vm.findClass E = some ce.cls → vx_W p l e R s m args below meth c H1 locs1 (cells + mc) (slots + ms) Q (F0 m pc ls rest) q9)
    (kk : ∀ (r : Int64) (u : S) (t : State) (H1 : Heap) (locs1 : List Loc), t.heap = H1 → s.vm.Alike t.vm → post r u → B u t → H.size ≤ H1.size → (∀ q : Nat, q < H.size → ¬ A1 q → H1[q]? = H[q]?) → va_S A0 H0 H1 locs1 → W p l e R s m args below meth c H1 locs1 (cells + mc) (slots + ms) Q (F0 m (pc + 3) ls (.long r :: rest))) : W p l e R s m args below meth c H locs cells slots Q (F0 m pc ls st0) := by
  intro T hT X
  rcases hr T hT X with ⟨v, st₀, t, T', L, h0, X', hL, e1, e2, ⟨⟨r, u, hv, hp, hb⟩, hF⟩, st⟩ | ⟨q, st₀, t, T', L, E, ce, h0, X', hL, e1, e2, ⟨u, hp, hb, hF⟩, hce, hcv, hcl, st⟩
  · cases hv
    obtain ⟨k1, k2, k3⟩ := vx_keep h0 e1 hS hA hf hL hF
    obtain ⟨t2, a1, b1⟩ := kk r u t T'.heap (locs ++ L) e1.symm (by rw [← e2]; exact X'.warmed.alike) hp hb k1 k2 k3 T' rfl X'
    exact ⟨t2, st t2 a1, b1⟩
  · obtain ⟨k1, k2, k3⟩ := vx_keep h0 e1 hS hAX hf hL hF
    obtain ⟨t2, a1, b1⟩ := kx E ce q u t T'.heap (locs ++ L) e1.symm (by rw [← e2]; exact X'.warmed.alike) hp hb k1 k2 k3 (by rw [e1]; exact hce) hcv hcl T' rfl X'
    exact ⟨t2, st.trans a1, b1⟩
theorem vx_callf {S SX : Type} {post : UInt32 → S → Prop} {px : SX → Prop} {B : S → State → Prop} {BX : String → SX → State → Prop} {AX : Nat → Prop} (hr : vx_Run p l e R s m args below meth c H locs cells slots mc ms (F0 m pc ls st0) rest (va_Qf post B A1 a) (vx_X px BX AX) free) (hS : va_S A0 H0 H locs) (hA : ∀ q, q < H.size → A1 q → A0 q) (hf : ∀ q, free q → A0 q) (hAX : ∀ q, q < H.size → AX q → A0 q)
    (kx : ∀ (E : String) (ce : Cell) (q9 : Addr) (u : SX) (t : State) (H1 : Heap) (locs1 : List Loc), t.heap = H1 → s.vm.Alike t.vm → px u → BX E u t → H.size ≤ H1.size → (∀ q : Nat, q < H.size → ¬ AX q → H1[q]? = H[q]?) → va_S A0 H0 H1 locs1 → H1[q9]? = some ce → ce.vm = .none → s.vm.findClass E = some ce.cls → vx_W p l e R s m args below meth c H1 locs1 (cells + mc) (slots + ms) Q (F0 m pc ls rest) q9)
    (kk : ∀ (r : UInt32) (u : S) (t : State) (H1 : Heap) (locs1 : List Loc), t.heap = H1 → s.vm.Alike t.vm → post r u → B u t → H.size ≤ H1.size → (∀ q : Nat, q < H.size → ¬ A1 q → H1[q]? = H[q]?) → va_S A0 H0 H1 locs1 → W p l e R s m args below meth c H1 locs1 (cells + mc) (slots + ms) Q (F0 m (pc + 3) ls (.float r :: rest))) : W p l e R s m args below meth c H locs cells slots Q (F0 m pc ls st0) := by
  intro T hT X
  rcases hr T hT X with ⟨v, st₀, t, T', L, h0, X', hL, e1, e2, ⟨⟨r, u, hv, hp, hb⟩, hF⟩, st⟩ | ⟨q, st₀, t, T', L, E, ce, h0, X', hL, e1, e2, ⟨u, hp, hb, hF⟩, hce, hcv, hcl, st⟩
  · cases hv
    obtain ⟨k1, k2, k3⟩ := vx_keep h0 e1 hS hA hf hL hF
    obtain ⟨t2, a1, b1⟩ := kk r u t T'.heap (locs ++ L) e1.symm (by rw [← e2]; exact X'.warmed.alike) hp hb k1 k2 k3 T' rfl X'
    exact ⟨t2, st t2 a1, b1⟩
  · obtain ⟨k1, k2, k3⟩ := vx_keep h0 e1 hS hAX hf hL hF
    obtain ⟨t2, a1, b1⟩ := kx E ce q u t T'.heap (locs ++ L) e1.symm (by rw [← e2]; exact X'.warmed.alike) hp hb k1 k2 k3 (by rw [e1]; exact hce) hcv hcl T' rfl X'
    exact ⟨t2, st.trans a1, b1⟩
theorem vx_calld {S SX : Type} {post : UInt64 → S → Prop} {px : SX → Prop} {B : S → State → Prop} {BX : String → SX → State → Prop} {AX : Nat → Prop} (hr : vx_Run p l e R s m args below meth c H locs cells slots mc ms (F0 m pc ls st0) rest (va_Qd post B A1 a) (vx_X px BX AX) free) (hS : va_S A0 H0 H locs) (hA : ∀ q, q < H.size → A1 q → A0 q) (hf : ∀ q, free q → A0 q) (hAX : ∀ q, q < H.size → AX q → A0 q)
    (kx : ∀ (E : String) (ce : Cell) (q9 : Addr) (u : SX) (t : State) (H1 : Heap) (locs1 : List Loc), t.heap = H1 → s.vm.Alike t.vm → px u → BX E u t → H.size ≤ H1.size → (∀ q : Nat, q < H.size → ¬ AX q → H1[q]? = H[q]?) → va_S A0 H0 H1 locs1 → H1[q9]? = some ce → ce.vm = .none → s.vm.findClass E = some ce.cls → vx_W p l e R s m args below meth c H1 locs1 (cells + mc) (slots + ms) Q (F0 m pc ls rest) q9)
    (kk : ∀ (r : UInt64) (u : S) (t : State) (H1 : Heap) (locs1 : List Loc), t.heap = H1 → s.vm.Alike t.vm → post r u → B u t → H.size ≤ H1.size → (∀ q : Nat, q < H.size → ¬ A1 q → H1[q]? = H[q]?) → va_S A0 H0 H1 locs1 → W p l e R s m args below meth c H1 locs1 (cells + mc) (slots + ms) Q (F0 m (pc + 3) ls (.double r :: rest))) : W p l e R s m args below meth c H locs cells slots Q (F0 m pc ls st0) := by
  intro T hT X
  rcases hr T hT X with ⟨v, st₀, t, T', L, h0, X', hL, e1, e2, ⟨⟨r, u, hv, hp, hb⟩, hF⟩, st⟩ | ⟨q, st₀, t, T', L, E, ce, h0, X', hL, e1, e2, ⟨u, hp, hb, hF⟩, hce, hcv, hcl, st⟩
  · cases hv
    obtain ⟨k1, k2, k3⟩ := vx_keep h0 e1 hS hA hf hL hF
    obtain ⟨t2, a1, b1⟩ := kk r u t T'.heap (locs ++ L) e1.symm (by rw [← e2]; exact X'.warmed.alike) hp hb k1 k2 k3 T' rfl X'
    exact ⟨t2, st t2 a1, b1⟩
  · obtain ⟨k1, k2, k3⟩ := vx_keep h0 e1 hS hAX hf hL hF
    obtain ⟨t2, a1, b1⟩ := kx E ce q u t T'.heap (locs ++ L) e1.symm (by rw [← e2]; exact X'.warmed.alike) hp hb k1 k2 k3 (by rw [e1]; exact hce) hcv hcl T' rfl X'
    exact ⟨t2, st.trans a1, b1⟩
theorem vx_callv {S SX : Type} {post : S → Prop} {px : SX → Prop} {B : S → State → Prop} {BX : String → SX → State → Prop} {AX : Nat → Prop} (hr : vx_Run p l e R s m args below meth c H locs cells slots mc ms (F0 m pc ls st0) rest (va_Qv post B A1 a) (vx_X px BX AX) free) (hS : va_S A0 H0 H locs) (hA : ∀ q, q < H.size → A1 q → A0 q) (hf : ∀ q, free q → A0 q) (hAX : ∀ q, q < H.size → AX q → A0 q)
    (kx : ∀ (E : String) (ce : Cell) (q9 : Addr) (u : SX) (t : State) (H1 : Heap) (locs1 : List Loc), t.heap = H1 → s.vm.Alike t.vm → px u → BX E u t → H.size ≤ H1.size → (∀ q : Nat, q < H.size → ¬ AX q → H1[q]? = H[q]?) → va_S A0 H0 H1 locs1 → H1[q9]? = some ce → ce.vm = .none → s.vm.findClass E = some ce.cls → vx_W p l e R s m args below meth c H1 locs1 (cells + mc) (slots + ms) Q (F0 m pc ls rest) q9)
    (kk : ∀ (u : S) (t : State) (H1 : Heap) (locs1 : List Loc), t.heap = H1 → s.vm.Alike t.vm → post u → B u t → H.size ≤ H1.size → (∀ q : Nat, q < H.size → ¬ A1 q → H1[q]? = H[q]?) → va_S A0 H0 H1 locs1 → W p l e R s m args below meth c H1 locs1 (cells + mc) (slots + ms) Q (F0 m (pc + 3) ls (rest))) : W p l e R s m args below meth c H locs cells slots Q (F0 m pc ls st0) := by
  intro T hT X
  rcases hr T hT X with ⟨v, st₀, t, T', L, h0, X', hL, e1, e2, ⟨⟨u, hv, hp, hb⟩, hF⟩, st⟩ | ⟨q, st₀, t, T', L, E, ce, h0, X', hL, e1, e2, ⟨u, hp, hb, hF⟩, hce, hcv, hcl, st⟩
  · cases hv
    obtain ⟨k1, k2, k3⟩ := vx_keep h0 e1 hS hA hf hL hF
    obtain ⟨t2, a1, b1⟩ := kk u t T'.heap (locs ++ L) e1.symm (by rw [← e2]; exact X'.warmed.alike) hp hb k1 k2 k3 T' rfl X'
    exact ⟨t2, st t2 a1, b1⟩
  · obtain ⟨k1, k2, k3⟩ := vx_keep h0 e1 hS hAX hf hL hF
    obtain ⟨t2, a1, b1⟩ := kx E ce q u t T'.heap (locs ++ L) e1.symm (by rw [← e2]; exact X'.warmed.alike) hp hb k1 k2 k3 (by rw [e1]; exact hce) hcv hcl T' rfl X'
    exact ⟨t2, st.trans a1, b1⟩
/-- caught by the row x of this method's table; the rows ahead don't take it -/
theorem vx_catch {own name : String} {E : String} {ce : Cell} {q : Addr} (hown : s.vm.findClass own = some m.cls) (pre : List ExceptionTableEntry) (x : ExceptionTableEntry) (suf : List ExceptionTableEntry) (hsplit : c.exceptionTable.toList = pre ++ x :: suf)
    (hpass : ∀ z ∈ pre, covers z pc = false ∨ (z.catchType ≠ 0 ∧ ∃ nm : String, (Cond.classLink own z.catchType nm).before args s = true ∧ va_Nc E nm s)) (hx : covers x pc = true) (h0 : x.catchType ≠ 0)
    (hlink : (Cond.classLink own x.catchType name).before args s = true) (hcast : (Cond.castable E name).before args s = true) (hcell : H[q]? = some ce) (hv : ce.vm = .none) (hcl : s.vm.findClass E = some ce.cls)
    (kk : W p l e R s m args below meth c H locs cells slots Q (F0 m x.handlerPc ls [.ref q])) : vx_W p l e R s m args below meth c H locs cells slots Q (F0 m pc ls rest) q := by
  intro T hT X
  have hpl : e.platform.magicAccessors = ({} : Platform).magicAccessors := by rw [X.admits.platform]
  obtain ⟨c3, c4, hc3, hc4, hasg⟩ := Cond.castable_spec hcast
  cases Option.some.inj (hc3.symm.trans hcl)
  obtain ⟨c5, hc5, hcl5⟩ := Cond.classLink_spec hown hlink e.platform hpl
  cases Option.some.inj (hc4.symm.trans hc5)
  obtain ⟨vm', X', st⟩ := X.thenCaughtThrough q (g := F0 m pc ls rest) rfl (Steps.refl _) (by rw [hT]; exact hcell) (by rw [hv]; rfl) (by obtain ⟨k9, h9, -⟩ := Vm.findClass_spec hcl; exact ⟨k9, h9⟩) pre x suf hsplit
    (fun z hz => by
      rcases hpass z hz with h | ⟨hz0, nm, hl1, hn1⟩
      · exact Or.inl h
      · obtain ⟨c6, hc6, hcl6⟩ := Cond.classLink_spec hown hl1 e.platform hpl
        obtain ⟨a8, b8, h1, h2, h3⟩ := hn1
        cases Option.some.inj (h1.symm.trans hcl)
        cases Option.some.inj (h2.symm.trans hc6)
        exact Or.inr ⟨hz0, _, hcl6, h3⟩) hx (Or.inr ⟨h0, c4, hcl5, hasg⟩)
  obtain ⟨t, a1, b1⟩ := kk (T.setVm vm') hT X'
  exact ⟨t, st.trans a1, b1⟩
end Rows
section Ends
variable {p : Program} {l : Launch} {e : Env} {R : Room} {s : State} {m : MethodId} {args : Array Value} {below : List Frame} {meth : Method} {c : Code} {H : Heap} {locs : List Loc} {cells slots : Nat} {Q : State → Prop}
variable {mc ms : Nat} {free : Addr → Prop} {A0 A1 : Nat → Prop} {H0 : Heap} {a : Array Value} {ls : Array Slot} {st0 rest : List Value}
variable {Qc : Array Value → State → Outcome → State → Prop} {XC : String → State → State → Prop}
/-- what a body that may throw owes at its end -/
def vx_MQ (below : List Frame) (Qc : Array Value → State → Outcome → State → Prop) (XC : String → State → State → Prop) (a : Array Value) (s : State) (mc ms : Nat) (free : Addr → Prop) : State → Prop := fun t =>
  ∃ o, t.status = .running ∧ Ended t below o ∧ vx_Q Qc XC mc ms free a s o t
theorem vx_ret {g : JFrame} {mc ms : Nat} (k : W p l e R s m args below meth c H locs cells slots (MQ below Qc args s mc ms free) g) : W p l e R s m args below meth c H locs cells slots (vx_MQ below Qc XC args s mc ms free) g := by
  intro T hT X
  obtain ⟨t, a1, o, b1, b2, b3, b4⟩ := k T hT X
  exact ⟨t, a1, o, b1, b2, Or.inl ⟨b3, b4⟩⟩
/-- not caught here: it goes on to the caller -/
theorem vx_widen {g : JFrame} {q : Addr} {k n : Nat} (h1 : cells ≤ k) (h2 : slots ≤ n) (kk : vx_W p l e R s m args below meth c H locs k n Q g q) : vx_W p l e R s m args below meth c H locs cells slots Q g q := fun T hT X => kk T hT (stand_widen X h1 h2)
theorem vx_out {pc : Nat} {E : String} {ce : Cell} {q : Addr} {mc ms : Nat} (hout : ∀ x ∈ c.exceptionTable.toList, covers x pc = false) (hlocks : meth.locks = false) (hcell : H[q]? = some ce) (hv : ce.vm = .none) (hcl : s.vm.findClass E = some ce.cls)
    (hx : ∀ t : State, t.heap = H → s.vm.Alike t.vm → XC E s t) (hf : ∀ z ∈ locs, free z.base) (hc : cells ≤ mc) (hs : slots ≤ ms) :
    vx_W p l e R s m args below meth c H locs cells slots (vx_MQ below Qc XC args s mc ms free) (F0 m pc ls rest) q := by
  intro T hT X
  obtain ⟨st1, hrun, hend, hW, hsm⟩ := X.leaveThrown q (g := F0 m pc ls rest) rfl rfl rfl hout hlocks
  have hcell9 : (T.setFrames (.throwing q :: below)).heap[q]? = some ce := by
    show T.heap[q]? = some ce
    rw [hT]; exact hcell
  exact ⟨_, st1, .threw q, hrun, hend, Or.inr ⟨q, rfl, E, ce, locs, hx _ hT hW.alike, hcell9, hv, hcl, hW, hsm.mono hc hs, hf⟩⟩
theorem vx_frame {U : State} {k n : Nat} (h : s.sameButNew ({ U with vm := s.vm } : State) locs k n) : s.heap.size ≤ U.heap.size ∧ ∀ q : Nat, q < s.heap.size → (∀ z ∈ locs, z.base ≠ q) → U.heap[q]? = s.heap[q]? := by
  obtain ⟨-, h2, -, -, -, h6⟩ := h
  refine ⟨h2, fun q hq hz => ?_⟩
  obtain ⟨c9, e1, e2, e3, e4⟩ := h6 q _ (Array.getElem?_eq_getElem hq)
  have hs : c9.slots = (s.heap[q]).slots := Array.ext_getElem? fun i => e4 i fun hm => hz _ hm rfl
  have h9 : c9 = s.heap[q] := by
    rw [hs] at e2
    exact e2
  have e5 : U.heap[q]? = some c9 := e1
  rw [e5, h9, Array.getElem?_eq_getElem hq]
/-- the words of a throw but the four that speak of the heap -/
def vx_no (w : Cond) : Bool := decide (w ≠ .isRef (.static Bundle.tN "UNASSIGNED_STACK" Bundle.steD)) && decide (w ≠ .isRef (.static Bundle.tN "SUPPRESSED_SENTINEL" Bundle.listD)) && decide (w ≠ .laysStatic Bundle.tN "UNASSIGNED_STACK" Bundle.steD) && decide (w ≠ .laysStatic Bundle.tN "SUPPRESSED_SENTINEL" Bundle.listD)
def vx_at0 (own : String) (ic : Nat) (X : String) (names : List String) : List Cond := (Bundle.ownAtoms0 own ic X names).filter vx_no
def vx_atS (own : String) (ic : Nat) (X : String) (names : List String) : List Cond := (Bundle.ownAtoms own ic X names).filter vx_no
/-- a word that the tables alone decide, or a good one -/
def vx_ot (w : Cond) : Bool := w.onTables || goodWord w
theorem vx_ot_at {args a' : Array Value} {s U : State} {w : Cond} (hW : s.WarmedH U.vm) (hvm : s.vm = U.vm) (hg : vx_ot w = true) (h : w.before args s = true) : w.before a' U = true := by
  simp only [vx_ot, Bool.or_eq_true] at hg
  rcases hg with hg | hg
  · exact va_tabs hg hvm h
  · exact word_at hW (good_of_word hg) h
/-- a list's words: the good ones out of the method's own list, the others by premises of their own -/
theorem vx_hat {args : Array Value} {s : State} {L B : List Cond} (h1 : ∀ w ∈ L.filter goodWord, w.before args s = true) (h2 : ∀ w ∈ L.filter (fun w => !goodWord w), w ∈ B) (h3 : ∀ w ∈ B, w.before args s = true) : ∀ w ∈ L, w.before args s = true := by
  intro w hw
  by_cases g : goodWord w = true
  · exact h1 w (List.mem_filter.mpr ⟨hw, g⟩)
  · refine h3 w (h2 w (List.mem_filter.mpr ⟨hw, ?_⟩))
    show (!goodWord w) = true
    cases hgw : goodWord w
    · rfl
    · exact absurd hgw g
theorem vx_c {args : Array Value} {s : State} {w : Cond} {B : List Cond} (h : w.before args s = true) (t : ∀ w ∈ B, w.before args s = true) : ∀ w' ∈ w :: B, w'.before args s = true := fun w' h' => (List.mem_cons.mp h').elim (fun e => by rw [e]; exact h) (t w')
theorem vx_n {args : Array Value} {s : State} : ∀ w ∈ ([] : List Cond), w.before args s = true := fun _ h => nomatch h
theorem vx_own {args : Array Value} {s : State} {L : List Cond} (h1 : ∀ w ∈ L.filter vx_no, w.before args s = true)
    (hU : (Cond.isRef (.static Bundle.tN "UNASSIGNED_STACK" Bundle.steD)).before args s = true) (hN : (Cond.isRef (.static Bundle.tN "SUPPRESSED_SENTINEL" Bundle.listD)).before args s = true)
    (lU : (Cond.laysStatic Bundle.tN "UNASSIGNED_STACK" Bundle.steD).before args s = true) (lN : (Cond.laysStatic Bundle.tN "SUPPRESSED_SENTINEL" Bundle.listD).before args s = true) : ∀ w ∈ L, w.before args s = true := by
  intro w hw
  by_cases e1 : w = .isRef (.static Bundle.tN "UNASSIGNED_STACK" Bundle.steD)
  · rw [e1]; exact hU
  · by_cases e2 : w = .isRef (.static Bundle.tN "SUPPRESSED_SENTINEL" Bundle.listD)
    · rw [e2]; exact hN
    · by_cases e3 : w = .laysStatic Bundle.tN "UNASSIGNED_STACK" Bundle.steD
      · rw [e3]; exact lU
      · by_cases e4 : w = .laysStatic Bundle.tN "SUPPRESSED_SENTINEL" Bundle.listD
        · rw [e4]; exact lN
        · exact h1 w (List.mem_filter.mpr ⟨hw, by unfold vx_no; rw [decide_eq_true e1, decide_eq_true e2, decide_eq_true e3, decide_eq_true e4]; rfl⟩)
/-- where a static field lies, its class's statics cell in H -/
def vx_L (C n d : String) (A : Nat → Prop) (U : State) (H : Heap) : Prop := ∃ (c : ClassId) (k : Class) (i : Nat) (f : Field) (a : Nat) (cell : Cell), U.vm.findClass C = some c ∧ U.fieldFound? C n d = some (c, k, i, f) ∧ f.isStatic = true ∧ k.statics = some a ∧ H[a]? = some cell ∧ cell.vm.isStatics = true ∧ cell.cls = c ∧ f.slot < cell.slots.size ∧ k.staticTypes[f.slot]? = some f.type ∧ ¬ A a
theorem vx_L.moved {C n d : String} {A : Nat → Prop} {u U : State} {H : Heap} (hvm : u.vm.Alike U.vm) (h : vx_L C n d A u H) : vx_L C n d A U H := by
  obtain ⟨c, k, i, f, a, cell, h1, h2, h3, h4, h5, h6, h7, h8, h9, h10⟩ := h
  obtain ⟨k', hi', he⟩ := State.fieldFound?_setVm hvm h2
  exact ⟨c, k', i, f, a, cell, by rw [hvm.findClass]; exact h1, hi', h3, by rw [he]; exact h4, h5, h6, h7, h8, by rw [he]; exact h9, h10⟩
theorem vx_L.kept {C n d : String} {A : Nat → Prop} {U : State} {H H1 : Heap} (h : vx_L C n d A U H) (hq : ∀ a : Nat, a < H.size → ¬ A a → H1[a]? = H[a]?) : vx_L C n d A U H1 := by
  obtain ⟨c, k, i, f, a, cell, h1, h2, h3, h4, h5, h6, h7, h8, h9, h10⟩ := h
  exact ⟨c, k, i, f, a, cell, h1, h2, h3, h4, by rw [hq a (Array.getElem?_eq_some_iff.mp h5).1 h10]; exact h5, h6, h7, h8, h9, h10⟩
theorem vx_L.narrow {C n d : String} {A B : Nat → Prop} {U : State} {H : Heap} (h : vx_L C n d A U H) (hAB : ∀ q, B q → A q) : vx_L C n d B U H := by
  obtain ⟨c, k, i, f, a, cell, h1, h2, h3, h4, h5, h6, h7, h8, h9, h10⟩ := h
  exact ⟨c, k, i, f, a, cell, h1, h2, h3, h4, h5, h6, h7, h8, h9, fun z => h10 (hAB _ z)⟩
theorem vx_L.word {C n d : String} {A : Nat → Prop} {s : State} {args : Array Value} (h : vx_L C n d A s s.heap) : (Cond.laysStatic C n d).before args s = true := by
  obtain ⟨c, k, i, f, a, cell, h1, h2, h3, h4, h5, h6, h7, h8, h9, -⟩ := h
  show (Cond.laysStatic C n d).holds args s none s [] = true
  exact Cond.laysStatic_of h1 h2 h3 h4 h5 h6 h7 h8 h9
/-- .. and what it holds: null or some reference -/
def vx_Zq (C n d : String) (A : Nat → Prop) (U : State) (H : Heap) : Prop := va_Zq C n d A U H ∧ vx_L C n d A U H
theorem vx_Zq.moved {C n d : String} {A : Nat → Prop} {u U : State} {H : Heap} (hvm : u.vm.Alike U.vm) (h : vx_Zq C n d A u H) : vx_Zq C n d A U H := ⟨va_Zq.moved hvm h.1, vx_L.moved hvm h.2⟩
theorem vx_Zq.kept {C n d : String} {A : Nat → Prop} {U : State} {H H1 : Heap} (h : vx_Zq C n d A U H) (hq : ∀ a : Nat, a < H.size → ¬ A a → H1[a]? = H[a]?) : vx_Zq C n d A U H1 := ⟨va_Zq.kept h.1 hq, vx_L.kept h.2 hq⟩
theorem vx_Zq.narrow {C n d : String} {A B : Nat → Prop} {U : State} {H : Heap} (h : vx_Zq C n d A U H) (hAB : ∀ q, B q → A q) : vx_Zq C n d B U H := ⟨va_Zq.narrow h.1 hAB, vx_L.narrow h.2 hAB⟩
theorem vx_Zqof {args : Array Value} {s : State} {C n d : String} {A : Nat → Prop} (hl : (Cond.laysStatic C n d).before args s = true) (hini : (Cond.initialized C).before args s = true) (h : (Cond.isRef (.static C n d)).before args s = true) (hA : ∀ a : Nat, a < s.heap.size → ¬ A a) : vx_Zq C n d A s s.heap := by
  refine ⟨va_Zqof hl hini h hA, ?_⟩
  obtain ⟨c, k, i, f, a, cell, h1, h2, h3, h4, h5, h6, h7, h8, h9⟩ := Cond.laysStatic_spec hl
  exact ⟨c, k, i, f, a, cell, h1, h2, h3, h4, h5, h6, h7, h8, h9, hA a (Array.getElem?_eq_some_iff.mp h5).1⟩
theorem vx_isRef {C n d : String} {v : Value} {A : Nat → Prop} {s : State} {args : Array Value} (h : va_Z C n d v A s s.heap) (hv : v.isRef = true) : (Cond.isRef (.static C n d)).before args s = true := by
  obtain ⟨cf, kf, fi, f, a, cell, h1, h2, h3, h4, h5, h6, h7, -⟩ := h
  have he : (Term.static C n d).eval args s none [] s = some v := by
    simp [Term.eval, State.fieldNamed?, h1, h2, h4, h5, h6, h7]
  simp only [Cond.before, Cond.holds, Cond.value, he]
  cases v <;> simp_all [Value.isRef]
theorem vx_isRefq {C n d : String} {A : Nat → Prop} {s : State} {args : Array Value} (h : va_Zq C n d A s s.heap) : (Cond.isRef (.static C n d)).before args s = true := by
  rcases h with h | ⟨t, h⟩
  · exact vx_isRef h rfl
  · exact vx_isRef h rfl
/-- the same frame, seen from here: as if the method were called anew in this heap -/
theorem vx_rebase {T : State} (X : Stand p l e R s m args below meth c T locs cells slots) {R' : Room} (hf : R'.frames ≤ R.frames) (hl : R'.locals ≤ R.locals) (hc : cells + R'.cells ≤ R.cells) (hs : slots + R'.slots ≤ R.slots) :
    Stand p l e R' ((T.setVm s.vm).setFrames (.invoking m args :: below)) m args below meth c T [] 0 0 := by
  have htop : (T.setVm s.vm).topJava?.isSome := X.here.top
  have hF : ((T.setVm s.vm).setFrames (.invoking m args :: below)).frames = .invoking m args :: below := State.frames_setFrames _ (State.cur_lt_of_top htop)
  obtain ⟨g₀, hg0⟩ := Option.isSome_iff_exists.mp htop
  obtain ⟨r, hr⟩ := State.topJava?_eq_some.mp hg0
  have hl9 : e.platform.stackLimits (T.setVm s.vm).me = e.platform.stackLimits s.me := X.limits
  have hb9 : (T.setVm s.vm).me.stackBytes = s.me.stackBytes := X.bytes
  refine ⟨X.admits, X.cas, X.clock, hF, ?_, X.hears, X.method, X.code, X.here, X.tail, X.warmed, ?_, ?_, ?_⟩
  · have h := X.room
    have hU : ((T.setVm s.vm).setFrames (.invoking m args :: below)).localsInUse = s.localsInUse := by
      rw [State.localsInUse_invoking hF (meth := meth) (c := c) X.method X.code, State.localsInUse_invoking X.frames X.method X.code]
    simp only [State.hasRoom, Bool.and_eq_true, decide_eq_true_eq] at h ⊢
    obtain ⟨⟨⟨⟨h1, h2, h3, h4, h5, h6⟩, h7⟩, h8⟩, h9⟩ := h
    rw [X.frames, List.length_cons] at h2 h3
    have q1 := X.heapSize
    have q2 := X.used
    simp only [hF, hU, List.length_cons, State.stackLimits_setFrames, State.stackBytes_setFrames, hl9, hb9]
    refine ⟨⟨⟨⟨by omega, by omega, by omega, by omega, by omega, h6⟩, ?_⟩, ?_⟩, X.book⟩
    · show T.heap.size + R'.cells ≤ e.platform.maxCells
      omega
    · show T.slotsUsed + R'.slots ≤ e.platform.maxSlots
      omega
  · rw [State.stackLimits_setFrames]; rfl
  · rw [State.stackBytes_setFrames]; rfl
  · refine ⟨?_, Nat.le_refl _, Nat.le_refl _, ?_, ?_, fun a c9 h9 => ⟨c9, h9, rfl, rfl, fun _ _ => rfl⟩⟩
    · obtain ⟨t, ht, -⟩ := State.frames_cons hr
      show T.setVm s.vm = { ((T.setVm s.vm).setFrames (.invoking m args :: below)).setFrames (T.setVm s.vm).frames with heap := T.heap, slotsUsed := T.slotsUsed }
      rw [State.setFrames_setFrames, State.setFrames_self ht]
      rfl
    · show T.slotsUsed = T.slotsUsed + ((T.heap.toList.drop T.heap.size).map (·.slots.size)).sum
      rw [List.drop_eq_nil_of_le (Nat.le_of_eq Array.length_toList)]
      rfl
    · show ((T.heap.toList.drop T.heap.size).map (·.slots.size)).sum ≤ 0
      rw [List.drop_eq_nil_of_le (Nat.le_of_eq Array.length_toList)]
      exact Nat.le_refl _
/-- 'throw new E()': new; dup; invokespecial; athrow -/
theorem vx_throw0 {cc : ByteArray} {pc : Nat} (hexec : p.tables.exec = Jvm.exec) (hb : c.code = cc) (hl : l.stackTraces = false) {own cls : String} {names : List String} {ik ic mc ms : Nat} {A : Nat → Prop}
    (hown : s.vm.findClass own = some m.cls) (hcls : Bundle.fit cls = true) (hnames : ∀ n ∈ names, Bundle.fit n = true)
    (hk : (Cond.classLink own ik cls).before args s = true) (hini : (Cond.initialized cls).before args s = true) (hat : ∀ w ∈ vx_at0 own ic cls names, w.before args s = true)
    (hgood : ∀ w ∈ Cond.classLink own ik cls :: Cond.initialized cls :: vx_at0 own ic cls names, vx_ot w = true)
    (hU : vx_Zq Bundle.tN "UNASSIGNED_STACK" Bundle.steD A s s.heap) (hN : vx_Zq Bundle.tN "SUPPRESSED_SENTINEL" Bundle.listD A s s.heap) (hS : va_S A s.heap H locs) (hsize : ls.size = c.maxLocals)
    (d0 : decode cc pc = .ok (.new ik, 3)) (d3 : decode cc (pc + 3) = .ok (.dup, 1)) (d4 : decode cc (pc + 4) = .ok (.invokespecial ic, 3)) (d7 : decode cc (pc + 7) = .ok (.athrow, 1))
    (hout : ∀ x ∈ c.exceptionTable.toList, covers x (pc + 7) = false)
    (hRframes : names.length + 3 < R.frames) (hRlocals : (rest.map fun v => v.category).sum + (13 * (names.length + 1) + 42) ≤ R.locals) (hRcells : cells + 1 ≤ R.cells) (hRslots : slots + 6 ≤ R.slots) (hlocks : meth.locks = false)
    (hx : ∀ t : State, s.vm.Alike t.vm → H.size ≤ t.heap.size → (∀ q : Nat, q < H.size → t.heap[q]? = H[q]?) → XC cls s t)
    (hf : ∀ z ∈ locs, free z.base) (hc : cells + 1 ≤ mc) (hs : slots + 6 ≤ ms) :
    W p l e R s m args below meth c H locs cells slots (vx_MQ below Qc XC args s mc ms free) (F0 m pc ls rest) := by
  intro T hT X
  have htr : e.platform.stackTraces = false := (show e.platform.stackTraces = l.stackTraces by rw [X.admits.platform]).trans hl
  have Y := vx_rebase X (R' := { frames := R.frames, locals := R.locals, cells := 1, slots := 6 }) (Nat.le_refl _) (Nat.le_refl _) hRcells hRslots
  obtain ⟨s', hA⟩ : ∃ z, z = (T.setVm s.vm).setFrames (.invoking m args :: below) := ⟨_, rfl⟩
  rw [← hA] at Y
  have hvm : s'.vm = s.vm := by rw [hA]; rfl
  have hhp : s'.heap = H := by rw [hA]; exact hT
  have hW0 : s.WarmedH s'.vm := by rw [hvm]; exact State.WarmedH.refl s
  have hat' : ∀ w ∈ vx_at0 own ic cls names, w.before args s' = true := fun w hw => vx_ot_at hW0 hvm.symm (hgood w (List.mem_cons_of_mem _ (List.mem_cons_of_mem _ hw))) (hat w hw)
  have hk' : (Cond.classLink own ik cls).before args s' = true := vx_ot_at hW0 hvm.symm (hgood _ List.mem_cons_self) hk
  have hini' : (Cond.initialized cls).before args s' = true := vx_ot_at hW0 hvm.symm (hgood _ (List.mem_cons_of_mem _ List.mem_cons_self)) hini
  have hU' : vx_Zq Bundle.tN "UNASSIGNED_STACK" Bundle.steD A s' s'.heap := by rw [hhp]; exact vx_Zq.moved hW0.alike (hU.kept hS.2.1)
  have hN' : vx_Zq Bundle.tN "SUPPRESSED_SENTINEL" Bundle.listD A s' s'.heap := by rw [hhp]; exact vx_Zq.moved hW0.alike (hN.kept hS.2.1)
  have h : ∀ w ∈ Bundle.ownAtoms0 own ic cls names, w.before args s' = true := vx_own hat' (vx_isRefq hU'.1) (vx_isRefq hN'.1) hU'.2.word hN'.2.word
  have hown' : s'.vm.findClass own = some m.cls := by rw [hvm]; exact hown
  have hins : (Cond.instantiable cls 6).before args s' = true := h _ (by simp [Bundle.ownAtoms0])
  obtain ⟨vm₁, cX, kX, hfX, hkX, -, -, X₁, st1⟩ := Y.newCold hexec (own := own) (C := cls) (index := ik) (n := 6) hown' hk' hins hini'
    (g := F0 m pc ls rest) rfl (by rw [hb]; exact d0) (Nat.le_refl _) (Nat.le_refl _)
  generalize hT1 : (T.setVm vm₁).pushCell { cls := cX, slots := kX.instanceTypes.map defaultValue, vm := .none } = T1 at X₁ st1
  have hcat : (Value.ref T.heap.size).category = 1 := rfl
  have hcellA : T1.heap[T.heap.size]? = some (freshCell cX kX) := by rw [← hT1]; exact State.heap_pushCell_size _ _
  have d3' : decode c.code (pc + 3) = .ok (.dup, 1) := by rw [hb]; exact d3
  obtain ⟨U, hsteps, hrun, hend, hW, hsame, ce, hce, hO⟩ := X₁.ctorThrow0 hexec htr (own := own) (cls := cls) (names := names) (ic := ic) hown' hcls hnames h (fun x hx => nomatch hx) hfX hkX hcellA (by rw [hhp, hT]; exact Nat.le_refl _)
    (g := { method := m, pc := pc + 4, locals := ls, stack := .ref T.heap.size :: .ref T.heap.size :: rest, locked := none }) rfl hsize rfl rfl (rest := rest) rfl
    (by rw [hb]; exact d4) (by rw [hb]; exact d7) hout hRframes (by simp only [List.map_cons, List.sum_cons, hcat]; omega) hlocks
  obtain ⟨f1, f2⟩ := vx_frame hsame
  rw [hhp] at f1 f2
  have hWs : s.WarmedH U.vm := State.WarmedH.trans hW0 hW
  have hcl : s.vm.findClass cls = some ce.cls := by
    have h9 := hO.cls
    rw [hvm] at h9
    exact h9
  have hall : s.sameButNew ({ U with vm := s.vm } : State) locs mc ms := by
    subst hA
    obtain ⟨e1, e2⟩ := hsame
    rw [State.setFrames_setFrames] at e1
    have h2 : (T.setVm s.vm).sameButNew ({ U with vm := s.vm } : State) [] (0 + 1) (0 + 6) := ⟨e1, e2⟩
    have h3 := X.same.trans h2
    rw [List.append_nil] at h3
    exact h3.mono hc hs
  refine ⟨U, ?_, .threw T.heap.size, hrun, hend, Or.inr ⟨T.heap.size, rfl, cls, ce, locs, hx U hWs.alike f1 (fun q hq => f2 q hq (fun z hz => nomatch hz)), hce, hO.vm, hcl, hWs, hall, hf⟩⟩
  refine st1 _ ?_
  show Steps p.tables e below (T1.setTop { method := m, pc := pc + 3, locals := ls, stack := .ref T.heap.size :: rest, locked := none }) _
  jvm_step X₁.here [X₁.here.top, hexec, d3', Value.category]
  exact hsteps
/-- 'throw new E("text")': new; dup; ldc; invokespecial; athrow -/
theorem vx_throwS {cc : ByteArray} {pc : Nat} (hexec : p.tables.exec = Jvm.exec) (hb : c.code = cc) (hl : l.stackTraces = false) {own cls text : String} {names : List String} {ik is ic mc ms sa : Nat} {A : Nat → Prop}
    (hown : s.vm.findClass own = some m.cls) (hcls : Bundle.fit cls = true) (hnames : ∀ n ∈ names, Bundle.fit n = true)
    (hk : (Cond.classLink own ik cls).before args s = true) (hini : (Cond.initialized cls).before args s = true) (hstr : vk_R own is text sa s) (hat : ∀ w ∈ vx_atS own ic cls names, w.before args s = true)
    (hgood : ∀ w ∈ Cond.classLink own ik cls :: Cond.initialized cls :: vx_atS own ic cls names, vx_ot w = true)
    (hU : vx_Zq Bundle.tN "UNASSIGNED_STACK" Bundle.steD A s s.heap) (hN : vx_Zq Bundle.tN "SUPPRESSED_SENTINEL" Bundle.listD A s s.heap) (hS : va_S A s.heap H locs) (hsize : ls.size = c.maxLocals)
    (d0 : decode cc pc = .ok (.new ik, 3)) (d3 : decode cc (pc + 3) = .ok (.dup, 1)) (d4 : decode cc (pc + 4) = .ok (.ldc is, 2)) (d6 : decode cc (pc + 6) = .ok (.invokespecial ic, 3)) (d9 : decode cc (pc + 9) = .ok (.athrow, 1))
    (hout : ∀ x ∈ c.exceptionTable.toList, covers x (pc + 9) = false)
    (hRframes : names.length + 3 < R.frames) (hRlocals : (rest.map fun v => v.category).sum + (13 * (names.length + 1) + 43) ≤ R.locals) (hRcells : cells + 1 ≤ R.cells) (hRslots : slots + 6 ≤ R.slots) (hlocks : meth.locks = false)
    (hx : ∀ t : State, s.vm.Alike t.vm → H.size ≤ t.heap.size → (∀ q : Nat, q < H.size → t.heap[q]? = H[q]?) → XC cls s t)
    (hf : ∀ z ∈ locs, free z.base) (hc : cells + 1 ≤ mc) (hs : slots + 6 ≤ ms) :
    W p l e R s m args below meth c H locs cells slots (vx_MQ below Qc XC args s mc ms free) (F0 m pc ls rest) := by
  intro T hT X
  have htr : e.platform.stackTraces = false := (show e.platform.stackTraces = l.stackTraces by rw [X.admits.platform]).trans hl
  have Y := vx_rebase X (R' := { frames := R.frames, locals := R.locals, cells := 1, slots := 6 }) (Nat.le_refl _) (Nat.le_refl _) hRcells hRslots
  obtain ⟨s', hA⟩ : ∃ z, z = (T.setVm s.vm).setFrames (.invoking m args :: below) := ⟨_, rfl⟩
  rw [← hA] at Y
  have hvm : s'.vm = s.vm := by rw [hA]; rfl
  have hhp : s'.heap = H := by rw [hA]; exact hT
  have hW0 : s.WarmedH s'.vm := by rw [hvm]; exact State.WarmedH.refl s
  have hat' : ∀ w ∈ vx_atS own ic cls names, w.before args s' = true := fun w hw => vx_ot_at hW0 hvm.symm (hgood w (List.mem_cons_of_mem _ (List.mem_cons_of_mem _ hw))) (hat w hw)
  have hk' : (Cond.classLink own ik cls).before args s' = true := vx_ot_at hW0 hvm.symm (hgood _ List.mem_cons_self) hk
  have hini' : (Cond.initialized cls).before args s' = true := vx_ot_at hW0 hvm.symm (hgood _ (List.mem_cons_of_mem _ List.mem_cons_self)) hini
  have hU' : vx_Zq Bundle.tN "UNASSIGNED_STACK" Bundle.steD A s' s'.heap := by rw [hhp]; exact vx_Zq.moved hW0.alike (hU.kept hS.2.1)
  have hN' : vx_Zq Bundle.tN "SUPPRESSED_SENTINEL" Bundle.listD A s' s'.heap := by rw [hhp]; exact vx_Zq.moved hW0.alike (hN.kept hS.2.1)
  have h : ∀ w ∈ Bundle.ownAtoms own ic cls names, w.before args s' = true := vx_own hat' (vx_isRefq hU'.1) (vx_isRefq hN'.1) hU'.2.word hN'.2.word
  have hown' : s'.vm.findClass own = some m.cls := by rw [hvm]; exact hown
  have hins : (Cond.instantiable cls 6).before args s' = true := h _ (by simp [Bundle.ownAtoms])
  obtain ⟨vm₁, cX, kX, hfX, hkX, -, -, X₁, st1⟩ := Y.newCold hexec (own := own) (C := cls) (index := ik) (n := 6) hown' hk' hins hini'
    (g := F0 m pc ls rest) rfl (by rw [hb]; exact d0) (Nat.le_refl _) (Nat.le_refl _)
  generalize hT1 : (T.setVm vm₁).pushCell { cls := cX, slots := kX.instanceTypes.map defaultValue, vm := .none } = T1 at X₁ st1
  have hcat : (Value.ref T.heap.size).category = 1 := rfl
  have hcellA : T1.heap[T.heap.size]? = some (freshCell cX kX) := by rw [← hT1]; exact State.heap_pushCell_size _ _
  have d3' : decode c.code (pc + 3) = .ok (.dup, 1) := by rw [hb]; exact d3
  have d4' : decode c.code (pc + 4) = .ok (.ldc is, 2) := by rw [hb]; exact d4
  have hstr' : vk_R own is text sa s' := vk_R.warm hW0 hstr
  obtain ⟨U, hsteps, hrun, hend, hW, hsame, ce, hce, hO⟩ := X₁.ctorThrowS hexec htr (own := own) (cls := cls) (names := names) (ic := ic) hown' hcls hnames h (fun x hx => nomatch hx) hfX hkX hcellA (by rw [hhp, hT]; exact Nat.le_refl _) (msg := .ref sa) rfl
    (g := { method := m, pc := pc + 6, locals := ls, stack := .ref sa :: .ref T.heap.size :: .ref T.heap.size :: rest, locked := none }) rfl hsize rfl rfl (rest := rest) rfl
    (by rw [hb]; exact d6) (by rw [hb]; exact d9) hout hRframes (by simp only [List.map_cons, List.sum_cons, hcat]; omega) hlocks
  obtain ⟨f1, f2⟩ := vx_frame hsame
  rw [hhp] at f1 f2
  have hWs : s.WarmedH U.vm := State.WarmedH.trans hW0 hW
  have hcl : s.vm.findClass cls = some ce.cls := by
    have h9 := hO.cls
    rw [hvm] at h9
    exact h9
  have hall : s.sameButNew ({ U with vm := s.vm } : State) locs mc ms := by
    subst hA
    obtain ⟨e1, e2⟩ := hsame
    rw [State.setFrames_setFrames] at e1
    have h2 : (T.setVm s.vm).sameButNew ({ U with vm := s.vm } : State) [] (0 + 1) (0 + 6) := ⟨e1, e2⟩
    have h3 := X.same.trans h2
    rw [List.append_nil] at h3
    exact h3.mono hc hs
  refine ⟨U, ?_, .threw T.heap.size, hrun, hend, Or.inr ⟨T.heap.size, rfl, cls, ce, locs, hx U hWs.alike f1 (fun q hq => f2 q hq (fun z hz => nomatch hz)), hce, hO.vm, hcl, hWs, hall, hf⟩⟩
  refine st1 _ ?_
  show Steps p.tables e below (T1.setTop { method := m, pc := pc + 3, locals := ls, stack := .ref T.heap.size :: rest, locked := none }) _
  jvm_step X₁.here [X₁.here.top, hexec, d3', Value.category]
  exact X₁.ldcString hexec (own := own) (text := text) (index := is) (a := sa) hown' hstr'.1 hstr'.2
    (g := { method := m, pc := pc + 4, locals := ls, stack := .ref T.heap.size :: .ref T.heap.size :: rest, locked := none }) rfl d4' _ hsteps
/-- 'throw new E("text")', the text by a wide index -/
theorem vx_throwSW {cc : ByteArray} {pc : Nat} (hexec : p.tables.exec = Jvm.exec) (hb : c.code = cc) (hl : l.stackTraces = false) {own cls text : String} {names : List String} {ik is ic mc ms sa : Nat} {A : Nat → Prop}
    (hown : s.vm.findClass own = some m.cls) (hcls : Bundle.fit cls = true) (hnames : ∀ n ∈ names, Bundle.fit n = true)
    (hk : (Cond.classLink own ik cls).before args s = true) (hini : (Cond.initialized cls).before args s = true) (hstr : vk_R own is text sa s) (hat : ∀ w ∈ vx_atS own ic cls names, w.before args s = true)
    (hgood : ∀ w ∈ Cond.classLink own ik cls :: Cond.initialized cls :: vx_atS own ic cls names, vx_ot w = true)
    (hU : vx_Zq Bundle.tN "UNASSIGNED_STACK" Bundle.steD A s s.heap) (hN : vx_Zq Bundle.tN "SUPPRESSED_SENTINEL" Bundle.listD A s s.heap) (hS : va_S A s.heap H locs) (hsize : ls.size = c.maxLocals)
    (d0 : decode cc pc = .ok (.new ik, 3)) (d3 : decode cc (pc + 3) = .ok (.dup, 1)) (d4 : decode cc (pc + 4) = .ok (.ldc_w is, 3)) (d7 : decode cc (pc + 7) = .ok (.invokespecial ic, 3)) (d10 : decode cc (pc + 10) = .ok (.athrow, 1))
    (hout : ∀ x ∈ c.exceptionTable.toList, covers x (pc + 10) = false)
    (hRframes : names.length + 3 < R.frames) (hRlocals : (rest.map fun v => v.category).sum + (13 * (names.length + 1) + 43) ≤ R.locals) (hRcells : cells + 1 ≤ R.cells) (hRslots : slots + 6 ≤ R.slots) (hlocks : meth.locks = false)
    (hx : ∀ t : State, s.vm.Alike t.vm → H.size ≤ t.heap.size → (∀ q : Nat, q < H.size → t.heap[q]? = H[q]?) → XC cls s t)
    (hf : ∀ z ∈ locs, free z.base) (hc : cells + 1 ≤ mc) (hs : slots + 6 ≤ ms) :
    W p l e R s m args below meth c H locs cells slots (vx_MQ below Qc XC args s mc ms free) (F0 m pc ls rest) := by
  intro T hT X
  have htr : e.platform.stackTraces = false := (show e.platform.stackTraces = l.stackTraces by rw [X.admits.platform]).trans hl
  have Y := vx_rebase X (R' := { frames := R.frames, locals := R.locals, cells := 1, slots := 6 }) (Nat.le_refl _) (Nat.le_refl _) hRcells hRslots
  obtain ⟨s', hA⟩ : ∃ z, z = (T.setVm s.vm).setFrames (.invoking m args :: below) := ⟨_, rfl⟩
  rw [← hA] at Y
  have hvm : s'.vm = s.vm := by rw [hA]; rfl
  have hhp : s'.heap = H := by rw [hA]; exact hT
  have hW0 : s.WarmedH s'.vm := by rw [hvm]; exact State.WarmedH.refl s
  have hat' : ∀ w ∈ vx_atS own ic cls names, w.before args s' = true := fun w hw => vx_ot_at hW0 hvm.symm (hgood w (List.mem_cons_of_mem _ (List.mem_cons_of_mem _ hw))) (hat w hw)
  have hk' : (Cond.classLink own ik cls).before args s' = true := vx_ot_at hW0 hvm.symm (hgood _ List.mem_cons_self) hk
  have hini' : (Cond.initialized cls).before args s' = true := vx_ot_at hW0 hvm.symm (hgood _ (List.mem_cons_of_mem _ List.mem_cons_self)) hini
  have hU' : vx_Zq Bundle.tN "UNASSIGNED_STACK" Bundle.steD A s' s'.heap := by rw [hhp]; exact vx_Zq.moved hW0.alike (hU.kept hS.2.1)
  have hN' : vx_Zq Bundle.tN "SUPPRESSED_SENTINEL" Bundle.listD A s' s'.heap := by rw [hhp]; exact vx_Zq.moved hW0.alike (hN.kept hS.2.1)
  have h : ∀ w ∈ Bundle.ownAtoms own ic cls names, w.before args s' = true := vx_own hat' (vx_isRefq hU'.1) (vx_isRefq hN'.1) hU'.2.word hN'.2.word
  have hown' : s'.vm.findClass own = some m.cls := by rw [hvm]; exact hown
  have hins : (Cond.instantiable cls 6).before args s' = true := h _ (by simp [Bundle.ownAtoms])
  obtain ⟨vm₁, cX, kX, hfX, hkX, -, -, X₁, st1⟩ := Y.newCold hexec (own := own) (C := cls) (index := ik) (n := 6) hown' hk' hins hini'
    (g := F0 m pc ls rest) rfl (by rw [hb]; exact d0) (Nat.le_refl _) (Nat.le_refl _)
  generalize hT1 : (T.setVm vm₁).pushCell { cls := cX, slots := kX.instanceTypes.map defaultValue, vm := .none } = T1 at X₁ st1
  have hcat : (Value.ref T.heap.size).category = 1 := rfl
  have hcellA : T1.heap[T.heap.size]? = some (freshCell cX kX) := by rw [← hT1]; exact State.heap_pushCell_size _ _
  have d3' : decode c.code (pc + 3) = .ok (.dup, 1) := by rw [hb]; exact d3
  have d4' : decode c.code (pc + 4) = .ok (.ldc_w is, 3) := by rw [hb]; exact d4
  have hstr' : vk_R own is text sa s' := vk_R.warm hW0 hstr
  obtain ⟨U, hsteps, hrun, hend, hW, hsame, ce, hce, hO⟩ := X₁.ctorThrowS hexec htr (own := own) (cls := cls) (names := names) (ic := ic) hown' hcls hnames h (fun x hx => nomatch hx) hfX hkX hcellA (by rw [hhp, hT]; exact Nat.le_refl _) (msg := .ref sa) rfl
    (g := { method := m, pc := pc + 7, locals := ls, stack := .ref sa :: .ref T.heap.size :: .ref T.heap.size :: rest, locked := none }) rfl hsize rfl rfl (rest := rest) rfl
    (by rw [hb]; exact d7) (by rw [hb]; exact d10) hout hRframes (by simp only [List.map_cons, List.sum_cons, hcat]; omega) hlocks
  obtain ⟨f1, f2⟩ := vx_frame hsame
  rw [hhp] at f1 f2
  have hWs : s.WarmedH U.vm := State.WarmedH.trans hW0 hW
  have hcl : s.vm.findClass cls = some ce.cls := by
    have h9 := hO.cls
    rw [hvm] at h9
    exact h9
  have hall : s.sameButNew ({ U with vm := s.vm } : State) locs mc ms := by
    subst hA
    obtain ⟨e1, e2⟩ := hsame
    rw [State.setFrames_setFrames] at e1
    have h2 : (T.setVm s.vm).sameButNew ({ U with vm := s.vm } : State) [] (0 + 1) (0 + 6) := ⟨e1, e2⟩
    have h3 := X.same.trans h2
    rw [List.append_nil] at h3
    exact h3.mono hc hs
  refine ⟨U, ?_, .threw T.heap.size, hrun, hend, Or.inr ⟨T.heap.size, rfl, cls, ce, locs, hx U hWs.alike f1 (fun q hq => f2 q hq (fun z hz => nomatch hz)), hce, hO.vm, hcl, hWs, hall, hf⟩⟩
  refine st1 _ ?_
  show Steps p.tables e below (T1.setTop { method := m, pc := pc + 3, locals := ls, stack := .ref T.heap.size :: rest, locked := none }) _
  jvm_step X₁.here [X₁.here.top, hexec, d3', Value.category]
  exact X₁.ldcStringW hexec (own := own) (text := text) (index := is) (a := sa) hown' hstr'.1 hstr'.2
    (g := { method := m, pc := pc + 4, locals := ls, stack := .ref T.heap.size :: .ref T.heap.size :: rest, locked := none }) rfl d4' _ hsteps
end Ends
section Bodies
variable {l : Launch}
theorem vx_ofW {y : MethodName} {ws ws' : List Cond} {rm : Room} {Pc : Array Value → State → Prop} {Qc : Array Value → State → Outcome → State → Prop} {XC : String → State → State → Prop} {mc ms : Nat} {free : Addr → Prop} {cc : ByteArray} {maxL : Nat} {ret : Option FieldType}
    (hy : plainName y.cls = true) (hw : ws = Cond.code y cc maxL ret :: ws')
    (body : ∀ p e s m args below meth c s₁, BodyLoose p l y (headSpec ws rm) cc maxL ret e s m args below meth c s₁ → c.maxLocals = maxL → (∀ x ∈ c.exceptionTable.toList, False) → Pc args s →
      W p l e (headSpec ws rm).room s m args below meth c s.heap [] 0 0 (vx_MQ below Qc XC args s mc ms free) (entryFrame m args maxL)) : vx_Met l y ws rm Pc Qc XC mc ms free := by
  refine MetFree.of_bodyS (code := cc) (maxLocals := maxL) (ret := ret) hy ?_ ?_
  · intro args s m h hn
    obtain ⟨meth, c, h1, h2, h3, h4, h5, h6, -, -⟩ := Cond.code_spec hn (atoms_spec (ws := ws) h _ (by rw [hw]; exact List.mem_cons_self))
    exact ⟨meth, c, h1, h2, h3, h4, h5, h6⟩
  · intro p e s m args below meth c s₁ B hml hP _
    have hh0 : s₁.heap = s.heap := by rw [B.state]; rfl
    have ht : ∀ x ∈ c.exceptionTable.toList, False := by
      obtain ⟨meth9, c9, h1, h2, -, -, -, -, h7, -⟩ := Cond.code_spec B.named (atoms_spec (ws := ws) B.pre _ (by rw [hw]; exact List.mem_cons_self))
      cases Option.some.inj (h1.symm.trans B.method)
      cases Option.some.inj (h2.symm.trans (Stand.of_body B).code)
      intro x hx
      rw [Array.isEmpty_iff.mp h7] at hx
      cases hx
    obtain ⟨t, a1, o, b1, b2, b3⟩ := body p e s m args below meth c s₁ B hml ht hP s₁ hh0 (Stand.of_body B)
    exact ⟨t, o, a1, b1, b2, b3⟩
/-- the table of a body with handlers -/
theorem vx_table {p : Program} {x y : MethodName} {S : Spec} {cc bytes : ByteArray} {maxL maxL' : Nat} {ret ret' : Option FieldType} {e : Env} {s s₁ : State} {m : MethodId} {args : Array Value} {below : List Frame} {meth : Method} {c : Code} {hh : List (Nat × Nat × Nat × Nat)}
    (B : BodyLoose p l y S cc maxL ret e s m args below meth c s₁) (h : (Cond.codeWith y bytes maxL' ret' hh).before args s = true) : c.exceptionTable.toList = tableOf hh := by
  obtain ⟨m9, meth9, c9, hn9, h1, h2, -, -, h6, -⟩ := Cond.codeWith_spec h
  cases Option.some.inj (hn9.symm.trans B.named)
  cases Option.some.inj (h1.symm.trans B.method)
  cases Option.some.inj (h2.symm.trans (Stand.of_body B).code)
  rw [← h6, table_eq]
end Bodies
end VXA
/-! ===== END ===== -/
/-! ===== BEGIN a static call of a method with an exception table ===== -/
section VXS
variable {p : Program} {l : Launch} {e : Env} {R : Room} {s : State} {m : MethodId} {args : Array Value} {below : List Frame} {meth : Method} {c : Code} {T : State} {H : Heap} {locs : List Loc} {cells slots : Nat}
abbrev vx_CSW (R : Room) (s : State) (args : Array Value) (own : String) (index : Nat) (y : MethodName) (bytes : ByteArray) (maxL : Nat) (ret : Option FieldType) (hh : List (Nat × Nat × Nat × Nat)) (ws : List Cond) (rm : Room) (mc ms n : Nat) : Prop :=
  (rm.cells = mc ∧ rm.slots = ms ∧ rm.frames + 1 ≤ R.frames ∧ 8 + (maxL + 11) + rm.locals ≤ R.locals ∧ (∀ w ∈ ws, ∀ (a' : Array Value) (U : State), s.WarmedH U.vm → w.before a' U = true) ∧ Cond.codeWith y bytes maxL ret hh ∈ ws) ∧
  (Cond.codeWith y bytes maxL ret hh).before args s = true ∧ (Cond.initialized y.cls).before args s = true ∧ (y.cls ≠ "java/lang/invoke/MethodHandle" ∧ y.cls ≠ "java/lang/invoke/VarHandle") ∧
  (∀ sig, parseMethodDescriptor y.desc = some sig → n = sig.parameters.length) ∧ (Cond.methodLink own index y).before args s = true ∧ (Cond.static y).before args s = true
theorem vx_cwSW {own : String} {index maxL mc ms : Nat} {y : MethodName} {bytes : ByteArray} {ret : Option FieldType} {hh : List (Nat × Nat × Nat × Nat)} {Ts ws ws' : List Cond} {rm : Room} (n : Nat) (ht : ∀ w ∈ Ts, w.before args s = true) (hT : GoodIn Ts (va_wsS own index y ws)) (hw : ws = Cond.codeWith y bytes maxL ret hh :: ws') (hrc : rm.cells = mc) (hrs : rm.slots = ms)
    (hd : y.cls ≠ "java/lang/invoke/MethodHandle" ∧ y.cls ≠ "java/lang/invoke/VarHandle" ∧ (parseMethodDescriptor y.desc).map (fun d => d.parameters.length) = some n) (hR : rm.frames + 1 ≤ R.frames ∧ 8 + (maxL + 11) + rm.locals ≤ R.locals) :
    vx_CSW R s args own index y bytes maxL ret hh ws rm mc ms n := by
  have ok : ∀ w ∈ va_wsS own index y ws, w.before args s = true := fun w h => ht w (hT w h).1
  have hG : GoodIn Ts ws := fun w h => hT w (by unfold va_wsS; exact List.mem_append_right _ h)
  have hc : Cond.codeWith y bytes maxL ret hh ∈ ws := by rw [hw]; exact List.mem_cons_self
  refine ⟨⟨hrc, hrs, hR.1, hR.2, pay_in ht hG, hc⟩, ht _ (hG _ hc).1, ok _ (by simp [va_wsS]), ⟨hd.1, hd.2.1⟩, fun sig h => ?_, ok _ (by simp [va_wsS]), ok _ (by simp [va_wsS])⟩
  have h2 := hd.2.2
  rw [h] at h2
  exact (Option.some.inj h2).symm
theorem vx_callSW (X : Stand p l e R s m args below meth c T locs cells slots) (hexec : p.tables.exec = Jvm.exec) {own : String} {index : Nat} {y : MethodName} {bytes : ByteArray} {maxL : Nat} {ret : Option FieldType} {hh : List (Nat × Nat × Nat × Nat)}
    (hown : s.vm.findClass own = some m.cls) (hlink : (Cond.methodLink own index y).before args s = true) (hstat : (Cond.static y).before args s = true) (hinit : (Cond.initialized y.cls).before args s = true)
    (hcode : (Cond.codeWith y bytes maxL ret hh).before args s = true) (hy : y.cls ≠ "java/lang/invoke/MethodHandle" ∧ y.cls ≠ "java/lang/invoke/VarHandle")
    {W9 : Nat} {Pre : Pt → Array Value → Prop} {Post : Pt → Array Value → Option Value → Pt → Prop} (hK : Back l R p e below s args y 3 W9 Pre Post)
    {g : JFrame} (hg : g.method = m) (hsize : g.locals.size = c.maxLocals) {argsL rest : List Value} (hlen : ∀ sig, parseMethodDescriptor y.desc = some sig → argsL.length = sig.parameters.length)
    (hstack : g.stack = argsL.reverse ++ rest) (hW : 2 * g.monitorRoom + (rest.map fun v => v.category).sum ≤ W9) (hdg : decode c.code g.pc = .ok (.invokestatic index, 3))
    (hpre : ∀ vm₁, s.WarmedH vm₁ → Pre ⟨T.setVm vm₁, locs, cells, slots⟩ argsL.toArray) :
    ∃ (v : Option Value) (vm₁ : Vm) (B : Pt), s.WarmedH vm₁ ∧ Stand p l e R s m args below meth c B.U B.locs B.cells B.slots ∧ Post ⟨T.setVm vm₁, locs, cells, slots⟩ argsL.toArray v B ∧
      ∀ target, Steps p.tables e below (B.U.setTop { g with pc := g.pc + 3, stack := v.toList ++ rest }) target → Steps p.tables e below (T.setTop g) target := by
  obtain ⟨mk, methM, cM, hnamed, hmethM, -, -, -, -, -, -, hsigM⟩ := Cond.codeWith_spec hcode
  have hstatic : methM.isStatic = true := Cond.static_spec hnamed hmethM hstat
  obtain ⟨kP, hkP, -⟩ := className_of_methodNamed hnamed
  have hinitP : kP.init = .initialized := Cond.initialized_spec (findClass_of_methodNamed hnamed) hkP hinit
  obtain ⟨vm₁, X₁, hstep₁⟩ := X.invokestatic hexec hown hlink hnamed hmethM hstatic hkP hinitP hy (g := g) hg (argsL := argsL) (rest := rest) (hlen _ hsigM) hstack hdg
  obtain ⟨v, B, X', hpost, hsteps⟩ := hK m meth c ⟨T.setVm vm₁, locs, cells, slots⟩ { g with stack := rest } (.invokestatic index) mk argsL.toArray X₁ hg hsize hdg hW (X₁.named hnamed) (hpre vm₁ X₁.warmed)
  exact ⟨v, vm₁, B, X₁.warmed, X', hpost, fun target h => hstep₁ _ fun acts => by rw [doInvoke_state]; exact hsteps.trans h⟩
theorem vx_runSW {y : MethodName} {bytes cc : ByteArray} {maxL nL mc ms n index : Nat} {ret : Option FieldType} {hh : List (Nat × Nat × Nat × Nat)} {ws : List Cond} {rm : Room} {Pc : Array Value → State → Prop} {Qc : Array Value → State → Outcome → State → Prop} {free : Addr → Prop} {Ts : List Cond} {own : String} {As rest : List Value} {g : JFrame}
    (S : CallFix p m c cc nL s args Ts own) (hM : Met l y ws rm Pc Qc mc ms free) (cw : vx_CSW R s args own index y bytes maxL ret hh ws rm mc ms n) (hp : PreS s H Pc As)
    (hg : g.method = m) (hn : As.length = n) (hsize : g.locals.size = nL) (hstack : g.stack = As.reverse ++ rest) (hW : 2 * g.monitorRoom + (rest.map fun v => v.category).sum ≤ 8) (hdg : decode cc g.pc = .ok (.invokestatic index, 3)) (hf : cells + mc ≤ R.cells ∧ slots + ms ≤ R.slots) :
    va_Run p l e R s m args below meth c H locs cells slots mc ms g rest (Qc As.toArray) (free) := by
  obtain ⟨⟨hrc, hrs, hfr, hlo, hws, hcw⟩, hcode, hini, hy, hlen, hl, hstt⟩ := cw
  have hK : Back l R p e below s args y 3 8 (PreOf R mc ms Pc) (PostOf Qc mc ms free) := va_backW (hh := hh) (bytes := bytes) (maxL := maxL) (ret := ret) hM hp.1 hrc hrs hfr hlo hws hcw (fun a' U hW => word_at hW (Or.inl (by first | rfl | simp [Cond.onTables, Cond.keeps, Cond.steady])) hini)
  obtain ⟨hx, hb, hml, ho, -⟩ := S
  intro T hT X
  obtain ⟨v, vm₁, ⟨U', l2, c2, s2⟩, hW₁, X', ⟨g', mk, t, L, e1, e2, hq, h1, hL, h2, h3⟩, st⟩ := vx_callSW X hx (hh := hh) (bytes := bytes) (maxL := maxL) (ret := ret) ho hl hstt hini hcode hy hK hg (hsize.trans hml.symm) (argsL := As) (rest := rest) (fun sig h => hn.trans (hlen sig h)) hstack hW (by rw [hb]; exact hdg)
    (fun vm₁ hW₁ => ⟨hf.1, hf.2, hp.2 (T.setVm vm₁) hT hW₁⟩)
  dsimp only [Pt.U, Pt.locs, Pt.cells, Pt.slots] at X' e1 e2 h1 h2 h3 st
  subst h1; subst h2; subst h3
  exact ⟨v, (T.setVm vm₁).calling g' mk As.toArray, t, U', L, hT, X', hL, e1, e2, hq, st⟩
/-- not caught here, past rows that name other classes: it goes on to the caller -/
theorem vx_outP {p : Program} {l : Launch} {e : Env} {R : Room} {s : State} {m : MethodId} {args : Array Value} {below : List Frame} {meth : Method} {c : Code} {H : Heap} {locs : List Loc} {cells slots : Nat} {free : Addr → Prop} {ls : Array Slot} {rest : List Value} {Qc : Array Value → State → Outcome → State → Prop} {XC : String → State → State → Prop}
    {pc : Nat} {own E : String} {ce : Cell} {q : Addr} {mc ms : Nat} (hown : s.vm.findClass own = some m.cls) (hlocks : meth.locks = false)
    (hpass : ∀ z ∈ c.exceptionTable.toList, covers z pc = false ∨ (z.catchType ≠ 0 ∧ ∃ nm : String, (Cond.classLink own z.catchType nm).before args s = true ∧ va_Nc E nm s)) (hcell : H[q]? = some ce) (hv : ce.vm = .none) (hcl : s.vm.findClass E = some ce.cls)
    (hx : ∀ t : State, t.heap = H → s.vm.Alike t.vm → XC E s t) (hf : ∀ z ∈ locs, free z.base) (hc : cells ≤ mc) (hs : slots ≤ ms) :
    vx_W p l e R s m args below meth c H locs cells slots (vx_MQ below Qc XC args s mc ms free) (F0 m pc ls rest) q := by
  intro T hT X
  have hpl : e.platform.magicAccessors = ({} : Platform).magicAccessors := by rw [X.admits.platform]
  obtain ⟨vm', hW', X', st⟩ := X.outThrough hlocks q (g := F0 m pc ls rest) rfl rfl rfl (cell := ce) (by rw [hT]; exact hcell) (by rw [hv]; rfl)
    (by obtain ⟨k9, h9, -⟩ := Vm.findClass_spec hcl; exact ⟨k9, h9⟩) (fun z hz => by
      rcases hpass z hz with h | ⟨hz0, nm, hl1, hn1⟩
      · exact Or.inl h
      · obtain ⟨c6, hc6, hcl6⟩ := Cond.classLink_spec hown hl1 e.platform hpl
        obtain ⟨a8, b8, h1, h2, h3⟩ := hn1
        cases Option.some.inj (h1.symm.trans hcl)
        cases Option.some.inj (h2.symm.trans hc6)
        exact Or.inr ⟨hz0, _, hcl6, h3⟩)
  obtain ⟨g₀, hfr⟩ := X'.frames_eq
  have hcell9 : ((T.setVm vm').setFrames (.throwing q :: below)).heap[q]? = some ce := by
    show T.heap[q]? = some ce
    rw [hT]; exact hcell
  have hend : Ended ((T.setVm vm').setFrames (.throwing q :: below)) below (.threw q) := State.frames_setFrames _ (State.cur_lt_of_frames hfr)
  refine ⟨(T.setVm vm').setFrames (.throwing q :: below), ?_, .threw q, X'.here.running, hend, Or.inr ⟨q, rfl, E, ce, locs, hx _ hT (X'.ends _).1.alike, hcell9, hv, hcl, (X'.ends _).1, (X'.ends _).2.mono hc hs, hf⟩⟩
  rw [X.pushThrowing_eq]
  exact st
/-- a thing of a world lies in the heap -/
theorem vx_lt {D : va_G} {cl : List vw_C} {ws : va_W} {H1 : Heap} (h : va_P D cl ws H1) {k : Nat} {q : Nat × va_E} (hk : ws[k]? = some q) : q.1 < H1.size := (h k q hk).lt
end VXS
/-! ===== END ===== -/
/-! ===== BEGIN methods with a table of their own: called by a name, returning or throwing ===== -/
section VXH
/-! vx_backW, vx_callVX, vx_callSX, vx_callVW, vx_runVW, vx_runVX, vx_runSX, vx_ofWH follow the same proofs as their sisters above (Free/Laws.lean, Shelf42/LK1.lean); vx_outP calls Shelf42/NT130.lean (outThrough). -/
section
variable {l : Launch} {R : Room} {p : Program} {e : Env} {below : List Frame} {s : State} {sargs : Array Value} {y : MethodName} {len W9 : Nat}
theorem vx_backW {ws : List Cond} {rm : Room} {Pc : Array Value → State → Prop} {Qc : Array Value → State → Outcome → State → Prop} {XC : String → State → State → Prop} {mc ms : Nat} {free : Addr → Prop} {bytes : ByteArray} {maxL : Nat} {ret : Option FieldType} {hh : List (Nat × Nat × Nat × Nat)}
    (hM : vx_Met l y ws rm Pc Qc XC mc ms free) (hblind : FrameBlind Pc) (hrc : rm.cells = mc) (hrs : rm.slots = ms)
    (hframes : rm.frames + 1 ≤ R.frames) (hlocals : W9 + (maxL + 11) + rm.locals ≤ R.locals)
    (hws : ∀ w ∈ ws, ∀ a' U, s.WarmedH U.vm → w.before a' U = true) (hcode : Cond.codeWith y bytes maxL ret hh ∈ ws) (hinit : ∀ a' U, s.WarmedH U.vm → (Cond.initialized y.cls).before a' U = true) :
    vx_Back l R p e below s sargs y len W9 (PreOf R mc ms Pc) (PostOf Qc mc ms free) (vx_Post XC mc ms free) := by
  intro m meth c A g ig mk a X hg hsize hdg hW hn hp
  have h1 : (headSpec ws rm).pre.before a A.U = true := atoms_intro fun w hw => hws w hw _ _ X.warmed
  have h2 : (Cond.codeWith y bytes maxL ret hh).before a A.U = true := hws _ hcode _ _ X.warmed
  have h3 : (Cond.initialized y.cls).before a A.U = true := hinit _ _ X.warmed
  have h4 : A.cells + (headSpec ws rm).room.cells ≤ R.cells := by rw [show (headSpec ws rm).room.cells = mc from hrc]; exact hp.1
  have h5 : A.slots + (headSpec ws rm).room.slots ≤ R.slots := by rw [show (headSpec ws rm).room.slots = ms from hrs]; exact hp.2.1
  have hPc : Pc a (A.U.calling g mk a) := hblind _ _ _ _ hp.2.2
  obtain ⟨U, Ls, c0, s0⟩ := A
  dsimp only [Pt.U, Pt.locs, Pt.cells, Pt.slots] at h1 h2 h3 h4 h5 X hn hPc ⊢
  obtain ⟨m9, methY, cY, hn9, hmY, hcY, -, hlY, -⟩ := Cond.codeWith_spec h2
  cases Option.some.inj (hn9.symm.trans hn)
  obtain ⟨kY, hkY, -⟩ := className_of_methodNamed hn
  have hinitY : kY.init = .initialized := Cond.initialized_spec (findClass_of_methodNamed hn) hkY h3
  have h : At U g.method c below := by rw [hg]; exact X.here
  have hlocals9 : W9 + (maxL + 11) + (headSpec ws rm).room.locals ≤ R.locals := hlocals
  have happ : (headSpec ws rm).appliesLoose y e.platform (U.calling g mk a) = true :=
    Spec.appliesLoose_calling (g := g) h hdg hn hkY hinitY
      (X.room_calling (g := g) (R' := (headSpec ws rm).room) hsize hmY hcY hframes (by rw [hlY]; omega) h4 h5) h1
  obtain ⟨mid, hmid⟩ := h.above
  have hfr : (U.setTop g).frames = (.java g :: mid) ++ below := by rw [State.frames_setTop' g h.top, hmid]; rfl
  obtain ⟨o, s₂, hsteps, -, hend, hq⟩ := Steps.callFree hM p X.admits X.cas X.clock (acts := []) hfr happ hPc trivial
  have hq' : vx_Q Qc XC mc ms free a (U.calling g mk a) o s₂ := hq
  rw [State.frames_setTop' g h.top] at hend
  obtain ⟨g₀, hg0⟩ := Option.isSome_iff_exists.mp h.top
  obtain ⟨r, hr⟩ := State.topJava?_eq_some.mp hg0
  have hr' : (({ U with heap := s₂.heap, slotsUsed := s₂.slotsUsed } : State).setVm s₂.vm).frames = .java g₀ :: r := hr
  rcases hq' with ⟨hqc, L, hfe, hL⟩ | ⟨q, rfl, E, ce, L, hx, hce, hcv, hcl, hW₂, hsm, hL⟩
  · obtain ⟨⟨v, rfl⟩, hW₂, e2, q2, q3, q4, q5, q6⟩ := id hfe
    have e3 : s₂ = ({ (U.calling g mk a).setFrames s₂.frames with heap := s₂.heap, slotsUsed := s₂.slotsUsed } : State).setVm s₂.vm := by
      have : s₂ = ({ s₂ with vm := (U.calling g mk a).vm } : State).setVm s₂.vm := rfl
      rw [e2] at this
      exact this
    obtain ⟨c₂, i₂, len₂, hc₂, hd₂, hf₂⟩ := hend
    have hW' : U.WarmedH s₂.vm := hW₂
    have hcc : c₂ = c := by
      have h1 : s₂.code? g.method = U.code? g.method := by
        rw [State.code?_eq, State.code?_eq, hW'.alike.method?]
      exact Option.some.inj (hc₂.symm.trans (h1.trans h.code))
    subst hcc
    have hlen : len₂ = len := by rw [hdg] at hd₂; cases hd₂; rfl
    subst hlen
    have hs₂ : s₂ = (({ U with heap := s₂.heap, slotsUsed := s₂.slotsUsed } : State).setVm s₂.vm).setTop { g with pc := g.pc + len₂, stack := v.toList ++ g.stack } := by
      refine e3.trans ?_
      rw [hf₂, State.calling_eq h.top, State.setFrames_setFrames, State.setTop_of_frames _ hr', hr]
      rfl
    have hsame : U.sameButNew ({ U with heap := s₂.heap, slotsUsed := s₂.slotsUsed } : State) L mc ms := by
      refine ⟨?_, q2, q3, q4, q5, q6⟩
      obtain ⟨t, ht, -⟩ := State.frames_cons hr
      show ({ U with heap := s₂.heap, slotsUsed := s₂.slotsUsed } : State) = { U.setFrames U.frames with heap := s₂.heap, slotsUsed := s₂.slotsUsed }
      rw [State.setFrames_self ht]
    subst hg
    refine Or.inl ⟨v, ⟨(({ U with heap := s₂.heap, slotsUsed := s₂.slotsUsed } : State).setVm s₂.vm), Ls ++ L, c0 + mc, s0 + ms⟩,
      ⟨X.admits, X.cas, X.clock, X.frames, X.room, X.hears, X.method, X.code, (X.here.setHeapUsed s₂.heap s₂.slotsUsed).setVm hW'.alike, X.tail, State.WarmedH.trans X.warmed hW', X.limits, X.bytes, X.same.trans (hsame.setVm s.vm)⟩,
      ⟨g, mk, s₂, L, rfl, rfl, hqc, rfl, hL, rfl, rfl⟩, ?_⟩
    show Steps p.tables e below _ ((({ U with heap := s₂.heap, slotsUsed := s₂.slotsUsed } : State).setVm s₂.vm).setTop { g with pc := g.pc + len₂, stack := v.toList ++ g.stack })
    rw [← hs₂]
    exact hsteps
  · obtain ⟨e2, q2, q3, q4, q5, q6⟩ := id hsm
    have e3 : s₂ = ({ (U.calling g mk a).setFrames s₂.frames with heap := s₂.heap, slotsUsed := s₂.slotsUsed } : State).setVm s₂.vm := by
      have : s₂ = ({ s₂ with vm := (U.calling g mk a).vm } : State).setVm s₂.vm := rfl
      rw [e2] at this
      exact this
    have hf₂ : s₂.frames = .throwing q :: .java g :: U.frames.tail := hend
    have hW' : U.WarmedH s₂.vm := hW₂
    have hs₂ : s₂ = ((({ U with heap := s₂.heap, slotsUsed := s₂.slotsUsed } : State).setVm s₂.vm).setTop g).pushFrame (.throwing q) := by
      refine e3.trans ?_
      rw [hf₂, State.calling_eq h.top, State.setFrames_setFrames, State.pushFrame, State.frames_setTop _ hr', State.setTop_of_frames _ hr', State.setFrames_setFrames, hr]
      rfl
    have hsame : U.sameButNew ({ U with heap := s₂.heap, slotsUsed := s₂.slotsUsed } : State) L mc ms := by
      refine ⟨?_, q2, q3, q4, q5, q6⟩
      obtain ⟨t, ht, -⟩ := State.frames_cons hr
      show ({ U with heap := s₂.heap, slotsUsed := s₂.slotsUsed } : State) = { U.setFrames U.frames with heap := s₂.heap, slotsUsed := s₂.slotsUsed }
      rw [State.setFrames_self ht]
    subst hg
    refine Or.inr ⟨q, ⟨(({ U with heap := s₂.heap, slotsUsed := s₂.slotsUsed } : State).setVm s₂.vm), Ls ++ L, c0 + mc, s0 + ms⟩,
      ⟨X.admits, X.cas, X.clock, X.frames, X.room, X.hears, X.method, X.code, (X.here.setHeapUsed s₂.heap s₂.slotsUsed).setVm hW'.alike, X.tail, State.WarmedH.trans X.warmed hW', X.limits, X.bytes, X.same.trans (hsame.setVm s.vm)⟩,
      ⟨g, mk, s₂, L, E, ce, rfl, rfl, hx, hce, hcv, hcl, rfl, hL, rfl, rfl⟩, ?_⟩
    show Steps p.tables e below _ (((({ U with heap := s₂.heap, slotsUsed := s₂.slotsUsed } : State).setVm s₂.vm).setTop g).pushFrame (.throwing q))
    rw [← hs₂]
    exact hsteps
end
variable {p : Program} {l : Launch} {e : Env} {R : Room} {s : State} {m : MethodId} {args : Array Value} {below : List Frame} {meth : Method} {c : Code} {T : State} {H : Heap} {locs : List Loc} {cells slots : Nat}
theorem vx_callVX (X : Stand p l e R s m args below meth c T locs cells slots) (hexec : p.tables.exec = Jvm.exec) {own C : String} {index : Nat} {y : MethodName} {bytes : ByteArray} {maxL : Nat} {ret : Option FieldType} {hh : List (Nat × Nat × Nat × Nat)}
    (hown : s.vm.findClass own = some m.cls) (hlink : (Cond.methodLink own index y).before args s = true) (hinst : (Cond.instanceMethod y).before args s = true) (hsel : (Cond.selects C y y).before args s = true)
    (hcode : (Cond.codeWith y bytes maxL ret hh).before args s = true) (hy : y.cls ≠ "java/lang/invoke/MethodHandle" ∧ y.cls ≠ "java/lang/invoke/VarHandle")
    {W9 : Nat} {Pre : Pt → Array Value → Prop} {Post : Pt → Array Value → Option Value → Pt → Prop} {PostX : Pt → Array Value → Addr → Pt → Prop} (hK : vx_Back l R p e below s args y 3 W9 Pre Post PostX)
    {b : Addr} {cellB : Cell} (hcell : T.heap[b]? = some cellB) (hobj : cellB.vm.isStatics = false) (hcls : s.vm.findClass C = some cellB.cls)
    {g : JFrame} (hg : g.method = m) (hsize : g.locals.size = c.maxLocals) {argsL rest : List Value} (hlen : ∀ sig, parseMethodDescriptor y.desc = some sig → argsL.length = sig.parameters.length)
    (hstack : g.stack = argsL.reverse ++ .ref b :: rest) (hW : 2 * g.monitorRoom + (rest.map fun v => v.category).sum ≤ W9) (hdg : decode c.code g.pc = .ok (.invokevirtual index, 3))
    (hpre : ∀ vm₁, s.WarmedH vm₁ → Pre ⟨T.setVm vm₁, locs, cells, slots⟩ (Value.ref b :: argsL).toArray) :
    (∃ (v : Option Value) (vm₁ : Vm) (B : Pt), s.WarmedH vm₁ ∧ Stand p l e R s m args below meth c B.U B.locs B.cells B.slots ∧ Post ⟨T.setVm vm₁, locs, cells, slots⟩ (Value.ref b :: argsL).toArray v B ∧
      ∀ target, Steps p.tables e below (B.U.setTop { g with pc := g.pc + 3, stack := v.toList ++ rest }) target → Steps p.tables e below (T.setTop g) target) ∨
    (∃ (q : Addr) (vm₁ : Vm) (B : Pt), s.WarmedH vm₁ ∧ Stand p l e R s m args below meth c B.U B.locs B.cells B.slots ∧ PostX ⟨T.setVm vm₁, locs, cells, slots⟩ (Value.ref b :: argsL).toArray q B ∧
      Steps p.tables e below (T.setTop g) ((B.U.setTop { g with stack := rest }).pushFrame (.throwing q))) := by
  obtain ⟨mk, methM, hnamed, hmethM, hstM, habM⟩ := Cond.instanceMethod_spec hinst
  obtain ⟨m8, methM', cM, hn8, hmethM', -, -, -, -, -, -, hsigM⟩ := Cond.codeWith_spec hcode
  cases Option.some.inj (hn8.symm.trans hnamed)
  cases hmethM.symm.trans hmethM'
  obtain ⟨c2, r2, m2, q1, q2, q3, q4, kP, hkP, hkPi⟩ := Cond.selects_spec hsel
  cases hcls.symm.trans q1
  cases (State.methodFound?_of_named hnamed hy).symm.trans q2
  cases hnamed.symm.trans q3
  have hselP : selectMethod e.platform s.vm cellB.cls mk = .method mk := by rw [Launch.admits_selectMethod X.admits]; exact q4
  obtain ⟨vm₁, X₁, hstep₁⟩ := X.invokevirtual hexec hown hlink hnamed hmethM hstM hkP hkPi hy (a := b) (cell := cellB) hcell
    (fun z h => by rw [h] at hobj; cases hobj) hselP hmethM habM hkP hkPi (g := g) hg (argsL := argsL) (rest := rest) (hlen _ hsigM) hstack hdg
  rcases hK m meth c ⟨T.setVm vm₁, locs, cells, slots⟩ { g with stack := rest } (.invokevirtual index) mk (Value.ref b :: argsL).toArray X₁ hg hsize hdg hW (X₁.named hnamed) (hpre vm₁ X₁.warmed) with ⟨v, B, X', hpost, hsteps⟩ | ⟨q, B, X', hpost, hsteps⟩
  · exact Or.inl ⟨v, vm₁, B, X₁.warmed, X', hpost, fun target h => hstep₁ _ fun acts => by rw [doInvoke_state]; exact hsteps.trans h⟩
  · exact Or.inr ⟨q, vm₁, B, X₁.warmed, X', hpost, hstep₁ _ fun acts => by rw [doInvoke_state]; exact hsteps⟩
theorem vx_callSX (X : Stand p l e R s m args below meth c T locs cells slots) (hexec : p.tables.exec = Jvm.exec) {own : String} {index : Nat} {y : MethodName} {bytes : ByteArray} {maxL : Nat} {ret : Option FieldType} {hh : List (Nat × Nat × Nat × Nat)}
    (hown : s.vm.findClass own = some m.cls) (hlink : (Cond.methodLink own index y).before args s = true) (hstat : (Cond.static y).before args s = true) (hinit : (Cond.initialized y.cls).before args s = true)
    (hcode : (Cond.codeWith y bytes maxL ret hh).before args s = true) (hy : y.cls ≠ "java/lang/invoke/MethodHandle" ∧ y.cls ≠ "java/lang/invoke/VarHandle")
    {W9 : Nat} {Pre : Pt → Array Value → Prop} {Post : Pt → Array Value → Option Value → Pt → Prop} {PostX : Pt → Array Value → Addr → Pt → Prop} (hK : vx_Back l R p e below s args y 3 W9 Pre Post PostX)
    {g : JFrame} (hg : g.method = m) (hsize : g.locals.size = c.maxLocals) {argsL rest : List Value} (hlen : ∀ sig, parseMethodDescriptor y.desc = some sig → argsL.length = sig.parameters.length)
    (hstack : g.stack = argsL.reverse ++ rest) (hW : 2 * g.monitorRoom + (rest.map fun v => v.category).sum ≤ W9) (hdg : decode c.code g.pc = .ok (.invokestatic index, 3))
    (hpre : ∀ vm₁, s.WarmedH vm₁ → Pre ⟨T.setVm vm₁, locs, cells, slots⟩ argsL.toArray) :
    (∃ (v : Option Value) (vm₁ : Vm) (B : Pt), s.WarmedH vm₁ ∧ Stand p l e R s m args below meth c B.U B.locs B.cells B.slots ∧ Post ⟨T.setVm vm₁, locs, cells, slots⟩ argsL.toArray v B ∧
      ∀ target, Steps p.tables e below (B.U.setTop { g with pc := g.pc + 3, stack := v.toList ++ rest }) target → Steps p.tables e below (T.setTop g) target) ∨
    (∃ (q : Addr) (vm₁ : Vm) (B : Pt), s.WarmedH vm₁ ∧ Stand p l e R s m args below meth c B.U B.locs B.cells B.slots ∧ PostX ⟨T.setVm vm₁, locs, cells, slots⟩ argsL.toArray q B ∧
      Steps p.tables e below (T.setTop g) ((B.U.setTop { g with stack := rest }).pushFrame (.throwing q))) := by
  obtain ⟨mk, methM, cM, hnamed, hmethM, -, -, -, -, -, -, hsigM⟩ := Cond.codeWith_spec hcode
  have hstatic : methM.isStatic = true := Cond.static_spec hnamed hmethM hstat
  obtain ⟨kP, hkP, -⟩ := className_of_methodNamed hnamed
  have hinitP : kP.init = .initialized := Cond.initialized_spec (findClass_of_methodNamed hnamed) hkP hinit
  obtain ⟨vm₁, X₁, hstep₁⟩ := X.invokestatic hexec hown hlink hnamed hmethM hstatic hkP hinitP hy (g := g) hg (argsL := argsL) (rest := rest) (hlen _ hsigM) hstack hdg
  rcases hK m meth c ⟨T.setVm vm₁, locs, cells, slots⟩ { g with stack := rest } (.invokestatic index) mk argsL.toArray X₁ hg hsize hdg hW (X₁.named hnamed) (hpre vm₁ X₁.warmed) with ⟨v, B, X', hpost, hsteps⟩ | ⟨q, B, X', hpost, hsteps⟩
  · exact Or.inl ⟨v, vm₁, B, X₁.warmed, X', hpost, fun target h => hstep₁ _ fun acts => by rw [doInvoke_state]; exact hsteps.trans h⟩
  · exact Or.inr ⟨q, vm₁, B, X₁.warmed, X', hpost, hstep₁ _ fun acts => by rw [doInvoke_state]; exact hsteps⟩
theorem vx_callVW (X : Stand p l e R s m args below meth c T locs cells slots) (hexec : p.tables.exec = Jvm.exec) {own C : String} {index : Nat} {y : MethodName} {bytes : ByteArray} {maxL : Nat} {ret : Option FieldType} {hh : List (Nat × Nat × Nat × Nat)}
    (hown : s.vm.findClass own = some m.cls) (hlink : (Cond.methodLink own index y).before args s = true) (hinst : (Cond.instanceMethod y).before args s = true) (hsel : (Cond.selects C y y).before args s = true)
    (hcode : (Cond.codeWith y bytes maxL ret hh).before args s = true) (hy : y.cls ≠ "java/lang/invoke/MethodHandle" ∧ y.cls ≠ "java/lang/invoke/VarHandle")
    {W9 : Nat} {Pre : Pt → Array Value → Prop} {Post : Pt → Array Value → Option Value → Pt → Prop} (hK : Back l R p e below s args y 3 W9 Pre Post)
    {b : Addr} {cellB : Cell} (hcell : T.heap[b]? = some cellB) (hobj : cellB.vm.isStatics = false) (hcls : s.vm.findClass C = some cellB.cls)
    {g : JFrame} (hg : g.method = m) (hsize : g.locals.size = c.maxLocals) {argsL rest : List Value} (hlen : ∀ sig, parseMethodDescriptor y.desc = some sig → argsL.length = sig.parameters.length)
    (hstack : g.stack = argsL.reverse ++ .ref b :: rest) (hW : 2 * g.monitorRoom + (rest.map fun v => v.category).sum ≤ W9) (hdg : decode c.code g.pc = .ok (.invokevirtual index, 3))
    (hpre : ∀ vm₁, s.WarmedH vm₁ → Pre ⟨T.setVm vm₁, locs, cells, slots⟩ (Value.ref b :: argsL).toArray) :
    ∃ (v : Option Value) (vm₁ : Vm) (B : Pt), s.WarmedH vm₁ ∧ Stand p l e R s m args below meth c B.U B.locs B.cells B.slots ∧ Post ⟨T.setVm vm₁, locs, cells, slots⟩ (Value.ref b :: argsL).toArray v B ∧
      ∀ target, Steps p.tables e below (B.U.setTop { g with pc := g.pc + 3, stack := v.toList ++ rest }) target → Steps p.tables e below (T.setTop g) target := by
  obtain ⟨mk, methM, hnamed, hmethM, hstM, habM⟩ := Cond.instanceMethod_spec hinst
  obtain ⟨m8, methM', cM, hn8, hmethM', -, -, -, -, -, -, hsigM⟩ := Cond.codeWith_spec hcode
  cases Option.some.inj (hn8.symm.trans hnamed)
  cases hmethM.symm.trans hmethM'
  obtain ⟨c2, r2, m2, q1, q2, q3, q4, kP, hkP, hkPi⟩ := Cond.selects_spec hsel
  cases hcls.symm.trans q1
  cases (State.methodFound?_of_named hnamed hy).symm.trans q2
  cases hnamed.symm.trans q3
  have hselP : selectMethod e.platform s.vm cellB.cls mk = .method mk := by rw [Launch.admits_selectMethod X.admits]; exact q4
  obtain ⟨vm₁, X₁, hstep₁⟩ := X.invokevirtual hexec hown hlink hnamed hmethM hstM hkP hkPi hy (a := b) (cell := cellB) hcell
    (fun z h => by rw [h] at hobj; cases hobj) hselP hmethM habM hkP hkPi (g := g) hg (argsL := argsL) (rest := rest) (hlen _ hsigM) hstack hdg
  obtain ⟨v, B, X', hpost, hsteps⟩ := hK m meth c ⟨T.setVm vm₁, locs, cells, slots⟩ { g with stack := rest } (.invokevirtual index) mk (Value.ref b :: argsL).toArray X₁ hg hsize hdg hW (X₁.named hnamed) (hpre vm₁ X₁.warmed)
  exact ⟨v, vm₁, B, X₁.warmed, X', hpost, fun target h => hstep₁ _ fun acts => by rw [doInvoke_state]; exact hsteps.trans h⟩
abbrev vx_CVW (R : Room) (s : State) (args : Array Value) (own C : String) (index : Nat) (y : MethodName) (bytes : ByteArray) (maxL : Nat) (ret : Option FieldType) (hh : List (Nat × Nat × Nat × Nat)) (ws : List Cond) (rm : Room) (mc ms n : Nat) : Prop :=
  (rm.cells = mc ∧ rm.slots = ms ∧ rm.frames + 1 ≤ R.frames ∧ 8 + (maxL + 11) + rm.locals ≤ R.locals ∧ (∀ w ∈ ws, ∀ (a' : Array Value) (U : State), s.WarmedH U.vm → w.before a' U = true) ∧ Cond.codeWith y bytes maxL ret hh ∈ ws) ∧
  (Cond.codeWith y bytes maxL ret hh).before args s = true ∧ (Cond.initialized y.cls).before args s = true ∧ (y.cls ≠ "java/lang/invoke/MethodHandle" ∧ y.cls ≠ "java/lang/invoke/VarHandle") ∧
  (∀ sig, parseMethodDescriptor y.desc = some sig → n = sig.parameters.length) ∧ (Cond.methodLink own index y).before args s = true ∧ (Cond.instanceMethod y).before args s = true ∧ (Cond.selects C y y).before args s = true
theorem vx_cwVW {own C : String} {index maxL mc ms : Nat} {y : MethodName} {bytes : ByteArray} {ret : Option FieldType} {hh : List (Nat × Nat × Nat × Nat)} {Ts ws ws' : List Cond} {rm : Room} (n : Nat) (ht : ∀ w ∈ Ts, w.before args s = true) (hT : GoodIn Ts (wsV own index C y ws)) (hw : ws = Cond.codeWith y bytes maxL ret hh :: ws') (hrc : rm.cells = mc) (hrs : rm.slots = ms)
    (hd : y.cls = C ∧ y.cls ≠ "java/lang/invoke/MethodHandle" ∧ y.cls ≠ "java/lang/invoke/VarHandle" ∧ (parseMethodDescriptor y.desc).map (fun d => d.parameters.length) = some n) (hR : rm.frames + 1 ≤ R.frames ∧ 8 + (maxL + 11) + rm.locals ≤ R.locals) :
    vx_CVW R s args own C index y bytes maxL ret hh ws rm mc ms n := by
  obtain ⟨hC, hd⟩ := hd
  subst hC
  have ok : ∀ w ∈ wsV own index y.cls y ws, w.before args s = true := fun w h => ht w (hT w h).1
  have hG : GoodIn Ts ws := fun w h => hT w (by unfold wsV; exact List.mem_append_right _ h)
  have hc : Cond.codeWith y bytes maxL ret hh ∈ ws := by rw [hw]; exact List.mem_cons_self
  refine ⟨⟨hrc, hrs, hR.1, hR.2, pay_in ht hG, hc⟩, ht _ (hG _ hc).1, ok _ (by simp [wsV]), ⟨hd.1, hd.2.1⟩, fun sig h => ?_, ok _ (by simp [wsV]), ok _ (by simp [wsV]), ok _ (by simp [wsV])⟩
  have h2 := hd.2.2
  rw [h] at h2
  exact (Option.some.inj h2).symm
theorem vx_runVW {y : MethodName} {bytes cc : ByteArray} {maxL nL mc ms n index : Nat} {ret : Option FieldType} {hh : List (Nat × Nat × Nat × Nat)} {ws : List Cond} {rm : Room} {Pc : Array Value → State → Prop} {Qc : Array Value → State → Outcome → State → Prop} {free : Addr → Prop} {Ts : List Cond} {own C : String} {b : Addr} {As rest : List Value} {g : JFrame}
    (S : CallFix p m c cc nL s args Ts own) (hM : Met l y ws rm Pc Qc mc ms free) (cw : vx_CVW R s args own C index y bytes maxL ret hh ws rm mc ms n) (hp : PreV s H C b Pc As)
    (hg : g.method = m) (hn : As.length = n) (hsize : g.locals.size = nL) (hstack : g.stack = As.reverse ++ .ref b :: rest) (hW : 2 * g.monitorRoom + (rest.map fun v => v.category).sum ≤ 8) (hdg : decode cc g.pc = .ok (.invokevirtual index, 3)) (hf : cells + mc ≤ R.cells ∧ slots + ms ≤ R.slots) :
    va_Run p l e R s m args below meth c H locs cells slots mc ms g rest (Qc (Value.ref b :: As).toArray) free := by
  obtain ⟨⟨hrc, hrs, hfr, hlo, hws, hcw⟩, hcode, hini, hy, hlen, hl, hin, hse⟩ := cw
  have hK : Back l R p e below s args y 3 8 (PreOf R mc ms Pc) (PostOf Qc mc ms free) := va_backW (hh := hh) (bytes := bytes) (maxL := maxL) (ret := ret) hM hp.1 hrc hrs hfr hlo hws hcw (fun a' U hW => word_at hW (Or.inl (by first | rfl | simp [Cond.onTables, Cond.keeps, Cond.steady])) hini)
  obtain ⟨hx, hb, hml, ho, -⟩ := S
  obtain ⟨-, ⟨cellB, hcB, hoB, hclB⟩, hPc⟩ := hp
  intro T hT X
  obtain ⟨v, vm₁, ⟨U', l2, c2, s2⟩, hW₁, X', ⟨g', mk, t, L, e1, e2, hq, h1, hL, h2, h3⟩, st⟩ := vx_callVW X hx (C := C) (hh := hh) (bytes := bytes) (maxL := maxL) (ret := ret) ho hl hin hse hcode hy hK (by rw [hT]; exact hcB) hoB hclB hg (hsize.trans hml.symm) (argsL := As) (rest := rest) (fun sig h => hn.trans (hlen sig h)) hstack hW (by rw [hb]; exact hdg)
    (fun vm₁ hW₁ => ⟨hf.1, hf.2, hPc (T.setVm vm₁) hT hW₁⟩)
  dsimp only [Pt.U, Pt.locs, Pt.cells, Pt.slots] at X' e1 e2 h1 h2 h3 st
  subst h1; subst h2; subst h3
  exact ⟨v, (T.setVm vm₁).calling g' mk (Value.ref b :: As).toArray, t, U', L, hT, X', hL, e1, e2, hq, st⟩
section
variable {y : MethodName} {bytes cc : ByteArray} {maxL nL mc ms n index : Nat} {ret : Option FieldType} {ws : List Cond} {rm : Room} {Pc : Array Value → State → Prop} {Qc : Array Value → State → Outcome → State → Prop} {XC : String → State → State → Prop} {free : Addr → Prop} {Ts : List Cond} {own C : String} {b : Addr} {As rest : List Value} {g : JFrame}
theorem vx_runVX {hh : List (Nat × Nat × Nat × Nat)} (S : CallFix p m c cc nL s args Ts own) (hM : vx_Met l y ws rm Pc Qc XC mc ms free) (cw : vx_CVW R s args own C index y bytes maxL ret hh ws rm mc ms n) (hp : PreV s H C b Pc As)
    (hg : g.method = m) (hn : As.length = n) (hsize : g.locals.size = nL) (hstack : g.stack = As.reverse ++ .ref b :: rest) (hW : 2 * g.monitorRoom + (rest.map fun v => v.category).sum ≤ 8) (hdg : decode cc g.pc = .ok (.invokevirtual index, 3)) (hf : cells + mc ≤ R.cells ∧ slots + ms ≤ R.slots) :
    vx_Run p l e R s m args below meth c H locs cells slots mc ms g rest (Qc (Value.ref b :: As).toArray) XC free := by
  obtain ⟨⟨hrc, hrs, hfr, hlo, hws, hcw⟩, hcode, hini, hy, hlen, hl, hin, hse⟩ := cw
  have hK : vx_Back l R p e below s args y 3 8 (PreOf R mc ms Pc) (PostOf Qc mc ms free) (vx_Post XC mc ms free) := vx_backW (hh := hh) (bytes := bytes) (maxL := maxL) (ret := ret) hM hp.1 hrc hrs hfr hlo hws hcw (fun a' U hW => word_at hW (Or.inl (by first | rfl | simp [Cond.onTables, Cond.keeps, Cond.steady])) hini)
  obtain ⟨hx, hb, hml, ho, -⟩ := S
  obtain ⟨-, ⟨cellB, hcB, hoB, hclB⟩, hPc⟩ := hp
  intro T hT X
  rcases vx_callVX X hx (C := C) (hh := hh) (bytes := bytes) (maxL := maxL) (ret := ret) ho hl hin hse hcode hy hK (by rw [hT]; exact hcB) hoB hclB hg (hsize.trans hml.symm) (argsL := As) (rest := rest) (fun sig h => hn.trans (hlen sig h)) hstack hW (by rw [hb]; exact hdg)
    (fun vm₁ hW₁ => ⟨hf.1, hf.2, hPc (T.setVm vm₁) hT hW₁⟩) with ⟨v, vm₁, ⟨U', l2, c2, s2⟩, hW₁, X', ⟨g', mk, t, L, e1, e2, hq, h1, hL, h2, h3⟩, st⟩ | ⟨q, vm₁, ⟨U', l2, c2, s2⟩, hW₁, X', ⟨g', mk, t, L, E, ce, e1, e2, hq, hce, hcv, hcl, h1, hL, h2, h3⟩, st⟩
  · dsimp only [Pt.U, Pt.locs, Pt.cells, Pt.slots] at X' e1 e2 h1 h2 h3 st
    subst h1; subst h2; subst h3
    exact Or.inl ⟨v, (T.setVm vm₁).calling g' mk (Value.ref b :: As).toArray, t, U', L, hT, X', hL, e1, e2, hq, st⟩
  · dsimp only [Pt.U, Pt.locs, Pt.cells, Pt.slots] at X' e1 e2 h1 h2 h3 st hcl
    subst h1; subst h2; subst h3
    exact Or.inr ⟨q, (T.setVm vm₁).calling g' mk (Value.ref b :: As).toArray, t, U', L, E, ce, hT, X', hL, e1, e2, hq, hce, hcv, vx_cls hW₁ hcl, st⟩
theorem vx_runSX {hh : List (Nat × Nat × Nat × Nat)} (S : CallFix p m c cc nL s args Ts own) (hM : vx_Met l y ws rm Pc Qc XC mc ms free) (cw : vx_CSW R s args own index y bytes maxL ret hh ws rm mc ms n) (hp : PreS s H Pc As)
    (hg : g.method = m) (hn : As.length = n) (hsize : g.locals.size = nL) (hstack : g.stack = As.reverse ++ rest) (hW : 2 * g.monitorRoom + (rest.map fun v => v.category).sum ≤ 8) (hdg : decode cc g.pc = .ok (.invokestatic index, 3)) (hf : cells + mc ≤ R.cells ∧ slots + ms ≤ R.slots) :
    vx_Run p l e R s m args below meth c H locs cells slots mc ms g rest (Qc As.toArray) XC free := by
  obtain ⟨⟨hrc, hrs, hfr, hlo, hws, hcw⟩, hcode, hini, hy, hlen, hl, hstt⟩ := cw
  have hK : vx_Back l R p e below s args y 3 8 (PreOf R mc ms Pc) (PostOf Qc mc ms free) (vx_Post XC mc ms free) := vx_backW (hh := hh) (bytes := bytes) (maxL := maxL) (ret := ret) hM hp.1 hrc hrs hfr hlo hws hcw (fun a' U hW => word_at hW (Or.inl (by first | rfl | simp [Cond.onTables, Cond.keeps, Cond.steady])) hini)
  obtain ⟨hx, hb, hml, ho, -⟩ := S
  intro T hT X
  rcases vx_callSX X hx (hh := hh) (bytes := bytes) (maxL := maxL) (ret := ret) ho hl hstt hini hcode hy hK hg (hsize.trans hml.symm) (argsL := As) (rest := rest) (fun sig h => hn.trans (hlen sig h)) hstack hW (by rw [hb]; exact hdg)
    (fun vm₁ hW₁ => ⟨hf.1, hf.2, hp.2 (T.setVm vm₁) hT hW₁⟩) with ⟨v, vm₁, ⟨U', l2, c2, s2⟩, hW₁, X', ⟨g', mk, t, L, e1, e2, hq, h1, hL, h2, h3⟩, st⟩ | ⟨q, vm₁, ⟨U', l2, c2, s2⟩, hW₁, X', ⟨g', mk, t, L, E, ce, e1, e2, hq, hce, hcv, hcl, h1, hL, h2, h3⟩, st⟩
  · dsimp only [Pt.U, Pt.locs, Pt.cells, Pt.slots] at X' e1 e2 h1 h2 h3 st
    subst h1; subst h2; subst h3
    exact Or.inl ⟨v, (T.setVm vm₁).calling g' mk As.toArray, t, U', L, hT, X', hL, e1, e2, hq, st⟩
  · dsimp only [Pt.U, Pt.locs, Pt.cells, Pt.slots] at X' e1 e2 h1 h2 h3 st hcl
    subst h1; subst h2; subst h3
    exact Or.inr ⟨q, (T.setVm vm₁).calling g' mk As.toArray, t, U', L, E, ce, hT, X', hL, e1, e2, hq, hce, hcv, vx_cls hW₁ hcl, st⟩
end
end VXH
theorem vx_ofWH {l : Launch} {y : MethodName} {ws ws' : List Cond} {rm : Room} {Pc : Array Value → State → Prop} {Qc : Array Value → State → Outcome → State → Prop} {XC : String → State → State → Prop} {mc ms : Nat} {free : Addr → Prop} {cc : ByteArray} {maxL : Nat} {ret : Option FieldType} {hh : List (Nat × Nat × Nat × Nat)}
    (hy : plainName y.cls = true) (hw : ws = Cond.codeWith y cc maxL ret hh :: ws')
    (body : ∀ p e s m args below meth c s₁, BodyLoose p l y (headSpec ws rm) cc maxL ret e s m args below meth c s₁ → c.maxLocals = maxL → Pc args s →
      W p l e (headSpec ws rm).room s m args below meth c s.heap [] 0 0 (vx_MQ below Qc XC args s mc ms free) (entryFrame m args maxL)) : vx_Met l y ws rm Pc Qc XC mc ms free := by
  refine MetFree.of_bodyS (code := cc) (maxLocals := maxL) (ret := ret) hy ?_ ?_
  · intro args s m h hn
    obtain ⟨m9, meth, c, hn9, h1, h2, h3, h4, -, h5, h6, -⟩ := Cond.codeWith_spec (atoms_spec (ws := ws) h _ (by rw [hw]; exact List.mem_cons_self))
    cases hn.symm.trans hn9
    exact ⟨meth, c, h1, h2, h3, h4, h5, h6⟩
  · intro p e s m args below meth c s₁ B hml hP _
    have hh0 : s₁.heap = s.heap := by rw [B.state]; rfl
    obtain ⟨t, a1, o, b1, b2, b3⟩ := body p e s m args below meth c s₁ B hml hP s₁ hh0 (Stand.of_body B)
    exact ⟨t, o, a1, b1, b2, b3⟩
/-! ===== END ===== -/
end
section
/-! ===== BEGIN printed: names, fields, word lists, decode rows ===== -/
def RX0 : String := "ChocolateMoulds$Bowl"
def TX0 : u_T := fun k => match k with
  | 0 => ("ChocolateMoulds$Bowl", "crystals", "LChocolateMoulds$Crystals;", true)
  | 1 => ("ChocolateMoulds$Bowl", "grams", "I", false)
  | _ => ("ChocolateMoulds$Bowl", "warmth", "I", false)
def tyX0 : Nat → FieldType := fun k => match k with
  | 0 => .object "ChocolateMoulds$Crystals"
  | 1 => .int
  | _ => .int
abbrev wsX00 : List Cond := u_ws RX0 TX0 3
theorem nmX0 : ∀ a, a < 3 → ∀ b, b < 3 → a ≠ b → (TX0 a).2.1 ≠ (TX0 b).2.1 := by decide +kernel
theorem tyX0_ok : ∀ k, k < 3 → parseFieldDescriptor (TX0 k).2.2.1 = some (tyX0 k) := by decide +kernel
abbrev cX0_init : ByteArray := prog_2_method_1_code
def yX0_init : MethodName := ⟨RX0, "<init>", "(I)V"⟩
abbrev cX0_takeIn : ByteArray := prog_2_method_2_code
def yX0_takeIn : MethodName := ⟨RX0, "takeIn", "(LChocolateMoulds$Bowl;)V"⟩
abbrev cX0_mixed : ByteArray := prog_2_method_3_code
def yX0_mixed : MethodName := ⟨RX0, "mixed", "(III)I"⟩
def RX1 : String := "ChocolateMoulds$Box"
def TX1 : u_T := fun k => match k with
  | 0 => ("ChocolateMoulds$Box", "squares", "I", true)
  | 1 => ("ChocolateMoulds$Box", "temper", "I", true)
  | 2 => ("ChocolateMoulds$Box", "isFilled", "Z", false)
  | 3 => ("ChocolateMoulds$Box", "slabTemper", "I", false)
  | _ => ("ChocolateMoulds$Box", "slabBloom", "I", false)
def tyX1 : Nat → FieldType := fun k => match k with
  | 0 => .int
  | 1 => .int
  | 2 => .boolean
  | 3 => .int
  | _ => .int
abbrev wsX10 : List Cond := u_ws RX1 TX1 5
theorem nmX1 : ∀ a, a < 5 → ∀ b, b < 5 → a ≠ b → (TX1 a).2.1 ≠ (TX1 b).2.1 := by decide +kernel
theorem tyX1_ok : ∀ k, k < 5 → parseFieldDescriptor (TX1 k).2.2.1 = some (tyX1 k) := by decide +kernel
abbrev cX1_init : ByteArray := prog_3_method_1_code
def yX1_init : MethodName := ⟨RX1, "<init>", "(II)V"⟩
abbrev cX1_suits : ByteArray := prog_3_method_2_code
def yX1_suits : MethodName := ⟨RX1, "suits", "(LChocolateMoulds$Slab;I)Z"⟩
abbrev cX1_take : ByteArray := prog_3_method_3_code
def yX1_take : MethodName := ⟨RX1, "take", "(LChocolateMoulds$Slab;)V"⟩
def RX2 : String := "ChocolateMoulds$Crystals"
def TX2 : u_T := fun k => match k with
  | _ => ("ChocolateMoulds$Crystals", "many", "[I", true)
def tyX2 : Nat → FieldType := fun k => match k with
  | _ => .array .int
abbrev wsX20 : List Cond := u_ws RX2 TX2 1
theorem nmX2 : ∀ a, a < 1 → ∀ b, b < 1 → a ≠ b → (TX2 a).2.1 ≠ (TX2 b).2.1 := by decide +kernel
theorem tyX2_ok : ∀ k, k < 1 → parseFieldDescriptor (TX2 k).2.2.1 = some (tyX2 k) := by decide +kernel
abbrev cX2_init : ByteArray := prog_4_method_1_code
def yX2_init : MethodName := ⟨RX2, "<init>", "()V"⟩
abbrev cX2_vanish : ByteArray := prog_4_method_3_code
def yX2_vanish : MethodName := ⟨RX2, "vanish", "()V"⟩
abbrev cX2_keepAt : ByteArray := prog_4_method_4_code
def yX2_keepAt : MethodName := ⟨RX2, "keepAt", "(II)V"⟩
abbrev cX2_halveWhatMelts : ByteArray := prog_4_method_5_code
def yX2_halveWhatMelts : MethodName := ⟨RX2, "halveWhatMelts", "(I)V"⟩
abbrev cX2_letGrow : ByteArray := prog_4_method_6_code
def yX2_letGrow : MethodName := ⟨RX2, "letGrow", "(I)V"⟩
abbrev cX2_meltingPoint : ByteArray := prog_4_method_7_code
def yX2_meltingPoint : MethodName := ⟨RX2, "meltingPoint", "(I)I"⟩
abbrev cX2_growingSort : ByteArray := prog_4_method_8_code
def yX2_growingSort : MethodName := ⟨RX2, "growingSort", "(I)I"⟩
abbrev cX2_increase : ByteArray := prog_4_method_9_code
def yX2_increase : MethodName := ⟨RX2, "increase", "(II)V"⟩
abbrev cX2_total : ByteArray := prog_4_method_10_code
def yX2_total : MethodName := ⟨RX2, "total", "()I"⟩
abbrev cX2_temper : ByteArray := prog_4_method_11_code
def yX2_temper : MethodName := ⟨RX2, "temper", "()I"⟩
def RX3 : String := "ChocolateMoulds$Slab"
def TX3 : u_T := fun k => match k with
  | 0 => ("ChocolateMoulds$Slab", "temper", "I", true)
  | 1 => ("ChocolateMoulds$Slab", "columns", "I", false)
  | 2 => ("ChocolateMoulds$Slab", "rows", "I", false)
  | 3 => ("ChocolateMoulds$Slab", "bloom", "I", false)
  | _ => ("ChocolateMoulds$Slab", "age", "I", false)
def tyX3 : Nat → FieldType := fun k => match k with
  | 0 => .int
  | 1 => .int
  | 2 => .int
  | 3 => .int
  | _ => .int
abbrev wsX30 : List Cond := u_ws RX3 TX3 5
theorem nmX3 : ∀ a, a < 5 → ∀ b, b < 5 → a ≠ b → (TX3 a).2.1 ≠ (TX3 b).2.1 := by decide +kernel
theorem tyX3_ok : ∀ k, k < 5 → parseFieldDescriptor (TX3 k).2.2.1 = some (tyX3 k) := by decide +kernel
abbrev cX3_init : ByteArray := prog_5_method_1_code
def yX3_init : MethodName := ⟨RX3, "<init>", "(III)V"⟩
abbrev cX3_squares : ByteArray := prog_5_method_2_code
def yX3_squares : MethodName := ⟨RX3, "squares", "()I"⟩
abbrev cX3_grams : ByteArray := prog_5_method_3_code
def yX3_grams : MethodName := ⟨RX3, "grams", "()I"⟩
abbrev cX3_isBloomed : ByteArray := prog_5_method_4_code
def yX3_isBloomed : MethodName := ⟨RX3, "isBloomed", "()Z"⟩
abbrev cX3_bloomBehindPolish : ByteArray := prog_5_method_5_code
def yX3_bloomBehindPolish : MethodName := ⟨RX3, "bloomBehindPolish", "()I"⟩
abbrev cX3_bloomOfADay : ByteArray := prog_5_method_6_code
def yX3_bloomOfADay : MethodName := ⟨RX3, "bloomOfADay", "(I)I"⟩
abbrev cX3_standFor : ByteArray := prog_5_method_7_code
def yX3_standFor : MethodName := ⟨RX3, "standFor", "(II)V"⟩
abbrev cX3_partBehind : ByteArray := prog_5_method_8_code
def yX3_partBehind : MethodName := ⟨RX3, "partBehind", "(IZ)LChocolateMoulds$Slab;"⟩
abbrev cX3_cutDownTo : ByteArray := prog_5_method_9_code
def yX3_cutDownTo : MethodName := ⟨RX3, "cutDownTo", "(IZ)V"⟩
def RX4 : String := "ChocolateMoulds"
def TX4 : u_T := fun k => match k with
  | 0 => ("ChocolateMoulds", "bowls", "[LChocolateMoulds$Bowl;", true)
  | 1 => ("ChocolateMoulds", "slabs", "[LChocolateMoulds$Slab;", true)
  | 2 => ("ChocolateMoulds", "boxes", "[LChocolateMoulds$Box;", true)
  | 3 => ("ChocolateMoulds", "bowlCount", "I", false)
  | 4 => ("ChocolateMoulds", "slabCount", "I", false)
  | 5 => ("ChocolateMoulds", "boxCount", "I", false)
  | 6 => ("ChocolateMoulds", "day", "I", false)
  | 7 => ("ChocolateMoulds", "firstTrial", "LChocolateMoulds$Crystals;", true)
  | 8 => ("ChocolateMoulds", "secondTrial", "LChocolateMoulds$Crystals;", true)
  | 9 => ("ChocolateMoulds", "slabForBox", "[I", true)
  | _ => ("ChocolateMoulds", "isPlanned", "[Z", true)
def tyX4 : Nat → FieldType := fun k => match k with
  | 0 => .array (.object "ChocolateMoulds$Bowl")
  | 1 => .array (.object "ChocolateMoulds$Slab")
  | 2 => .array (.object "ChocolateMoulds$Box")
  | 3 => .int
  | 4 => .int
  | 5 => .int
  | 6 => .int
  | 7 => .object "ChocolateMoulds$Crystals"
  | 8 => .object "ChocolateMoulds$Crystals"
  | 9 => .array .int
  | _ => .array .boolean
abbrev wsX40 : List Cond := u_ws RX4 TX4 11
theorem nmX4 : ∀ a, a < 11 → ∀ b, b < 11 → a ≠ b → (TX4 a).2.1 ≠ (TX4 b).2.1 := by decide +kernel
theorem tyX4_ok : ∀ k, k < 11 → parseFieldDescriptor (TX4 k).2.2.1 = some (tyX4 k) := by decide +kernel
abbrev cX4_init : ByteArray := prog_1_method_1_code
def yX4_init : MethodName := ⟨RX4, "<init>", "()V"⟩
abbrev cX4_bowl : ByteArray := prog_1_method_2_code
def yX4_bowl : MethodName := ⟨RX4, "bowl", "(I)I"⟩
abbrev cX4_warm : ByteArray := prog_1_method_3_code
def yX4_warm : MethodName := ⟨RX4, "warm", "(III)I"⟩
abbrev cX4_seed : ByteArray := prog_1_method_4_code
def yX4_seed : MethodName := ⟨RX4, "seed", "(II)I"⟩
abbrev cX4_pour : ByteArray := prog_1_method_5_code
def yX4_pour : MethodName := ⟨RX4, "pour", "(II)I"⟩
abbrev cX4_cast : ByteArray := prog_1_method_6_code
def yX4_cast : MethodName := ⟨RX4, "cast", "(III)I"⟩
abbrev cX4_polish : ByteArray := prog_1_method_7_code
def yX4_polish : MethodName := ⟨RX4, "polish", "(I)I"⟩
abbrev cX4_split : ByteArray := prog_1_method_8_code
def yX4_split : MethodName := ⟨RX4, "split", "(IIZ)I"⟩
abbrev cX4_melt : ByteArray := prog_1_method_9_code
def yX4_melt : MethodName := ⟨RX4, "melt", "(II)I"⟩
abbrev cX4_box : ByteArray := prog_1_method_10_code
def yX4_box : MethodName := ⟨RX4, "box", "(II)I"⟩
abbrev cX4_fill : ByteArray := prog_1_method_11_code
def yX4_fill : MethodName := ⟨RX4, "fill", "()I"⟩
abbrev cX4_pass : ByteArray := prog_1_method_12_code
def yX4_pass : MethodName := ⟨RX4, "pass", "(II)I"⟩
abbrev cX4_told : ByteArray := prog_1_method_13_code
def yX4_told : MethodName := ⟨RX4, "told", "(II)I"⟩
abbrev cX4_about : ByteArray := prog_1_method_14_code
def yX4_about : MethodName := ⟨RX4, "about", "(II)I"⟩
abbrev cX4_order : ByteArray := prog_1_method_15_code
def yX4_order : MethodName := ⟨RX4, "order", "(II)I"⟩
abbrev cX4_count : ByteArray := prog_1_method_16_code
def yX4_count : MethodName := ⟨RX4, "count", "(I)I"⟩
abbrev cX4_mean : ByteArray := prog_1_method_21_code
def yX4_mean : MethodName := ⟨RX4, "mean", "()D"⟩
abbrev cX4_checkWarming : ByteArray := prog_1_method_23_code
def yX4_checkWarming : MethodName := ⟨RX4, "checkWarming", "(II)V"⟩
abbrev cX4_checkRoom : ByteArray := prog_1_method_24_code
def yX4_checkRoom : MethodName := ⟨RX4, "checkRoom", "(I)V"⟩
abbrev cX4_checkWhat : ByteArray := prog_1_method_25_code
def yX4_checkWhat : MethodName := ⟨RX4, "checkWhat", "(II)V"⟩
abbrev cX4_bowlAt : ByteArray := prog_1_method_26_code
def yX4_bowlAt : MethodName := ⟨RX4, "bowlAt", "(I)LChocolateMoulds$Bowl;"⟩
abbrev cX4_slabAt : ByteArray := prog_1_method_27_code
def yX4_slabAt : MethodName := ⟨RX4, "slabAt", "(I)LChocolateMoulds$Slab;"⟩
abbrev cX4_findSlab : ByteArray := prog_1_method_28_code
def yX4_findSlab : MethodName := ⟨RX4, "findSlab", "(I)LChocolateMoulds$Slab;"⟩
abbrev cX4_boxAt : ByteArray := prog_1_method_29_code
def yX4_boxAt : MethodName := ⟨RX4, "boxAt", "(I)LChocolateMoulds$Box;"⟩
abbrev cX4_addSlab : ByteArray := prog_1_method_30_code
def yX4_addSlab : MethodName := ⟨RX4, "addSlab", "(LChocolateMoulds$Slab;)I"⟩
abbrev cX4_closeGaps : ByteArray := prog_1_method_31_code
def yX4_closeGaps : MethodName := ⟨RX4, "closeGaps", "()V"⟩
abbrev cX4_filledBoxes : ByteArray := prog_1_method_32_code
def yX4_filledBoxes : MethodName := ⟨RX4, "filledBoxes", "()I"⟩
abbrev cX4_gramsOfBowls : ByteArray := prog_1_method_33_code
def yX4_gramsOfBowls : MethodName := ⟨RX4, "gramsOfBowls", "()I"⟩
abbrev cX4_squaresOfSlabs : ByteArray := prog_1_method_34_code
def yX4_squaresOfSlabs : MethodName := ⟨RX4, "squaresOfSlabs", "()I"⟩
abbrev cX4_bloomedSlabs : ByteArray := prog_1_method_35_code
def yX4_bloomedSlabs : MethodName := ⟨RX4, "bloomedSlabs", "()I"⟩
abbrev cX4_firstEmptyBoxFor : ByteArray := prog_1_method_36_code
def yX4_firstEmptyBoxFor : MethodName := ⟨RX4, "firstEmptyBoxFor", "(LChocolateMoulds$Slab;)I"⟩
abbrev cX4_planFilling : ByteArray := prog_1_method_37_code
def yX4_planFilling : MethodName := ⟨RX4, "planFilling", "(I)I"⟩
abbrev cX4_planSlab : ByteArray := prog_1_method_38_code
def yX4_planSlab : MethodName := ⟨RX4, "planSlab", "(LChocolateMoulds$Box;I)I"⟩
abbrev cX4_moveIntoBox : ByteArray := prog_1_method_39_code
def yX4_moveIntoBox : MethodName := ⟨RX4, "moveIntoBox", "(ILChocolateMoulds$Box;)V"⟩
def RX5 : String := "ChocolateMouldsLaw$Bowl"
def TX5 : u_T := fun k => match k with
  | 0 => ("ChocolateMouldsLaw$Bowl", "grams", "I", false)
  | 1 => ("ChocolateMouldsLaw$Bowl", "warmth", "I", false)
  | _ => ("ChocolateMouldsLaw$Bowl", "its", "[I", true)
def tyX5 : Nat → FieldType := fun k => match k with
  | 0 => .int
  | 1 => .int
  | _ => .array .int
abbrev wsX50 : List Cond := u_ws RX5 TX5 3
theorem nmX5 : ∀ a, a < 3 → ∀ b, b < 3 → a ≠ b → (TX5 a).2.1 ≠ (TX5 b).2.1 := by decide +kernel
theorem tyX5_ok : ∀ k, k < 3 → parseFieldDescriptor (TX5 k).2.2.1 = some (tyX5 k) := by decide +kernel
abbrev cX5_init : ByteArray := prog_7_method_1_code
def yX5_init : MethodName := ⟨RX5, "<init>", "()V"⟩
abbrev cX5_all : ByteArray := prog_7_method_3_code
def yX5_all : MethodName := ⟨RX5, "all", "()I"⟩
abbrev cX5_temper : ByteArray := prog_7_method_4_code
def yX5_temper : MethodName := ⟨RX5, "temper", "()I"⟩
abbrev cX5_kept : ByteArray := prog_7_method_5_code
def yX5_kept : MethodName := ⟨RX5, "kept", "(II)LChocolateMouldsLaw$Bowl;"⟩
def RX6 : String := "ChocolateMouldsLaw$Sim"
def TX6 : u_T := fun k => match k with
  | 0 => ("ChocolateMouldsLaw$Sim", "day", "I", false)
  | 1 => ("ChocolateMouldsLaw$Sim", "bowls", "[LChocolateMouldsLaw$Bowl;", false)
  | 2 => ("ChocolateMouldsLaw$Sim", "slabs", "[[I", false)
  | _ => ("ChocolateMouldsLaw$Sim", "boxes", "[[I", false)
def tyX6 : Nat → FieldType := fun k => match k with
  | 0 => .int
  | 1 => .array (.object "ChocolateMouldsLaw$Bowl")
  | 2 => .array (.array .int)
  | _ => .array (.array .int)
abbrev wsX60 : List Cond := u_ws RX6 TX6 4
theorem nmX6 : ∀ a, a < 4 → ∀ b, b < 4 → a ≠ b → (TX6 a).2.1 ≠ (TX6 b).2.1 := by decide +kernel
theorem tyX6_ok : ∀ k, k < 4 → parseFieldDescriptor (TX6 k).2.2.1 = some (tyX6 k) := by decide +kernel
abbrev cX6_init : ByteArray := prog_8_method_1_code
def yX6_init : MethodName := ⟨RX6, "<init>", "()V"⟩
abbrev cX6_with : ByteArray := prog_8_method_2_code
def yX6_with : MethodName := ⟨RX6, "with", "([[I[I)[[I"⟩
abbrev cX6_without : ByteArray := prog_8_method_3_code
def yX6_without : MethodName := ⟨RX6, "without", "([[II)[[I"⟩
abbrev cX6_fits : ByteArray := prog_8_method_4_code
def yX6_fits : MethodName := ⟨RX6, "fits", "([I[I)Z"⟩
abbrev cX6_fill : ByteArray := prog_8_method_5_code
def yX6_fill : MethodName := ⟨RX6, "fill", "()I"⟩
abbrev cX6_pass : ByteArray := prog_8_method_7_code
def yX6_pass : MethodName := ⟨RX6, "pass", "(I)V"⟩
abbrev cX6_bloomed : ByteArray := prog_8_method_8_code
def yX6_bloomed : MethodName := ⟨RX6, "bloomed", "()I"⟩
abbrev cX6_isSame : ByteArray := prog_8_method_9_code
def yX6_isSame : MethodName := ⟨RX6, "isSame", "(LChocolateMoulds;)Z"⟩
def RX7 : String := "ChocolateMouldsModel"
def TX7 : u_T := fun k => match k with
  | _ => ("", "", "", false)
def tyX7 : Nat → FieldType := fun k => match k with
  | _ => .int
abbrev wsX70 : List Cond := u_ws RX7 TX7 0
theorem nmX7 : ∀ a, a < 0 → ∀ b, b < 0 → a ≠ b → (TX7 a).2.1 ≠ (TX7 b).2.1 := by decide +kernel
theorem tyX7_ok : ∀ k, k < 0 → parseFieldDescriptor (TX7 k).2.2.1 = some (tyX7 k) := by decide +kernel
def RJx8e188 : String := "java/lang/Cloneable"
def TJx8e188 : u_T := fun k => match k with
  | _ => ("", "", "", false)
def tyJx8e188 : Nat → FieldType := fun k => match k with
  | _ => .int
abbrev wsJx8e1880 : List Cond := u_ws RJx8e188 TJx8e188 0
theorem nmJx8e188 : ∀ a, a < 0 → ∀ b, b < 0 → a ≠ b → (TJx8e188 a).2.1 ≠ (TJx8e188 b).2.1 := by decide +kernel
theorem tyJx8e188_ok : ∀ k, k < 0 → parseFieldDescriptor (TJx8e188 k).2.2.1 = some (tyJx8e188 k) := by decide +kernel
def RJ9 : String := "java/lang/Math"
def TJ9 : u_T := fun k => match k with
  | _ => ("", "", "", false)
def tyJ9 : Nat → FieldType := fun k => match k with
  | _ => .int
abbrev wsJ90 : List Cond := u_ws RJ9 TJ9 0
theorem nmJ9 : ∀ a, a < 0 → ∀ b, b < 0 → a ≠ b → (TJ9 a).2.1 ≠ (TJ9 b).2.1 := by decide +kernel
theorem tyJ9_ok : ∀ k, k < 0 → parseFieldDescriptor (TJ9 k).2.2.1 = some (tyJ9 k) := by decide +kernel
abbrev cJ9_max_7cf53 : ByteArray := prog_15_method_65_code
def yJ9_max_7cf53 : MethodName := ⟨RJ9, "max", "(II)I"⟩
abbrev cJ9_min_7cf53 : ByteArray := prog_15_method_69_code
def yJ9_min_7cf53 : MethodName := ⟨RJ9, "min", "(II)I"⟩
def RJ0 : String := "java/lang/String"
def TJ0 : u_T := fun k => match k with
  | _ => ("", "", "", false)
def tyJ0 : Nat → FieldType := fun k => match k with
  | _ => .int
abbrev wsJ00 : List Cond := u_ws RJ0 TJ0 0
theorem nmJ0 : ∀ a, a < 0 → ∀ b, b < 0 → a ≠ b → (TJ0 a).2.1 ≠ (TJ0 b).2.1 := by decide +kernel
theorem tyJ0_ok : ∀ k, k < 0 → parseFieldDescriptor (TJ0 k).2.2.1 = some (tyJ0 k) := by decide +kernel
def RL : String := "ChocolateMouldsLaw"
abbrev cL_below : ByteArray := method_2_code
def yL_below : MethodName := ⟨RL, "below", "(II)I"⟩
abbrev cL_cell : ByteArray := method_3_code
def yL_cell : MethodName := ⟨RL, "cell", "([II)I"⟩
abbrev cL_act : ByteArray := method_4_code
def yL_act : MethodName := ⟨RL, "act", "(LChocolateMoulds;LChocolateMouldsLaw$Sim;I)Z"⟩
abbrev cL_build : ByteArray := method_5_code
def yL_build : MethodName := ⟨RL, "build", "(LChocolateMoulds;[I)LChocolateMouldsLaw$Sim;"⟩
abbrev cL_law : ByteArray := code
def yL_law : MethodName := ⟨RL, "law", "([I)Z"⟩
abbrev vwCl : List vw_C := [(RX0, TX0, 3), (RX1, TX1, 5), (RX2, TX2, 1), (RX3, TX3, 5), (RX4, TX4, 11), (RX5, TX5, 3), (RX6, TX6, 4)]
end
section
theorem dX0_init_0 : decode cX0_init 0 = .ok (.aload_n 0, 1) := by decide +kernel
theorem dX0_init_1 : decode cX0_init 1 = .ok (.invokespecial 1, 3) := by decide +kernel
theorem dX0_init_4 : decode cX0_init 4 = .ok (.aload_n 0, 1) := by decide +kernel
theorem dX0_init_5 : decode cX0_init 5 = .ok (.new 7, 3) := by decide +kernel
theorem dX0_init_8 : decode cX0_init 8 = .ok (.dup, 1) := by decide +kernel
theorem dX0_init_9 : decode cX0_init 9 = .ok (.invokespecial 9, 3) := by decide +kernel
theorem dX0_init_12 : decode cX0_init 12 = .ok (.putfield 10, 3) := by decide +kernel
theorem dX0_init_15 : decode cX0_init 15 = .ok (.aload_n 0, 1) := by decide +kernel
theorem dX0_init_16 : decode cX0_init 16 = .ok (.iload_n 1, 1) := by decide +kernel
theorem dX0_init_17 : decode cX0_init 17 = .ok (.putfield 16, 3) := by decide +kernel
theorem dX0_init_20 : decode cX0_init 20 = .ok (.aload_n 0, 1) := by decide +kernel
theorem dX0_init_21 : decode cX0_init 21 = .ok (.bipush 20, 2) := by decide +kernel
theorem dX0_init_23 : decode cX0_init 23 = .ok (.putfield 20, 3) := by decide +kernel
theorem dX0_init_26 : decode cX0_init 26 = .ok (.return_, 1) := by decide +kernel
theorem dX0_takeIn_0 : decode cX0_takeIn 0 = .ok (.iconst 1, 1) := by decide +kernel
theorem dX0_takeIn_1 : decode cX0_takeIn 1 = .ok (.istore_n 2, 1) := by decide +kernel
theorem dX0_takeIn_2 : decode cX0_takeIn 2 = .ok (.iload_n 2, 1) := by decide +kernel
theorem dX0_takeIn_3 : decode cX0_takeIn 3 = .ok (.iconst 5, 1) := by decide +kernel
theorem dX0_takeIn_4 : decode cX0_takeIn 4 = .ok (.if_icmp .gt 44, 3) := by decide +kernel
theorem dX0_takeIn_7 : decode cX0_takeIn 7 = .ok (.aload_n 0, 1) := by decide +kernel
theorem dX0_takeIn_8 : decode cX0_takeIn 8 = .ok (.getfield 10, 3) := by decide +kernel
theorem dX0_takeIn_11 : decode cX0_takeIn 11 = .ok (.getfield 23, 3) := by decide +kernel
theorem dX0_takeIn_14 : decode cX0_takeIn 14 = .ok (.iload_n 2, 1) := by decide +kernel
theorem dX0_takeIn_15 : decode cX0_takeIn 15 = .ok (.aload_n 0, 1) := by decide +kernel
theorem dX0_takeIn_16 : decode cX0_takeIn 16 = .ok (.aload_n 0, 1) := by decide +kernel
theorem dX0_takeIn_17 : decode cX0_takeIn 17 = .ok (.getfield 10, 3) := by decide +kernel
theorem dX0_takeIn_20 : decode cX0_takeIn 20 = .ok (.getfield 23, 3) := by decide +kernel
theorem dX0_takeIn_23 : decode cX0_takeIn 23 = .ok (.iload_n 2, 1) := by decide +kernel
theorem dX0_takeIn_24 : decode cX0_takeIn 24 = .ok (.iaload, 1) := by decide +kernel
theorem dX0_takeIn_25 : decode cX0_takeIn 25 = .ok (.aload_n 1, 1) := by decide +kernel
theorem dX0_takeIn_26 : decode cX0_takeIn 26 = .ok (.getfield 10, 3) := by decide +kernel
theorem dX0_takeIn_29 : decode cX0_takeIn 29 = .ok (.getfield 23, 3) := by decide +kernel
theorem dX0_takeIn_32 : decode cX0_takeIn 32 = .ok (.iload_n 2, 1) := by decide +kernel
theorem dX0_takeIn_33 : decode cX0_takeIn 33 = .ok (.iaload, 1) := by decide +kernel
theorem dX0_takeIn_34 : decode cX0_takeIn 34 = .ok (.aload_n 1, 1) := by decide +kernel
theorem dX0_takeIn_35 : decode cX0_takeIn 35 = .ok (.getfield 16, 3) := by decide +kernel
theorem dX0_takeIn_38 : decode cX0_takeIn 38 = .ok (.invokevirtual 27, 3) := by decide +kernel
theorem dX0_takeIn_41 : decode cX0_takeIn 41 = .ok (.iastore, 1) := by decide +kernel
theorem dX0_takeIn_42 : decode cX0_takeIn 42 = .ok (.iinc 2 1, 3) := by decide +kernel
theorem dX0_takeIn_45 : decode cX0_takeIn 45 = .ok (.goto (-43), 3) := by decide +kernel
theorem dX0_takeIn_48 : decode cX0_takeIn 48 = .ok (.aload_n 0, 1) := by decide +kernel
theorem dX0_takeIn_49 : decode cX0_takeIn 49 = .ok (.aload_n 0, 1) := by decide +kernel
theorem dX0_takeIn_50 : decode cX0_takeIn 50 = .ok (.aload_n 0, 1) := by decide +kernel
theorem dX0_takeIn_51 : decode cX0_takeIn 51 = .ok (.getfield 20, 3) := by decide +kernel
theorem dX0_takeIn_54 : decode cX0_takeIn 54 = .ok (.aload_n 1, 1) := by decide +kernel
theorem dX0_takeIn_55 : decode cX0_takeIn 55 = .ok (.getfield 20, 3) := by decide +kernel
theorem dX0_takeIn_58 : decode cX0_takeIn 58 = .ok (.aload_n 1, 1) := by decide +kernel
theorem dX0_takeIn_59 : decode cX0_takeIn 59 = .ok (.getfield 16, 3) := by decide +kernel
theorem dX0_takeIn_62 : decode cX0_takeIn 62 = .ok (.invokevirtual 27, 3) := by decide +kernel
theorem dX0_takeIn_65 : decode cX0_takeIn 65 = .ok (.putfield 20, 3) := by decide +kernel
theorem dX0_takeIn_68 : decode cX0_takeIn 68 = .ok (.aload_n 0, 1) := by decide +kernel
theorem dX0_takeIn_69 : decode cX0_takeIn 69 = .ok (.dup, 1) := by decide +kernel
theorem dX0_takeIn_70 : decode cX0_takeIn 70 = .ok (.getfield 16, 3) := by decide +kernel
theorem dX0_takeIn_73 : decode cX0_takeIn 73 = .ok (.aload_n 1, 1) := by decide +kernel
theorem dX0_takeIn_74 : decode cX0_takeIn 74 = .ok (.getfield 16, 3) := by decide +kernel
theorem dX0_takeIn_77 : decode cX0_takeIn 77 = .ok (.iadd, 1) := by decide +kernel
theorem dX0_takeIn_78 : decode cX0_takeIn 78 = .ok (.putfield 16, 3) := by decide +kernel
theorem dX0_takeIn_81 : decode cX0_takeIn 81 = .ok (.aload_n 1, 1) := by decide +kernel
theorem dX0_takeIn_82 : decode cX0_takeIn 82 = .ok (.iconst 0, 1) := by decide +kernel
theorem dX0_takeIn_83 : decode cX0_takeIn 83 = .ok (.putfield 16, 3) := by decide +kernel
theorem dX0_takeIn_86 : decode cX0_takeIn 86 = .ok (.aload_n 1, 1) := by decide +kernel
theorem dX0_takeIn_87 : decode cX0_takeIn 87 = .ok (.getfield 10, 3) := by decide +kernel
theorem dX0_takeIn_90 : decode cX0_takeIn 90 = .ok (.invokevirtual 31, 3) := by decide +kernel
theorem dX0_takeIn_93 : decode cX0_takeIn 93 = .ok (.return_, 1) := by decide +kernel
theorem dX0_mixed_0 : decode cX0_mixed 0 = .ok (.aload_n 0, 1) := by decide +kernel
theorem dX0_mixed_1 : decode cX0_mixed 1 = .ok (.getfield 16, 3) := by decide +kernel
theorem dX0_mixed_4 : decode cX0_mixed 4 = .ok (.iload_n 3, 1) := by decide +kernel
theorem dX0_mixed_5 : decode cX0_mixed 5 = .ok (.iadd, 1) := by decide +kernel
theorem dX0_mixed_6 : decode cX0_mixed 6 = .ok (.istore 4, 2) := by decide +kernel
theorem dX0_mixed_8 : decode cX0_mixed 8 = .ok (.iload 4, 2) := by decide +kernel
theorem dX0_mixed_10 : decode cX0_mixed 10 = .ok (.ifCond .gt 7, 3) := by decide +kernel
theorem dX0_mixed_13 : decode cX0_mixed 13 = .ok (.iload_n 1, 1) := by decide +kernel
theorem dX0_mixed_14 : decode cX0_mixed 14 = .ok (.goto 16, 3) := by decide +kernel
theorem dX0_mixed_17 : decode cX0_mixed 17 = .ok (.iload_n 1, 1) := by decide +kernel
theorem dX0_mixed_18 : decode cX0_mixed 18 = .ok (.aload_n 0, 1) := by decide +kernel
theorem dX0_mixed_19 : decode cX0_mixed 19 = .ok (.getfield 16, 3) := by decide +kernel
theorem dX0_mixed_22 : decode cX0_mixed 22 = .ok (.imul, 1) := by decide +kernel
theorem dX0_mixed_23 : decode cX0_mixed 23 = .ok (.iload_n 2, 1) := by decide +kernel
theorem dX0_mixed_24 : decode cX0_mixed 24 = .ok (.iload_n 3, 1) := by decide +kernel
theorem dX0_mixed_25 : decode cX0_mixed 25 = .ok (.imul, 1) := by decide +kernel
theorem dX0_mixed_26 : decode cX0_mixed 26 = .ok (.iadd, 1) := by decide +kernel
theorem dX0_mixed_27 : decode cX0_mixed 27 = .ok (.iload 4, 2) := by decide +kernel
theorem dX0_mixed_29 : decode cX0_mixed 29 = .ok (.idiv, 1) := by decide +kernel
theorem dX0_mixed_30 : decode cX0_mixed 30 = .ok (.ireturn, 1) := by decide +kernel
theorem dX1_init_0 : decode cX1_init 0 = .ok (.aload_n 0, 1) := by decide +kernel
theorem dX1_init_1 : decode cX1_init 1 = .ok (.invokespecial 3, 3) := by decide +kernel
theorem dX1_init_4 : decode cX1_init 4 = .ok (.aload_n 0, 1) := by decide +kernel
theorem dX1_init_5 : decode cX1_init 5 = .ok (.iload_n 1, 1) := by decide +kernel
theorem dX1_init_6 : decode cX1_init 6 = .ok (.putfield 9, 3) := by decide +kernel
theorem dX1_init_9 : decode cX1_init 9 = .ok (.aload_n 0, 1) := by decide +kernel
theorem dX1_init_10 : decode cX1_init 10 = .ok (.iload_n 2, 1) := by decide +kernel
theorem dX1_init_11 : decode cX1_init 11 = .ok (.putfield 15, 3) := by decide +kernel
theorem dX1_init_14 : decode cX1_init 14 = .ok (.aload_n 0, 1) := by decide +kernel
theorem dX1_init_15 : decode cX1_init 15 = .ok (.iconst (-1), 1) := by decide +kernel
theorem dX1_init_16 : decode cX1_init 16 = .ok (.putfield 18, 3) := by decide +kernel
theorem dX1_init_19 : decode cX1_init 19 = .ok (.aload_n 0, 1) := by decide +kernel
theorem dX1_init_20 : decode cX1_init 20 = .ok (.iconst (-1), 1) := by decide +kernel
theorem dX1_init_21 : decode cX1_init 21 = .ok (.putfield 21, 3) := by decide +kernel
theorem dX1_init_24 : decode cX1_init 24 = .ok (.return_, 1) := by decide +kernel
theorem dX1_suits_0 : decode cX1_suits 0 = .ok (.aload_n 1, 1) := by decide +kernel
theorem dX1_suits_1 : decode cX1_suits 1 = .ok (.invokevirtual 24, 3) := by decide +kernel
theorem dX1_suits_4 : decode cX1_suits 4 = .ok (.aload_n 0, 1) := by decide +kernel
theorem dX1_suits_5 : decode cX1_suits 5 = .ok (.getfield 9, 3) := by decide +kernel
theorem dX1_suits_8 : decode cX1_suits 8 = .ok (.if_icmp .ne 24, 3) := by decide +kernel
theorem dX1_suits_11 : decode cX1_suits 11 = .ok (.aload_n 1, 1) := by decide +kernel
theorem dX1_suits_12 : decode cX1_suits 12 = .ok (.getfield 29, 3) := by decide +kernel
theorem dX1_suits_15 : decode cX1_suits 15 = .ok (.aload_n 0, 1) := by decide +kernel
theorem dX1_suits_16 : decode cX1_suits 16 = .ok (.getfield 15, 3) := by decide +kernel
theorem dX1_suits_19 : decode cX1_suits 19 = .ok (.if_icmp .lt 13, 3) := by decide +kernel
theorem dX1_suits_22 : decode cX1_suits 22 = .ok (.iload_n 2, 1) := by decide +kernel
theorem dX1_suits_23 : decode cX1_suits 23 = .ok (.bipush 20, 2) := by decide +kernel
theorem dX1_suits_25 : decode cX1_suits 25 = .ok (.if_icmp .gt 7, 3) := by decide +kernel
theorem dX1_suits_28 : decode cX1_suits 28 = .ok (.iconst 1, 1) := by decide +kernel
theorem dX1_suits_29 : decode cX1_suits 29 = .ok (.goto 4, 3) := by decide +kernel
theorem dX1_suits_32 : decode cX1_suits 32 = .ok (.iconst 0, 1) := by decide +kernel
theorem dX1_suits_33 : decode cX1_suits 33 = .ok (.ireturn, 1) := by decide +kernel
theorem dX1_take_0 : decode cX1_take 0 = .ok (.aload_n 0, 1) := by decide +kernel
theorem dX1_take_1 : decode cX1_take 1 = .ok (.iconst 1, 1) := by decide +kernel
theorem dX1_take_2 : decode cX1_take 2 = .ok (.putfield 30, 3) := by decide +kernel
theorem dX1_take_5 : decode cX1_take 5 = .ok (.aload_n 0, 1) := by decide +kernel
theorem dX1_take_6 : decode cX1_take 6 = .ok (.aload_n 1, 1) := by decide +kernel
theorem dX1_take_7 : decode cX1_take 7 = .ok (.getfield 29, 3) := by decide +kernel
theorem dX1_take_10 : decode cX1_take 10 = .ok (.putfield 18, 3) := by decide +kernel
theorem dX1_take_13 : decode cX1_take 13 = .ok (.aload_n 0, 1) := by decide +kernel
theorem dX1_take_14 : decode cX1_take 14 = .ok (.aload_n 1, 1) := by decide +kernel
theorem dX1_take_15 : decode cX1_take 15 = .ok (.getfield 34, 3) := by decide +kernel
theorem dX1_take_18 : decode cX1_take 18 = .ok (.putfield 21, 3) := by decide +kernel
theorem dX1_take_21 : decode cX1_take 21 = .ok (.return_, 1) := by decide +kernel
theorem dX2_init_0 : decode cX2_init 0 = .ok (.aload_n 0, 1) := by decide +kernel
theorem dX2_init_1 : decode cX2_init 1 = .ok (.invokespecial 3, 3) := by decide +kernel
theorem dX2_init_4 : decode cX2_init 4 = .ok (.aload_n 0, 1) := by decide +kernel
theorem dX2_init_5 : decode cX2_init 5 = .ok (.bipush 6, 2) := by decide +kernel
theorem dX2_init_7 : decode cX2_init 7 = .ok (.newarray .int, 2) := by decide +kernel
theorem dX2_init_9 : decode cX2_init 9 = .ok (.putfield 11, 3) := by decide +kernel
theorem dX2_init_12 : decode cX2_init 12 = .ok (.return_, 1) := by decide +kernel
theorem dX2_vanish_0 : decode cX2_vanish 0 = .ok (.iconst 1, 1) := by decide +kernel
theorem dX2_vanish_1 : decode cX2_vanish 1 = .ok (.istore_n 1, 1) := by decide +kernel
theorem dX2_vanish_2 : decode cX2_vanish 2 = .ok (.iload_n 1, 1) := by decide +kernel
theorem dX2_vanish_3 : decode cX2_vanish 3 = .ok (.iconst 5, 1) := by decide +kernel
theorem dX2_vanish_4 : decode cX2_vanish 4 = .ok (.if_icmp .gt 16, 3) := by decide +kernel
theorem dX2_vanish_7 : decode cX2_vanish 7 = .ok (.aload_n 0, 1) := by decide +kernel
theorem dX2_vanish_8 : decode cX2_vanish 8 = .ok (.getfield 11, 3) := by decide +kernel
theorem dX2_vanish_11 : decode cX2_vanish 11 = .ok (.iload_n 1, 1) := by decide +kernel
theorem dX2_vanish_12 : decode cX2_vanish 12 = .ok (.iconst 0, 1) := by decide +kernel
theorem dX2_vanish_13 : decode cX2_vanish 13 = .ok (.iastore, 1) := by decide +kernel
theorem dX2_vanish_14 : decode cX2_vanish 14 = .ok (.iinc 1 1, 3) := by decide +kernel
theorem dX2_vanish_17 : decode cX2_vanish 17 = .ok (.goto (-15), 3) := by decide +kernel
theorem dX2_vanish_20 : decode cX2_vanish 20 = .ok (.return_, 1) := by decide +kernel
theorem dX2_keepAt_0 : decode cX2_keepAt 0 = .ok (.iconst 0, 1) := by decide +kernel
theorem dX2_keepAt_1 : decode cX2_keepAt 1 = .ok (.istore_n 3, 1) := by decide +kernel
theorem dX2_keepAt_2 : decode cX2_keepAt 2 = .ok (.iload_n 3, 1) := by decide +kernel
theorem dX2_keepAt_3 : decode cX2_keepAt 3 = .ok (.iload_n 2, 1) := by decide +kernel
theorem dX2_keepAt_4 : decode cX2_keepAt 4 = .ok (.if_icmp .ge 19, 3) := by decide +kernel
theorem dX2_keepAt_7 : decode cX2_keepAt 7 = .ok (.aload_n 0, 1) := by decide +kernel
theorem dX2_keepAt_8 : decode cX2_keepAt 8 = .ok (.iload_n 1, 1) := by decide +kernel
theorem dX2_keepAt_9 : decode cX2_keepAt 9 = .ok (.invokevirtual 15, 3) := by decide +kernel
theorem dX2_keepAt_12 : decode cX2_keepAt 12 = .ok (.aload_n 0, 1) := by decide +kernel
theorem dX2_keepAt_13 : decode cX2_keepAt 13 = .ok (.iload_n 1, 1) := by decide +kernel
theorem dX2_keepAt_14 : decode cX2_keepAt 14 = .ok (.invokevirtual 19, 3) := by decide +kernel
theorem dX2_keepAt_17 : decode cX2_keepAt 17 = .ok (.iinc 3 1, 3) := by decide +kernel
theorem dX2_keepAt_20 : decode cX2_keepAt 20 = .ok (.goto (-18), 3) := by decide +kernel
theorem dX2_keepAt_23 : decode cX2_keepAt 23 = .ok (.return_, 1) := by decide +kernel
theorem dX2_halveWhatMelts_0 : decode cX2_halveWhatMelts 0 = .ok (.iconst 1, 1) := by decide +kernel
theorem dX2_halveWhatMelts_1 : decode cX2_halveWhatMelts 1 = .ok (.istore_n 2, 1) := by decide +kernel
theorem dX2_halveWhatMelts_2 : decode cX2_halveWhatMelts 2 = .ok (.iload_n 2, 1) := by decide +kernel
theorem dX2_halveWhatMelts_3 : decode cX2_halveWhatMelts 3 = .ok (.iconst 5, 1) := by decide +kernel
theorem dX2_halveWhatMelts_4 : decode cX2_halveWhatMelts 4 = .ok (.if_icmp .gt 27, 3) := by decide +kernel
theorem dX2_halveWhatMelts_7 : decode cX2_halveWhatMelts 7 = .ok (.iload_n 1, 1) := by decide +kernel
theorem dX2_halveWhatMelts_8 : decode cX2_halveWhatMelts 8 = .ok (.iload_n 2, 1) := by decide +kernel
theorem dX2_halveWhatMelts_9 : decode cX2_halveWhatMelts 9 = .ok (.invokestatic 22, 3) := by decide +kernel
theorem dX2_halveWhatMelts_12 : decode cX2_halveWhatMelts 12 = .ok (.if_icmp .lt 13, 3) := by decide +kernel
theorem dX2_halveWhatMelts_15 : decode cX2_halveWhatMelts 15 = .ok (.aload_n 0, 1) := by decide +kernel
theorem dX2_halveWhatMelts_16 : decode cX2_halveWhatMelts 16 = .ok (.getfield 11, 3) := by decide +kernel
theorem dX2_halveWhatMelts_19 : decode cX2_halveWhatMelts 19 = .ok (.iload_n 2, 1) := by decide +kernel
theorem dX2_halveWhatMelts_20 : decode cX2_halveWhatMelts 20 = .ok (.dup2, 1) := by decide +kernel
theorem dX2_halveWhatMelts_21 : decode cX2_halveWhatMelts 21 = .ok (.iaload, 1) := by decide +kernel
theorem dX2_halveWhatMelts_22 : decode cX2_halveWhatMelts 22 = .ok (.iconst 2, 1) := by decide +kernel
theorem dX2_halveWhatMelts_23 : decode cX2_halveWhatMelts 23 = .ok (.idiv, 1) := by decide +kernel
theorem dX2_halveWhatMelts_24 : decode cX2_halveWhatMelts 24 = .ok (.iastore, 1) := by decide +kernel
theorem dX2_halveWhatMelts_25 : decode cX2_halveWhatMelts 25 = .ok (.iinc 2 1, 3) := by decide +kernel
theorem dX2_halveWhatMelts_28 : decode cX2_halveWhatMelts 28 = .ok (.goto (-26), 3) := by decide +kernel
theorem dX2_halveWhatMelts_31 : decode cX2_halveWhatMelts 31 = .ok (.return_, 1) := by decide +kernel
theorem dX2_letGrow_0 : decode cX2_letGrow 0 = .ok (.iload_n 1, 1) := by decide +kernel
theorem dX2_letGrow_1 : decode cX2_letGrow 1 = .ok (.bipush 34, 2) := by decide +kernel
theorem dX2_letGrow_3 : decode cX2_letGrow 3 = .ok (.if_icmp .ge 24, 3) := by decide +kernel
theorem dX2_letGrow_6 : decode cX2_letGrow 6 = .ok (.iload_n 1, 1) := by decide +kernel
theorem dX2_letGrow_7 : decode cX2_letGrow 7 = .ok (.invokestatic 26, 3) := by decide +kernel
theorem dX2_letGrow_10 : decode cX2_letGrow 10 = .ok (.istore_n 2, 1) := by decide +kernel
theorem dX2_letGrow_11 : decode cX2_letGrow 11 = .ok (.aload_n 0, 1) := by decide +kernel
theorem dX2_letGrow_12 : decode cX2_letGrow 12 = .ok (.iload_n 2, 1) := by decide +kernel
theorem dX2_letGrow_13 : decode cX2_letGrow 13 = .ok (.bipush 8, 2) := by decide +kernel
theorem dX2_letGrow_15 : decode cX2_letGrow 15 = .ok (.aload_n 0, 1) := by decide +kernel
theorem dX2_letGrow_16 : decode cX2_letGrow 16 = .ok (.getfield 11, 3) := by decide +kernel
theorem dX2_letGrow_19 : decode cX2_letGrow 19 = .ok (.iload_n 2, 1) := by decide +kernel
theorem dX2_letGrow_20 : decode cX2_letGrow 20 = .ok (.iaload, 1) := by decide +kernel
theorem dX2_letGrow_21 : decode cX2_letGrow 21 = .ok (.iconst 4, 1) := by decide +kernel
theorem dX2_letGrow_22 : decode cX2_letGrow 22 = .ok (.idiv, 1) := by decide +kernel
theorem dX2_letGrow_23 : decode cX2_letGrow 23 = .ok (.iadd, 1) := by decide +kernel
theorem dX2_letGrow_24 : decode cX2_letGrow 24 = .ok (.invokevirtual 29, 3) := by decide +kernel
theorem dX2_letGrow_27 : decode cX2_letGrow 27 = .ok (.return_, 1) := by decide +kernel
theorem dX2_meltingPoint_0 : decode cX2_meltingPoint 0 = .ok (.bipush 15, 2) := by decide +kernel
theorem dX2_meltingPoint_2 : decode cX2_meltingPoint 2 = .ok (.iconst 4, 1) := by decide +kernel
theorem dX2_meltingPoint_3 : decode cX2_meltingPoint 3 = .ok (.iload_n 0, 1) := by decide +kernel
theorem dX2_meltingPoint_4 : decode cX2_meltingPoint 4 = .ok (.imul, 1) := by decide +kernel
theorem dX2_meltingPoint_5 : decode cX2_meltingPoint 5 = .ok (.iadd, 1) := by decide +kernel
theorem dX2_meltingPoint_6 : decode cX2_meltingPoint 6 = .ok (.ireturn, 1) := by decide +kernel
theorem dX2_growingSort_0 : decode cX2_growingSort 0 = .ok (.iconst 1, 1) := by decide +kernel
theorem dX2_growingSort_1 : decode cX2_growingSort 1 = .ok (.istore_n 1, 1) := by decide +kernel
theorem dX2_growingSort_2 : decode cX2_growingSort 2 = .ok (.iload_n 1, 1) := by decide +kernel
theorem dX2_growingSort_3 : decode cX2_growingSort 3 = .ok (.iconst 5, 1) := by decide +kernel
theorem dX2_growingSort_4 : decode cX2_growingSort 4 = .ok (.if_icmp .gt 21, 3) := by decide +kernel
theorem dX2_growingSort_7 : decode cX2_growingSort 7 = .ok (.iload_n 1, 1) := by decide +kernel
theorem dX2_growingSort_8 : decode cX2_growingSort 8 = .ok (.invokestatic 22, 3) := by decide +kernel
theorem dX2_growingSort_11 : decode cX2_growingSort 11 = .ok (.iload_n 0, 1) := by decide +kernel
theorem dX2_growingSort_12 : decode cX2_growingSort 12 = .ok (.iconst 3, 1) := by decide +kernel
theorem dX2_growingSort_13 : decode cX2_growingSort 13 = .ok (.iadd, 1) := by decide +kernel
theorem dX2_growingSort_14 : decode cX2_growingSort 14 = .ok (.if_icmp .le 5, 3) := by decide +kernel
theorem dX2_growingSort_17 : decode cX2_growingSort 17 = .ok (.iload_n 1, 1) := by decide +kernel
theorem dX2_growingSort_18 : decode cX2_growingSort 18 = .ok (.ireturn, 1) := by decide +kernel
theorem dX2_growingSort_19 : decode cX2_growingSort 19 = .ok (.iinc 1 1, 3) := by decide +kernel
theorem dX2_growingSort_22 : decode cX2_growingSort 22 = .ok (.goto (-20), 3) := by decide +kernel
theorem dX2_growingSort_25 : decode cX2_growingSort 25 = .ok (.iconst 5, 1) := by decide +kernel
theorem dX2_growingSort_26 : decode cX2_growingSort 26 = .ok (.ireturn, 1) := by decide +kernel
theorem dX2_increase_0 : decode cX2_increase 0 = .ok (.aload_n 0, 1) := by decide +kernel
theorem dX2_increase_1 : decode cX2_increase 1 = .ok (.getfield 11, 3) := by decide +kernel
theorem dX2_increase_4 : decode cX2_increase 4 = .ok (.iload_n 1, 1) := by decide +kernel
theorem dX2_increase_5 : decode cX2_increase 5 = .ok (.dup2, 1) := by decide +kernel
theorem dX2_increase_6 : decode cX2_increase 6 = .ok (.iaload, 1) := by decide +kernel
theorem dX2_increase_7 : decode cX2_increase 7 = .ok (.iconst 0, 1) := by decide +kernel
theorem dX2_increase_8 : decode cX2_increase 8 = .ok (.iload_n 2, 1) := by decide +kernel
theorem dX2_increase_9 : decode cX2_increase 9 = .ok (.bipush 100, 2) := by decide +kernel
theorem dX2_increase_11 : decode cX2_increase 11 = .ok (.aload_n 0, 1) := by decide +kernel
theorem dX2_increase_12 : decode cX2_increase 12 = .ok (.invokevirtual 33, 3) := by decide +kernel
theorem dX2_increase_15 : decode cX2_increase 15 = .ok (.isub, 1) := by decide +kernel
theorem dX2_increase_16 : decode cX2_increase 16 = .ok (.invokestatic 37, 3) := by decide +kernel
theorem dX2_increase_19 : decode cX2_increase 19 = .ok (.invokestatic 43, 3) := by decide +kernel
theorem dX2_increase_22 : decode cX2_increase 22 = .ok (.iadd, 1) := by decide +kernel
theorem dX2_increase_23 : decode cX2_increase 23 = .ok (.iastore, 1) := by decide +kernel
theorem dX2_increase_24 : decode cX2_increase 24 = .ok (.return_, 1) := by decide +kernel
theorem dX2_total_0 : decode cX2_total 0 = .ok (.iconst 0, 1) := by decide +kernel
theorem dX2_total_1 : decode cX2_total 1 = .ok (.istore_n 1, 1) := by decide +kernel
theorem dX2_total_2 : decode cX2_total 2 = .ok (.iconst 1, 1) := by decide +kernel
theorem dX2_total_3 : decode cX2_total 3 = .ok (.istore_n 2, 1) := by decide +kernel
theorem dX2_total_4 : decode cX2_total 4 = .ok (.iload_n 2, 1) := by decide +kernel
theorem dX2_total_5 : decode cX2_total 5 = .ok (.iconst 5, 1) := by decide +kernel
theorem dX2_total_6 : decode cX2_total 6 = .ok (.if_icmp .gt 18, 3) := by decide +kernel
theorem dX2_total_9 : decode cX2_total 9 = .ok (.iload_n 1, 1) := by decide +kernel
theorem dX2_total_10 : decode cX2_total 10 = .ok (.aload_n 0, 1) := by decide +kernel
theorem dX2_total_11 : decode cX2_total 11 = .ok (.getfield 11, 3) := by decide +kernel
theorem dX2_total_14 : decode cX2_total 14 = .ok (.iload_n 2, 1) := by decide +kernel
theorem dX2_total_15 : decode cX2_total 15 = .ok (.iaload, 1) := by decide +kernel
theorem dX2_total_16 : decode cX2_total 16 = .ok (.iadd, 1) := by decide +kernel
theorem dX2_total_17 : decode cX2_total 17 = .ok (.istore_n 1, 1) := by decide +kernel
theorem dX2_total_18 : decode cX2_total 18 = .ok (.iinc 2 1, 3) := by decide +kernel
theorem dX2_total_21 : decode cX2_total 21 = .ok (.goto (-17), 3) := by decide +kernel
theorem dX2_total_24 : decode cX2_total 24 = .ok (.iload_n 1, 1) := by decide +kernel
theorem dX2_total_25 : decode cX2_total 25 = .ok (.ireturn, 1) := by decide +kernel
theorem dX2_temper_0 : decode cX2_temper 0 = .ok (.iconst 2, 1) := by decide +kernel
theorem dX2_temper_1 : decode cX2_temper 1 = .ok (.aload_n 0, 1) := by decide +kernel
theorem dX2_temper_2 : decode cX2_temper 2 = .ok (.getfield 11, 3) := by decide +kernel
theorem dX2_temper_5 : decode cX2_temper 5 = .ok (.iconst 5, 1) := by decide +kernel
theorem dX2_temper_6 : decode cX2_temper 6 = .ok (.iaload, 1) := by decide +kernel
theorem dX2_temper_7 : decode cX2_temper 7 = .ok (.imul, 1) := by decide +kernel
theorem dX2_temper_8 : decode cX2_temper 8 = .ok (.aload_n 0, 1) := by decide +kernel
theorem dX2_temper_9 : decode cX2_temper 9 = .ok (.getfield 11, 3) := by decide +kernel
theorem dX2_temper_12 : decode cX2_temper 12 = .ok (.iconst 4, 1) := by decide +kernel
theorem dX2_temper_13 : decode cX2_temper 13 = .ok (.iaload, 1) := by decide +kernel
theorem dX2_temper_14 : decode cX2_temper 14 = .ok (.iadd, 1) := by decide +kernel
theorem dX2_temper_15 : decode cX2_temper 15 = .ok (.aload_n 0, 1) := by decide +kernel
theorem dX2_temper_16 : decode cX2_temper 16 = .ok (.getfield 11, 3) := by decide +kernel
theorem dX2_temper_19 : decode cX2_temper 19 = .ok (.iconst 1, 1) := by decide +kernel
theorem dX2_temper_20 : decode cX2_temper 20 = .ok (.iaload, 1) := by decide +kernel
theorem dX2_temper_21 : decode cX2_temper 21 = .ok (.isub, 1) := by decide +kernel
theorem dX2_temper_22 : decode cX2_temper 22 = .ok (.aload_n 0, 1) := by decide +kernel
theorem dX2_temper_23 : decode cX2_temper 23 = .ok (.getfield 11, 3) := by decide +kernel
theorem dX2_temper_26 : decode cX2_temper 26 = .ok (.iconst 2, 1) := by decide +kernel
theorem dX2_temper_27 : decode cX2_temper 27 = .ok (.iaload, 1) := by decide +kernel
theorem dX2_temper_28 : decode cX2_temper 28 = .ok (.isub, 1) := by decide +kernel
theorem dX2_temper_29 : decode cX2_temper 29 = .ok (.aload_n 0, 1) := by decide +kernel
theorem dX2_temper_30 : decode cX2_temper 30 = .ok (.getfield 11, 3) := by decide +kernel
theorem dX2_temper_33 : decode cX2_temper 33 = .ok (.iconst 3, 1) := by decide +kernel
theorem dX2_temper_34 : decode cX2_temper 34 = .ok (.iaload, 1) := by decide +kernel
theorem dX2_temper_35 : decode cX2_temper 35 = .ok (.isub, 1) := by decide +kernel
theorem dX2_temper_36 : decode cX2_temper 36 = .ok (.istore_n 1, 1) := by decide +kernel
theorem dX2_temper_37 : decode cX2_temper 37 = .ok (.iconst 0, 1) := by decide +kernel
theorem dX2_temper_38 : decode cX2_temper 38 = .ok (.iload_n 1, 1) := by decide +kernel
theorem dX2_temper_39 : decode cX2_temper 39 = .ok (.bipush 100, 2) := by decide +kernel
theorem dX2_temper_41 : decode cX2_temper 41 = .ok (.invokestatic 37, 3) := by decide +kernel
theorem dX2_temper_44 : decode cX2_temper 44 = .ok (.invokestatic 43, 3) := by decide +kernel
theorem dX2_temper_47 : decode cX2_temper 47 = .ok (.ireturn, 1) := by decide +kernel
theorem dX3_init_0 : decode cX3_init 0 = .ok (.aload_n 0, 1) := by decide +kernel
theorem dX3_init_1 : decode cX3_init 1 = .ok (.invokespecial 3, 3) := by decide +kernel
theorem dX3_init_4 : decode cX3_init 4 = .ok (.aload_n 0, 1) := by decide +kernel
theorem dX3_init_5 : decode cX3_init 5 = .ok (.iload_n 1, 1) := by decide +kernel
theorem dX3_init_6 : decode cX3_init 6 = .ok (.putfield 9, 3) := by decide +kernel
theorem dX3_init_9 : decode cX3_init 9 = .ok (.aload_n 0, 1) := by decide +kernel
theorem dX3_init_10 : decode cX3_init 10 = .ok (.iload_n 2, 1) := by decide +kernel
theorem dX3_init_11 : decode cX3_init 11 = .ok (.putfield 15, 3) := by decide +kernel
theorem dX3_init_14 : decode cX3_init 14 = .ok (.aload_n 0, 1) := by decide +kernel
theorem dX3_init_15 : decode cX3_init 15 = .ok (.iload_n 3, 1) := by decide +kernel
theorem dX3_init_16 : decode cX3_init 16 = .ok (.putfield 18, 3) := by decide +kernel
theorem dX3_init_19 : decode cX3_init 19 = .ok (.return_, 1) := by decide +kernel
theorem dX3_squares_0 : decode cX3_squares 0 = .ok (.aload_n 0, 1) := by decide +kernel
theorem dX3_squares_1 : decode cX3_squares 1 = .ok (.getfield 9, 3) := by decide +kernel
theorem dX3_squares_4 : decode cX3_squares 4 = .ok (.aload_n 0, 1) := by decide +kernel
theorem dX3_squares_5 : decode cX3_squares 5 = .ok (.getfield 15, 3) := by decide +kernel
theorem dX3_squares_8 : decode cX3_squares 8 = .ok (.imul, 1) := by decide +kernel
theorem dX3_squares_9 : decode cX3_squares 9 = .ok (.ireturn, 1) := by decide +kernel
theorem dX3_grams_0 : decode cX3_grams 0 = .ok (.aload_n 0, 1) := by decide +kernel
theorem dX3_grams_1 : decode cX3_grams 1 = .ok (.invokevirtual 21, 3) := by decide +kernel
theorem dX3_grams_4 : decode cX3_grams 4 = .ok (.bipush 10, 2) := by decide +kernel
theorem dX3_grams_6 : decode cX3_grams 6 = .ok (.imul, 1) := by decide +kernel
theorem dX3_grams_7 : decode cX3_grams 7 = .ok (.ireturn, 1) := by decide +kernel
theorem dX3_isBloomed_0 : decode cX3_isBloomed 0 = .ok (.aload_n 0, 1) := by decide +kernel
theorem dX3_isBloomed_1 : decode cX3_isBloomed 1 = .ok (.getfield 25, 3) := by decide +kernel
theorem dX3_isBloomed_4 : decode cX3_isBloomed 4 = .ok (.bipush 20, 2) := by decide +kernel
theorem dX3_isBloomed_6 : decode cX3_isBloomed 6 = .ok (.if_icmp .le 7, 3) := by decide +kernel
theorem dX3_isBloomed_9 : decode cX3_isBloomed 9 = .ok (.iconst 1, 1) := by decide +kernel
theorem dX3_isBloomed_10 : decode cX3_isBloomed 10 = .ok (.goto 4, 3) := by decide +kernel
theorem dX3_isBloomed_13 : decode cX3_isBloomed 13 = .ok (.iconst 0, 1) := by decide +kernel
theorem dX3_isBloomed_14 : decode cX3_isBloomed 14 = .ok (.ireturn, 1) := by decide +kernel
theorem dX3_bloomBehindPolish_0 : decode cX3_bloomBehindPolish 0 = .ok (.iconst 0, 1) := by decide +kernel
theorem dX3_bloomBehindPolish_1 : decode cX3_bloomBehindPolish 1 = .ok (.aload_n 0, 1) := by decide +kernel
theorem dX3_bloomBehindPolish_2 : decode cX3_bloomBehindPolish 2 = .ok (.getfield 25, 3) := by decide +kernel
theorem dX3_bloomBehindPolish_5 : decode cX3_bloomBehindPolish 5 = .ok (.bipush 15, 2) := by decide +kernel
theorem dX3_bloomBehindPolish_7 : decode cX3_bloomBehindPolish 7 = .ok (.isub, 1) := by decide +kernel
theorem dX3_bloomBehindPolish_8 : decode cX3_bloomBehindPolish 8 = .ok (.invokestatic 28, 3) := by decide +kernel
theorem dX3_bloomBehindPolish_11 : decode cX3_bloomBehindPolish 11 = .ok (.ireturn, 1) := by decide +kernel
theorem dX3_bloomOfADay_0 : decode cX3_bloomOfADay 0 = .ok (.bipush 100, 2) := by decide +kernel
theorem dX3_bloomOfADay_2 : decode cX3_bloomOfADay 2 = .ok (.aload_n 0, 1) := by decide +kernel
theorem dX3_bloomOfADay_3 : decode cX3_bloomOfADay 3 = .ok (.getfield 18, 3) := by decide +kernel
theorem dX3_bloomOfADay_6 : decode cX3_bloomOfADay 6 = .ok (.isub, 1) := by decide +kernel
theorem dX3_bloomOfADay_7 : decode cX3_bloomOfADay 7 = .ok (.bipush 10, 2) := by decide +kernel
theorem dX3_bloomOfADay_9 : decode cX3_bloomOfADay 9 = .ok (.idiv, 1) := by decide +kernel
theorem dX3_bloomOfADay_10 : decode cX3_bloomOfADay 10 = .ok (.iconst 2, 1) := by decide +kernel
theorem dX3_bloomOfADay_11 : decode cX3_bloomOfADay 11 = .ok (.iconst 0, 1) := by decide +kernel
theorem dX3_bloomOfADay_12 : decode cX3_bloomOfADay 12 = .ok (.iload_n 1, 1) := by decide +kernel
theorem dX3_bloomOfADay_13 : decode cX3_bloomOfADay 13 = .ok (.bipush 24, 2) := by decide +kernel
theorem dX3_bloomOfADay_15 : decode cX3_bloomOfADay 15 = .ok (.isub, 1) := by decide +kernel
theorem dX3_bloomOfADay_16 : decode cX3_bloomOfADay 16 = .ok (.invokestatic 28, 3) := by decide +kernel
theorem dX3_bloomOfADay_19 : decode cX3_bloomOfADay 19 = .ok (.imul, 1) := by decide +kernel
theorem dX3_bloomOfADay_20 : decode cX3_bloomOfADay 20 = .ok (.iadd, 1) := by decide +kernel
theorem dX3_bloomOfADay_21 : decode cX3_bloomOfADay 21 = .ok (.ireturn, 1) := by decide +kernel
theorem dX3_standFor_0 : decode cX3_standFor 0 = .ok (.aload_n 0, 1) := by decide +kernel
theorem dX3_standFor_1 : decode cX3_standFor 1 = .ok (.bipush 100, 2) := by decide +kernel
theorem dX3_standFor_3 : decode cX3_standFor 3 = .ok (.aload_n 0, 1) := by decide +kernel
theorem dX3_standFor_4 : decode cX3_standFor 4 = .ok (.getfield 25, 3) := by decide +kernel
theorem dX3_standFor_7 : decode cX3_standFor 7 = .ok (.iload_n 1, 1) := by decide +kernel
theorem dX3_standFor_8 : decode cX3_standFor 8 = .ok (.aload_n 0, 1) := by decide +kernel
theorem dX3_standFor_9 : decode cX3_standFor 9 = .ok (.iload_n 2, 1) := by decide +kernel
theorem dX3_standFor_10 : decode cX3_standFor 10 = .ok (.invokevirtual 34, 3) := by decide +kernel
theorem dX3_standFor_13 : decode cX3_standFor 13 = .ok (.imul, 1) := by decide +kernel
theorem dX3_standFor_14 : decode cX3_standFor 14 = .ok (.iadd, 1) := by decide +kernel
theorem dX3_standFor_15 : decode cX3_standFor 15 = .ok (.invokestatic 38, 3) := by decide +kernel
theorem dX3_standFor_18 : decode cX3_standFor 18 = .ok (.putfield 25, 3) := by decide +kernel
theorem dX3_standFor_21 : decode cX3_standFor 21 = .ok (.aload_n 0, 1) := by decide +kernel
theorem dX3_standFor_22 : decode cX3_standFor 22 = .ok (.dup, 1) := by decide +kernel
theorem dX3_standFor_23 : decode cX3_standFor 23 = .ok (.getfield 41, 3) := by decide +kernel
theorem dX3_standFor_26 : decode cX3_standFor 26 = .ok (.iload_n 1, 1) := by decide +kernel
theorem dX3_standFor_27 : decode cX3_standFor 27 = .ok (.iadd, 1) := by decide +kernel
theorem dX3_standFor_28 : decode cX3_standFor 28 = .ok (.putfield 41, 3) := by decide +kernel
theorem dX3_standFor_31 : decode cX3_standFor 31 = .ok (.return_, 1) := by decide +kernel
theorem dX3_partBehind_0 : decode cX3_partBehind 0 = .ok (.iload_n 2, 1) := by decide +kernel
theorem dX3_partBehind_1 : decode cX3_partBehind 1 = .ok (.ifCond .eq 27, 3) := by decide +kernel
theorem dX3_partBehind_4 : decode cX3_partBehind 4 = .ok (.new 10, 3) := by decide +kernel
theorem dX3_partBehind_7 : decode cX3_partBehind 7 = .ok (.dup, 1) := by decide +kernel
theorem dX3_partBehind_8 : decode cX3_partBehind 8 = .ok (.aload_n 0, 1) := by decide +kernel
theorem dX3_partBehind_9 : decode cX3_partBehind 9 = .ok (.getfield 9, 3) := by decide +kernel
theorem dX3_partBehind_12 : decode cX3_partBehind 12 = .ok (.aload_n 0, 1) := by decide +kernel
theorem dX3_partBehind_13 : decode cX3_partBehind 13 = .ok (.getfield 15, 3) := by decide +kernel
theorem dX3_partBehind_16 : decode cX3_partBehind 16 = .ok (.iload_n 1, 1) := by decide +kernel
theorem dX3_partBehind_17 : decode cX3_partBehind 17 = .ok (.isub, 1) := by decide +kernel
theorem dX3_partBehind_18 : decode cX3_partBehind 18 = .ok (.aload_n 0, 1) := by decide +kernel
theorem dX3_partBehind_19 : decode cX3_partBehind 19 = .ok (.getfield 18, 3) := by decide +kernel
theorem dX3_partBehind_22 : decode cX3_partBehind 22 = .ok (.invokespecial 44, 3) := by decide +kernel
theorem dX3_partBehind_25 : decode cX3_partBehind 25 = .ok (.goto 24, 3) := by decide +kernel
theorem dX3_partBehind_28 : decode cX3_partBehind 28 = .ok (.new 10, 3) := by decide +kernel
theorem dX3_partBehind_31 : decode cX3_partBehind 31 = .ok (.dup, 1) := by decide +kernel
theorem dX3_partBehind_32 : decode cX3_partBehind 32 = .ok (.aload_n 0, 1) := by decide +kernel
theorem dX3_partBehind_33 : decode cX3_partBehind 33 = .ok (.getfield 9, 3) := by decide +kernel
theorem dX3_partBehind_36 : decode cX3_partBehind 36 = .ok (.iload_n 1, 1) := by decide +kernel
theorem dX3_partBehind_37 : decode cX3_partBehind 37 = .ok (.isub, 1) := by decide +kernel
theorem dX3_partBehind_38 : decode cX3_partBehind 38 = .ok (.aload_n 0, 1) := by decide +kernel
theorem dX3_partBehind_39 : decode cX3_partBehind 39 = .ok (.getfield 15, 3) := by decide +kernel
theorem dX3_partBehind_42 : decode cX3_partBehind 42 = .ok (.aload_n 0, 1) := by decide +kernel
theorem dX3_partBehind_43 : decode cX3_partBehind 43 = .ok (.getfield 18, 3) := by decide +kernel
theorem dX3_partBehind_46 : decode cX3_partBehind 46 = .ok (.invokespecial 44, 3) := by decide +kernel
theorem dX3_partBehind_49 : decode cX3_partBehind 49 = .ok (.astore_n 3, 1) := by decide +kernel
theorem dX3_partBehind_50 : decode cX3_partBehind 50 = .ok (.aload_n 3, 1) := by decide +kernel
theorem dX3_partBehind_51 : decode cX3_partBehind 51 = .ok (.aload_n 0, 1) := by decide +kernel
theorem dX3_partBehind_52 : decode cX3_partBehind 52 = .ok (.getfield 25, 3) := by decide +kernel
theorem dX3_partBehind_55 : decode cX3_partBehind 55 = .ok (.putfield 25, 3) := by decide +kernel
theorem dX3_partBehind_58 : decode cX3_partBehind 58 = .ok (.aload_n 3, 1) := by decide +kernel
theorem dX3_partBehind_59 : decode cX3_partBehind 59 = .ok (.aload_n 0, 1) := by decide +kernel
theorem dX3_partBehind_60 : decode cX3_partBehind 60 = .ok (.getfield 41, 3) := by decide +kernel
theorem dX3_partBehind_63 : decode cX3_partBehind 63 = .ok (.putfield 41, 3) := by decide +kernel
theorem dX3_partBehind_66 : decode cX3_partBehind 66 = .ok (.aload_n 3, 1) := by decide +kernel
theorem dX3_partBehind_67 : decode cX3_partBehind 67 = .ok (.areturn, 1) := by decide +kernel
theorem dX3_cutDownTo_0 : decode cX3_cutDownTo 0 = .ok (.iload_n 2, 1) := by decide +kernel
theorem dX3_cutDownTo_1 : decode cX3_cutDownTo 1 = .ok (.ifCond .eq 11, 3) := by decide +kernel
theorem dX3_cutDownTo_4 : decode cX3_cutDownTo 4 = .ok (.aload_n 0, 1) := by decide +kernel
theorem dX3_cutDownTo_5 : decode cX3_cutDownTo 5 = .ok (.iload_n 1, 1) := by decide +kernel
theorem dX3_cutDownTo_6 : decode cX3_cutDownTo 6 = .ok (.putfield 15, 3) := by decide +kernel
theorem dX3_cutDownTo_9 : decode cX3_cutDownTo 9 = .ok (.goto 8, 3) := by decide +kernel
theorem dX3_cutDownTo_12 : decode cX3_cutDownTo 12 = .ok (.aload_n 0, 1) := by decide +kernel
theorem dX3_cutDownTo_13 : decode cX3_cutDownTo 13 = .ok (.iload_n 1, 1) := by decide +kernel
theorem dX3_cutDownTo_14 : decode cX3_cutDownTo 14 = .ok (.putfield 9, 3) := by decide +kernel
theorem dX3_cutDownTo_17 : decode cX3_cutDownTo 17 = .ok (.return_, 1) := by decide +kernel
theorem dX4_init_0 : decode cX4_init 0 = .ok (.aload_n 0, 1) := by decide +kernel
theorem dX4_init_1 : decode cX4_init 1 = .ok (.invokespecial 3, 3) := by decide +kernel
theorem dX4_init_4 : decode cX4_init 4 = .ok (.aload_n 0, 1) := by decide +kernel
theorem dX4_init_5 : decode cX4_init 5 = .ok (.iconst 5, 1) := by decide +kernel
theorem dX4_init_6 : decode cX4_init 6 = .ok (.anewarray 9, 3) := by decide +kernel
theorem dX4_init_9 : decode cX4_init 9 = .ok (.putfield 11, 3) := by decide +kernel
theorem dX4_init_12 : decode cX4_init 12 = .ok (.aload_n 0, 1) := by decide +kernel
theorem dX4_init_13 : decode cX4_init 13 = .ok (.bipush 8, 2) := by decide +kernel
theorem dX4_init_15 : decode cX4_init 15 = .ok (.anewarray 15, 3) := by decide +kernel
theorem dX4_init_18 : decode cX4_init 18 = .ok (.putfield 17, 3) := by decide +kernel
theorem dX4_init_21 : decode cX4_init 21 = .ok (.aload_n 0, 1) := by decide +kernel
theorem dX4_init_22 : decode cX4_init 22 = .ok (.bipush 6, 2) := by decide +kernel
theorem dX4_init_24 : decode cX4_init 24 = .ok (.anewarray 21, 3) := by decide +kernel
theorem dX4_init_27 : decode cX4_init 27 = .ok (.putfield 23, 3) := by decide +kernel
theorem dX4_init_30 : decode cX4_init 30 = .ok (.aload_n 0, 1) := by decide +kernel
theorem dX4_init_31 : decode cX4_init 31 = .ok (.new 27, 3) := by decide +kernel
theorem dX4_init_34 : decode cX4_init 34 = .ok (.dup, 1) := by decide +kernel
theorem dX4_init_35 : decode cX4_init 35 = .ok (.invokespecial 29, 3) := by decide +kernel
theorem dX4_init_38 : decode cX4_init 38 = .ok (.putfield 30, 3) := by decide +kernel
theorem dX4_init_41 : decode cX4_init 41 = .ok (.aload_n 0, 1) := by decide +kernel
theorem dX4_init_42 : decode cX4_init 42 = .ok (.new 27, 3) := by decide +kernel
theorem dX4_init_45 : decode cX4_init 45 = .ok (.dup, 1) := by decide +kernel
theorem dX4_init_46 : decode cX4_init 46 = .ok (.invokespecial 29, 3) := by decide +kernel
theorem dX4_init_49 : decode cX4_init 49 = .ok (.putfield 34, 3) := by decide +kernel
theorem dX4_init_52 : decode cX4_init 52 = .ok (.aload_n 0, 1) := by decide +kernel
theorem dX4_init_53 : decode cX4_init 53 = .ok (.bipush 6, 2) := by decide +kernel
theorem dX4_init_55 : decode cX4_init 55 = .ok (.newarray .int, 2) := by decide +kernel
theorem dX4_init_57 : decode cX4_init 57 = .ok (.putfield 37, 3) := by decide +kernel
theorem dX4_init_60 : decode cX4_init 60 = .ok (.aload_n 0, 1) := by decide +kernel
theorem dX4_init_61 : decode cX4_init 61 = .ok (.bipush 8, 2) := by decide +kernel
theorem dX4_init_63 : decode cX4_init 63 = .ok (.newarray .boolean, 2) := by decide +kernel
theorem dX4_init_65 : decode cX4_init 65 = .ok (.putfield 41, 3) := by decide +kernel
theorem dX4_init_68 : decode cX4_init 68 = .ok (.return_, 1) := by decide +kernel
theorem dX4_bowl_0 : decode cX4_bowl 0 = .ok (.iload_n 1, 1) := by decide +kernel
theorem dX4_bowl_1 : decode cX4_bowl 1 = .ok (.ifCond .lt 10, 3) := by decide +kernel
theorem dX4_bowl_4 : decode cX4_bowl 4 = .ok (.iload_n 1, 1) := by decide +kernel
theorem dX4_bowl_5 : decode cX4_bowl 5 = .ok (.sipush 2000, 3) := by decide +kernel
theorem dX4_bowl_8 : decode cX4_bowl 8 = .ok (.if_icmp .le 13, 3) := by decide +kernel
theorem dX4_bowl_11 : decode cX4_bowl 11 = .ok (.new 45, 3) := by decide +kernel
theorem dX4_bowl_14 : decode cX4_bowl 14 = .ok (.dup, 1) := by decide +kernel
theorem dX4_bowl_15 : decode cX4_bowl 15 = .ok (.ldc 47, 2) := by decide +kernel
theorem dX4_bowl_17 : decode cX4_bowl 17 = .ok (.invokespecial 49, 3) := by decide +kernel
theorem dX4_bowl_20 : decode cX4_bowl 20 = .ok (.athrow, 1) := by decide +kernel
theorem dX4_bowl_21 : decode cX4_bowl 21 = .ok (.aload_n 0, 1) := by decide +kernel
theorem dX4_bowl_22 : decode cX4_bowl 22 = .ok (.getfield 52, 3) := by decide +kernel
theorem dX4_bowl_25 : decode cX4_bowl 25 = .ok (.istore_n 2, 1) := by decide +kernel
theorem dX4_bowl_26 : decode cX4_bowl 26 = .ok (.iload_n 2, 1) := by decide +kernel
theorem dX4_bowl_27 : decode cX4_bowl 27 = .ok (.iconst 5, 1) := by decide +kernel
theorem dX4_bowl_28 : decode cX4_bowl 28 = .ok (.if_icmp .lt 13, 3) := by decide +kernel
theorem dX4_bowl_31 : decode cX4_bowl 31 = .ok (.new 56, 3) := by decide +kernel
theorem dX4_bowl_34 : decode cX4_bowl 34 = .ok (.dup, 1) := by decide +kernel
theorem dX4_bowl_35 : decode cX4_bowl 35 = .ok (.ldc 58, 2) := by decide +kernel
theorem dX4_bowl_37 : decode cX4_bowl 37 = .ok (.invokespecial 60, 3) := by decide +kernel
theorem dX4_bowl_40 : decode cX4_bowl 40 = .ok (.athrow, 1) := by decide +kernel
theorem dX4_bowl_41 : decode cX4_bowl 41 = .ok (.aload_n 0, 1) := by decide +kernel
theorem dX4_bowl_42 : decode cX4_bowl 42 = .ok (.getfield 11, 3) := by decide +kernel
theorem dX4_bowl_45 : decode cX4_bowl 45 = .ok (.iload_n 2, 1) := by decide +kernel
theorem dX4_bowl_46 : decode cX4_bowl 46 = .ok (.new 9, 3) := by decide +kernel
theorem dX4_bowl_49 : decode cX4_bowl 49 = .ok (.dup, 1) := by decide +kernel
theorem dX4_bowl_50 : decode cX4_bowl 50 = .ok (.iload_n 1, 1) := by decide +kernel
theorem dX4_bowl_51 : decode cX4_bowl 51 = .ok (.invokespecial 61, 3) := by decide +kernel
theorem dX4_bowl_54 : decode cX4_bowl 54 = .ok (.aastore, 1) := by decide +kernel
theorem dX4_bowl_55 : decode cX4_bowl 55 = .ok (.aload_n 0, 1) := by decide +kernel
theorem dX4_bowl_56 : decode cX4_bowl 56 = .ok (.iload_n 2, 1) := by decide +kernel
theorem dX4_bowl_57 : decode cX4_bowl 57 = .ok (.iconst 1, 1) := by decide +kernel
theorem dX4_bowl_58 : decode cX4_bowl 58 = .ok (.iadd, 1) := by decide +kernel
theorem dX4_bowl_59 : decode cX4_bowl 59 = .ok (.putfield 52, 3) := by decide +kernel
theorem dX4_bowl_62 : decode cX4_bowl 62 = .ok (.iload_n 2, 1) := by decide +kernel
theorem dX4_bowl_63 : decode cX4_bowl 63 = .ok (.ireturn, 1) := by decide +kernel
theorem dX4_warm_0 : decode cX4_warm 0 = .ok (.aload_n 0, 1) := by decide +kernel
theorem dX4_warm_1 : decode cX4_warm 1 = .ok (.iload_n 1, 1) := by decide +kernel
theorem dX4_warm_2 : decode cX4_warm 2 = .ok (.invokevirtual 64, 3) := by decide +kernel
theorem dX4_warm_5 : decode cX4_warm 5 = .ok (.astore 4, 2) := by decide +kernel
theorem dX4_warm_7 : decode cX4_warm 7 = .ok (.iload_n 2, 1) := by decide +kernel
theorem dX4_warm_8 : decode cX4_warm 8 = .ok (.iload_n 3, 1) := by decide +kernel
theorem dX4_warm_9 : decode cX4_warm 9 = .ok (.invokestatic 68, 3) := by decide +kernel
theorem dX4_warm_12 : decode cX4_warm 12 = .ok (.aload 4, 2) := by decide +kernel
theorem dX4_warm_14 : decode cX4_warm 14 = .ok (.iload_n 2, 1) := by decide +kernel
theorem dX4_warm_15 : decode cX4_warm 15 = .ok (.putfield 72, 3) := by decide +kernel
theorem dX4_warm_18 : decode cX4_warm 18 = .ok (.aload 4, 2) := by decide +kernel
theorem dX4_warm_20 : decode cX4_warm 20 = .ok (.getfield 75, 3) := by decide +kernel
theorem dX4_warm_23 : decode cX4_warm 23 = .ok (.iload_n 2, 1) := by decide +kernel
theorem dX4_warm_24 : decode cX4_warm 24 = .ok (.iload_n 3, 1) := by decide +kernel
theorem dX4_warm_25 : decode cX4_warm 25 = .ok (.invokevirtual 78, 3) := by decide +kernel
theorem dX4_warm_28 : decode cX4_warm 28 = .ok (.aload 4, 2) := by decide +kernel
theorem dX4_warm_30 : decode cX4_warm 30 = .ok (.getfield 75, 3) := by decide +kernel
theorem dX4_warm_33 : decode cX4_warm 33 = .ok (.invokevirtual 81, 3) := by decide +kernel
theorem dX4_warm_36 : decode cX4_warm 36 = .ok (.ireturn, 1) := by decide +kernel
theorem dX4_seed_0 : decode cX4_seed 0 = .ok (.aload_n 0, 1) := by decide +kernel
theorem dX4_seed_1 : decode cX4_seed 1 = .ok (.iload_n 1, 1) := by decide +kernel
theorem dX4_seed_2 : decode cX4_seed 2 = .ok (.invokevirtual 64, 3) := by decide +kernel
theorem dX4_seed_5 : decode cX4_seed 5 = .ok (.astore_n 3, 1) := by decide +kernel
theorem dX4_seed_6 : decode cX4_seed 6 = .ok (.iload_n 2, 1) := by decide +kernel
theorem dX4_seed_7 : decode cX4_seed 7 = .ok (.iconst 1, 1) := by decide +kernel
theorem dX4_seed_8 : decode cX4_seed 8 = .ok (.if_icmp .lt 9, 3) := by decide +kernel
theorem dX4_seed_11 : decode cX4_seed 11 = .ok (.iload_n 2, 1) := by decide +kernel
theorem dX4_seed_12 : decode cX4_seed 12 = .ok (.bipush 30, 2) := by decide +kernel
theorem dX4_seed_14 : decode cX4_seed 14 = .ok (.if_icmp .le 13, 3) := by decide +kernel
theorem dX4_seed_17 : decode cX4_seed 17 = .ok (.new 45, 3) := by decide +kernel
theorem dX4_seed_20 : decode cX4_seed 20 = .ok (.dup, 1) := by decide +kernel
theorem dX4_seed_21 : decode cX4_seed 21 = .ok (.ldc 85, 2) := by decide +kernel
theorem dX4_seed_23 : decode cX4_seed 23 = .ok (.invokespecial 49, 3) := by decide +kernel
theorem dX4_seed_26 : decode cX4_seed 26 = .ok (.athrow, 1) := by decide +kernel
theorem dX4_seed_27 : decode cX4_seed 27 = .ok (.aload_n 3, 1) := by decide +kernel
theorem dX4_seed_28 : decode cX4_seed 28 = .ok (.getfield 75, 3) := by decide +kernel
theorem dX4_seed_31 : decode cX4_seed 31 = .ok (.iconst 5, 1) := by decide +kernel
theorem dX4_seed_32 : decode cX4_seed 32 = .ok (.iload_n 2, 1) := by decide +kernel
theorem dX4_seed_33 : decode cX4_seed 33 = .ok (.invokevirtual 87, 3) := by decide +kernel
theorem dX4_seed_36 : decode cX4_seed 36 = .ok (.aload_n 3, 1) := by decide +kernel
theorem dX4_seed_37 : decode cX4_seed 37 = .ok (.getfield 75, 3) := by decide +kernel
theorem dX4_seed_40 : decode cX4_seed 40 = .ok (.getfield 90, 3) := by decide +kernel
theorem dX4_seed_43 : decode cX4_seed 43 = .ok (.iconst 5, 1) := by decide +kernel
theorem dX4_seed_44 : decode cX4_seed 44 = .ok (.iaload, 1) := by decide +kernel
theorem dX4_seed_45 : decode cX4_seed 45 = .ok (.ireturn, 1) := by decide +kernel
theorem dX4_pour_0 : decode cX4_pour 0 = .ok (.aload_n 0, 1) := by decide +kernel
theorem dX4_pour_1 : decode cX4_pour 1 = .ok (.iload_n 1, 1) := by decide +kernel
theorem dX4_pour_2 : decode cX4_pour 2 = .ok (.invokevirtual 64, 3) := by decide +kernel
theorem dX4_pour_5 : decode cX4_pour 5 = .ok (.astore_n 3, 1) := by decide +kernel
theorem dX4_pour_6 : decode cX4_pour 6 = .ok (.aload_n 0, 1) := by decide +kernel
theorem dX4_pour_7 : decode cX4_pour 7 = .ok (.iload_n 2, 1) := by decide +kernel
theorem dX4_pour_8 : decode cX4_pour 8 = .ok (.invokevirtual 64, 3) := by decide +kernel
theorem dX4_pour_11 : decode cX4_pour 11 = .ok (.astore 4, 2) := by decide +kernel
theorem dX4_pour_13 : decode cX4_pour 13 = .ok (.aload_n 3, 1) := by decide +kernel
theorem dX4_pour_14 : decode cX4_pour 14 = .ok (.getfield 93, 3) := by decide +kernel
theorem dX4_pour_17 : decode cX4_pour 17 = .ok (.aload 4, 2) := by decide +kernel
theorem dX4_pour_19 : decode cX4_pour 19 = .ok (.getfield 93, 3) := by decide +kernel
theorem dX4_pour_22 : decode cX4_pour 22 = .ok (.iadd, 1) := by decide +kernel
theorem dX4_pour_23 : decode cX4_pour 23 = .ok (.istore 5, 2) := by decide +kernel
theorem dX4_pour_25 : decode cX4_pour 25 = .ok (.iload_n 1, 1) := by decide +kernel
theorem dX4_pour_26 : decode cX4_pour 26 = .ok (.iload_n 2, 1) := by decide +kernel
theorem dX4_pour_27 : decode cX4_pour 27 = .ok (.if_icmp .eq 16, 3) := by decide +kernel
theorem dX4_pour_30 : decode cX4_pour 30 = .ok (.iload 5, 2) := by decide +kernel
theorem dX4_pour_32 : decode cX4_pour 32 = .ok (.ifCond .eq 11, 3) := by decide +kernel
theorem dX4_pour_35 : decode cX4_pour 35 = .ok (.iload 5, 2) := by decide +kernel
theorem dX4_pour_37 : decode cX4_pour 37 = .ok (.sipush 2000, 3) := by decide +kernel
theorem dX4_pour_40 : decode cX4_pour 40 = .ok (.if_icmp .le 13, 3) := by decide +kernel
theorem dX4_pour_43 : decode cX4_pour 43 = .ok (.new 45, 3) := by decide +kernel
theorem dX4_pour_46 : decode cX4_pour 46 = .ok (.dup, 1) := by decide +kernel
theorem dX4_pour_47 : decode cX4_pour 47 = .ok (.ldc 96, 2) := by decide +kernel
theorem dX4_pour_49 : decode cX4_pour 49 = .ok (.invokespecial 49, 3) := by decide +kernel
theorem dX4_pour_52 : decode cX4_pour 52 = .ok (.athrow, 1) := by decide +kernel
theorem dX4_pour_53 : decode cX4_pour 53 = .ok (.aload 4, 2) := by decide +kernel
theorem dX4_pour_55 : decode cX4_pour 55 = .ok (.aload_n 3, 1) := by decide +kernel
theorem dX4_pour_56 : decode cX4_pour 56 = .ok (.invokevirtual 98, 3) := by decide +kernel
theorem dX4_pour_59 : decode cX4_pour 59 = .ok (.aload 4, 2) := by decide +kernel
theorem dX4_pour_61 : decode cX4_pour 61 = .ok (.getfield 93, 3) := by decide +kernel
theorem dX4_pour_64 : decode cX4_pour 64 = .ok (.ireturn, 1) := by decide +kernel
theorem dX4_cast_0 : decode cX4_cast 0 = .ok (.aload_n 0, 1) := by decide +kernel
theorem dX4_cast_1 : decode cX4_cast 1 = .ok (.iload_n 1, 1) := by decide +kernel
theorem dX4_cast_2 : decode cX4_cast 2 = .ok (.invokevirtual 64, 3) := by decide +kernel
theorem dX4_cast_5 : decode cX4_cast 5 = .ok (.astore 4, 2) := by decide +kernel
theorem dX4_cast_7 : decode cX4_cast 7 = .ok (.iload_n 2, 1) := by decide +kernel
theorem dX4_cast_8 : decode cX4_cast 8 = .ok (.iconst 1, 1) := by decide +kernel
theorem dX4_cast_9 : decode cX4_cast 9 = .ok (.if_icmp .lt 20, 3) := by decide +kernel
theorem dX4_cast_12 : decode cX4_cast 12 = .ok (.iload_n 2, 1) := by decide +kernel
theorem dX4_cast_13 : decode cX4_cast 13 = .ok (.bipush 6, 2) := by decide +kernel
theorem dX4_cast_15 : decode cX4_cast 15 = .ok (.if_icmp .gt 14, 3) := by decide +kernel
theorem dX4_cast_18 : decode cX4_cast 18 = .ok (.iload_n 3, 1) := by decide +kernel
theorem dX4_cast_19 : decode cX4_cast 19 = .ok (.iconst 1, 1) := by decide +kernel
theorem dX4_cast_20 : decode cX4_cast 20 = .ok (.if_icmp .lt 9, 3) := by decide +kernel
theorem dX4_cast_23 : decode cX4_cast 23 = .ok (.iload_n 3, 1) := by decide +kernel
theorem dX4_cast_24 : decode cX4_cast 24 = .ok (.bipush 6, 2) := by decide +kernel
theorem dX4_cast_26 : decode cX4_cast 26 = .ok (.if_icmp .le 13, 3) := by decide +kernel
theorem dX4_cast_29 : decode cX4_cast 29 = .ok (.new 45, 3) := by decide +kernel
theorem dX4_cast_32 : decode cX4_cast 32 = .ok (.dup, 1) := by decide +kernel
theorem dX4_cast_33 : decode cX4_cast 33 = .ok (.ldc 102, 2) := by decide +kernel
theorem dX4_cast_35 : decode cX4_cast 35 = .ok (.invokespecial 49, 3) := by decide +kernel
theorem dX4_cast_38 : decode cX4_cast 38 = .ok (.athrow, 1) := by decide +kernel
theorem dX4_cast_39 : decode cX4_cast 39 = .ok (.new 15, 3) := by decide +kernel
theorem dX4_cast_42 : decode cX4_cast 42 = .ok (.dup, 1) := by decide +kernel
theorem dX4_cast_43 : decode cX4_cast 43 = .ok (.iload_n 2, 1) := by decide +kernel
theorem dX4_cast_44 : decode cX4_cast 44 = .ok (.iload_n 3, 1) := by decide +kernel
theorem dX4_cast_45 : decode cX4_cast 45 = .ok (.aload 4, 2) := by decide +kernel
theorem dX4_cast_47 : decode cX4_cast 47 = .ok (.getfield 75, 3) := by decide +kernel
theorem dX4_cast_50 : decode cX4_cast 50 = .ok (.invokevirtual 81, 3) := by decide +kernel
theorem dX4_cast_53 : decode cX4_cast 53 = .ok (.invokespecial 104, 3) := by decide +kernel
theorem dX4_cast_56 : decode cX4_cast 56 = .ok (.astore 5, 2) := by decide +kernel
theorem dX4_cast_58 : decode cX4_cast 58 = .ok (.aload 4, 2) := by decide +kernel
theorem dX4_cast_60 : decode cX4_cast 60 = .ok (.getfield 93, 3) := by decide +kernel
theorem dX4_cast_63 : decode cX4_cast 63 = .ok (.aload 5, 2) := by decide +kernel
theorem dX4_cast_65 : decode cX4_cast 65 = .ok (.invokevirtual 107, 3) := by decide +kernel
theorem dX4_cast_68 : decode cX4_cast 68 = .ok (.if_icmp .ge 13, 3) := by decide +kernel
theorem dX4_cast_71 : decode cX4_cast 71 = .ok (.new 56, 3) := by decide +kernel
theorem dX4_cast_74 : decode cX4_cast 74 = .ok (.dup, 1) := by decide +kernel
theorem dX4_cast_75 : decode cX4_cast 75 = .ok (.ldc 109, 2) := by decide +kernel
theorem dX4_cast_77 : decode cX4_cast 77 = .ok (.invokespecial 60, 3) := by decide +kernel
theorem dX4_cast_80 : decode cX4_cast 80 = .ok (.athrow, 1) := by decide +kernel
theorem dX4_cast_81 : decode cX4_cast 81 = .ok (.aload_n 0, 1) := by decide +kernel
theorem dX4_cast_82 : decode cX4_cast 82 = .ok (.aload 5, 2) := by decide +kernel
theorem dX4_cast_84 : decode cX4_cast 84 = .ok (.invokevirtual 111, 3) := by decide +kernel
theorem dX4_cast_87 : decode cX4_cast 87 = .ok (.istore 6, 2) := by decide +kernel
theorem dX4_cast_89 : decode cX4_cast 89 = .ok (.aload 4, 2) := by decide +kernel
theorem dX4_cast_91 : decode cX4_cast 91 = .ok (.dup, 1) := by decide +kernel
theorem dX4_cast_92 : decode cX4_cast 92 = .ok (.getfield 93, 3) := by decide +kernel
theorem dX4_cast_95 : decode cX4_cast 95 = .ok (.aload 5, 2) := by decide +kernel
theorem dX4_cast_97 : decode cX4_cast 97 = .ok (.invokevirtual 107, 3) := by decide +kernel
theorem dX4_cast_100 : decode cX4_cast 100 = .ok (.isub, 1) := by decide +kernel
theorem dX4_cast_101 : decode cX4_cast 101 = .ok (.putfield 93, 3) := by decide +kernel
theorem dX4_cast_104 : decode cX4_cast 104 = .ok (.iload 6, 2) := by decide +kernel
theorem dX4_cast_106 : decode cX4_cast 106 = .ok (.ireturn, 1) := by decide +kernel
theorem dX4_polish_0 : decode cX4_polish 0 = .ok (.aload_n 0, 1) := by decide +kernel
theorem dX4_polish_1 : decode cX4_polish 1 = .ok (.iload_n 1, 1) := by decide +kernel
theorem dX4_polish_2 : decode cX4_polish 2 = .ok (.invokevirtual 115, 3) := by decide +kernel
theorem dX4_polish_5 : decode cX4_polish 5 = .ok (.astore_n 2, 1) := by decide +kernel
theorem dX4_polish_6 : decode cX4_polish 6 = .ok (.aload_n 2, 1) := by decide +kernel
theorem dX4_polish_7 : decode cX4_polish 7 = .ok (.aload_n 2, 1) := by decide +kernel
theorem dX4_polish_8 : decode cX4_polish 8 = .ok (.invokevirtual 119, 3) := by decide +kernel
theorem dX4_polish_11 : decode cX4_polish 11 = .ok (.putfield 122, 3) := by decide +kernel
theorem dX4_polish_14 : decode cX4_polish 14 = .ok (.aload_n 2, 1) := by decide +kernel
theorem dX4_polish_15 : decode cX4_polish 15 = .ok (.getfield 122, 3) := by decide +kernel
theorem dX4_polish_18 : decode cX4_polish 18 = .ok (.ireturn, 1) := by decide +kernel
theorem dX4_split_0 : decode cX4_split 0 = .ok (.aload_n 0, 1) := by decide +kernel
theorem dX4_split_1 : decode cX4_split 1 = .ok (.iload_n 1, 1) := by decide +kernel
theorem dX4_split_2 : decode cX4_split 2 = .ok (.invokevirtual 115, 3) := by decide +kernel
theorem dX4_split_5 : decode cX4_split 5 = .ok (.astore 4, 2) := by decide +kernel
theorem dX4_split_7 : decode cX4_split 7 = .ok (.iload_n 3, 1) := by decide +kernel
theorem dX4_split_8 : decode cX4_split 8 = .ok (.ifCond .eq 11, 3) := by decide +kernel
theorem dX4_split_11 : decode cX4_split 11 = .ok (.aload 4, 2) := by decide +kernel
theorem dX4_split_13 : decode cX4_split 13 = .ok (.getfield 125, 3) := by decide +kernel
theorem dX4_split_16 : decode cX4_split 16 = .ok (.goto 8, 3) := by decide +kernel
theorem dX4_split_19 : decode cX4_split 19 = .ok (.aload 4, 2) := by decide +kernel
theorem dX4_split_21 : decode cX4_split 21 = .ok (.getfield 128, 3) := by decide +kernel
theorem dX4_split_24 : decode cX4_split 24 = .ok (.istore 5, 2) := by decide +kernel
theorem dX4_split_26 : decode cX4_split 26 = .ok (.iload_n 2, 1) := by decide +kernel
theorem dX4_split_27 : decode cX4_split 27 = .ok (.iconst 1, 1) := by decide +kernel
theorem dX4_split_28 : decode cX4_split 28 = .ok (.if_icmp .lt 9, 3) := by decide +kernel
theorem dX4_split_31 : decode cX4_split 31 = .ok (.iload_n 2, 1) := by decide +kernel
theorem dX4_split_32 : decode cX4_split 32 = .ok (.iload 5, 2) := by decide +kernel
theorem dX4_split_34 : decode cX4_split 34 = .ok (.if_icmp .lt 13, 3) := by decide +kernel
theorem dX4_split_37 : decode cX4_split 37 = .ok (.new 131, 3) := by decide +kernel
theorem dX4_split_40 : decode cX4_split 40 = .ok (.dup, 1) := by decide +kernel
theorem dX4_split_41 : decode cX4_split 41 = .ok (.ldc 133, 2) := by decide +kernel
theorem dX4_split_43 : decode cX4_split 43 = .ok (.invokespecial 135, 3) := by decide +kernel
theorem dX4_split_46 : decode cX4_split 46 = .ok (.athrow, 1) := by decide +kernel
theorem dX4_split_47 : decode cX4_split 47 = .ok (.aload_n 0, 1) := by decide +kernel
theorem dX4_split_48 : decode cX4_split 48 = .ok (.aload 4, 2) := by decide +kernel
theorem dX4_split_50 : decode cX4_split 50 = .ok (.iload_n 2, 1) := by decide +kernel
theorem dX4_split_51 : decode cX4_split 51 = .ok (.iload_n 3, 1) := by decide +kernel
theorem dX4_split_52 : decode cX4_split 52 = .ok (.invokevirtual 136, 3) := by decide +kernel
theorem dX4_split_55 : decode cX4_split 55 = .ok (.invokevirtual 111, 3) := by decide +kernel
theorem dX4_split_58 : decode cX4_split 58 = .ok (.istore 6, 2) := by decide +kernel
theorem dX4_split_60 : decode cX4_split 60 = .ok (.aload 4, 2) := by decide +kernel
theorem dX4_split_62 : decode cX4_split 62 = .ok (.iload_n 2, 1) := by decide +kernel
theorem dX4_split_63 : decode cX4_split 63 = .ok (.iload_n 3, 1) := by decide +kernel
theorem dX4_split_64 : decode cX4_split 64 = .ok (.invokevirtual 140, 3) := by decide +kernel
theorem dX4_split_67 : decode cX4_split 67 = .ok (.iload 6, 2) := by decide +kernel
theorem dX4_split_69 : decode cX4_split 69 = .ok (.ireturn, 1) := by decide +kernel
theorem dX4_melt_0 : decode cX4_melt 0 = .ok (.aload_n 0, 1) := by decide +kernel
theorem dX4_melt_1 : decode cX4_melt 1 = .ok (.iload_n 1, 1) := by decide +kernel
theorem dX4_melt_2 : decode cX4_melt 2 = .ok (.invokevirtual 115, 3) := by decide +kernel
theorem dX4_melt_5 : decode cX4_melt 5 = .ok (.invokevirtual 107, 3) := by decide +kernel
theorem dX4_melt_8 : decode cX4_melt 8 = .ok (.istore_n 3, 1) := by decide +kernel
theorem dX4_melt_9 : decode cX4_melt 9 = .ok (.aload_n 0, 1) := by decide +kernel
theorem dX4_melt_10 : decode cX4_melt 10 = .ok (.iload_n 2, 1) := by decide +kernel
theorem dX4_melt_11 : decode cX4_melt 11 = .ok (.invokevirtual 64, 3) := by decide +kernel
theorem dX4_melt_14 : decode cX4_melt 14 = .ok (.astore 4, 2) := by decide +kernel
theorem dX4_melt_16 : decode cX4_melt 16 = .ok (.aload 4, 2) := by decide +kernel
theorem dX4_melt_18 : decode cX4_melt 18 = .ok (.getfield 93, 3) := by decide +kernel
theorem dX4_melt_21 : decode cX4_melt 21 = .ok (.iload_n 3, 1) := by decide +kernel
theorem dX4_melt_22 : decode cX4_melt 22 = .ok (.iadd, 1) := by decide +kernel
theorem dX4_melt_23 : decode cX4_melt 23 = .ok (.sipush 2000, 3) := by decide +kernel
theorem dX4_melt_26 : decode cX4_melt 26 = .ok (.if_icmp .le 13, 3) := by decide +kernel
theorem dX4_melt_29 : decode cX4_melt 29 = .ok (.new 45, 3) := by decide +kernel
theorem dX4_melt_32 : decode cX4_melt 32 = .ok (.dup, 1) := by decide +kernel
theorem dX4_melt_33 : decode cX4_melt 33 = .ok (.ldc 144, 2) := by decide +kernel
theorem dX4_melt_35 : decode cX4_melt 35 = .ok (.invokespecial 49, 3) := by decide +kernel
theorem dX4_melt_38 : decode cX4_melt 38 = .ok (.athrow, 1) := by decide +kernel
theorem dX4_melt_39 : decode cX4_melt 39 = .ok (.aload 4, 2) := by decide +kernel
theorem dX4_melt_41 : decode cX4_melt 41 = .ok (.dup, 1) := by decide +kernel
theorem dX4_melt_42 : decode cX4_melt 42 = .ok (.getfield 93, 3) := by decide +kernel
theorem dX4_melt_45 : decode cX4_melt 45 = .ok (.iload_n 3, 1) := by decide +kernel
theorem dX4_melt_46 : decode cX4_melt 46 = .ok (.iadd, 1) := by decide +kernel
theorem dX4_melt_47 : decode cX4_melt 47 = .ok (.putfield 93, 3) := by decide +kernel
theorem dX4_melt_50 : decode cX4_melt 50 = .ok (.aload_n 0, 1) := by decide +kernel
theorem dX4_melt_51 : decode cX4_melt 51 = .ok (.getfield 17, 3) := by decide +kernel
theorem dX4_melt_54 : decode cX4_melt 54 = .ok (.iload_n 1, 1) := by decide +kernel
theorem dX4_melt_55 : decode cX4_melt 55 = .ok (.aconst_null, 1) := by decide +kernel
theorem dX4_melt_56 : decode cX4_melt 56 = .ok (.aastore, 1) := by decide +kernel
theorem dX4_melt_57 : decode cX4_melt 57 = .ok (.aload_n 0, 1) := by decide +kernel
theorem dX4_melt_58 : decode cX4_melt 58 = .ok (.invokevirtual 146, 3) := by decide +kernel
theorem dX4_melt_61 : decode cX4_melt 61 = .ok (.aload 4, 2) := by decide +kernel
theorem dX4_melt_63 : decode cX4_melt 63 = .ok (.getfield 93, 3) := by decide +kernel
theorem dX4_melt_66 : decode cX4_melt 66 = .ok (.ireturn, 1) := by decide +kernel
theorem dX4_box_0 : decode cX4_box 0 = .ok (.iload_n 1, 1) := by decide +kernel
theorem dX4_box_1 : decode cX4_box 1 = .ok (.iconst 1, 1) := by decide +kernel
theorem dX4_box_2 : decode cX4_box 2 = .ok (.if_icmp .lt 19, 3) := by decide +kernel
theorem dX4_box_5 : decode cX4_box 5 = .ok (.iload_n 1, 1) := by decide +kernel
theorem dX4_box_6 : decode cX4_box 6 = .ok (.bipush 36, 2) := by decide +kernel
theorem dX4_box_8 : decode cX4_box 8 = .ok (.if_icmp .gt 13, 3) := by decide +kernel
theorem dX4_box_11 : decode cX4_box 11 = .ok (.iload_n 2, 1) := by decide +kernel
theorem dX4_box_12 : decode cX4_box 12 = .ok (.ifCond .lt 9, 3) := by decide +kernel
theorem dX4_box_15 : decode cX4_box 15 = .ok (.iload_n 2, 1) := by decide +kernel
theorem dX4_box_16 : decode cX4_box 16 = .ok (.bipush 100, 2) := by decide +kernel
theorem dX4_box_18 : decode cX4_box 18 = .ok (.if_icmp .le 13, 3) := by decide +kernel
theorem dX4_box_21 : decode cX4_box 21 = .ok (.new 45, 3) := by decide +kernel
theorem dX4_box_24 : decode cX4_box 24 = .ok (.dup, 1) := by decide +kernel
theorem dX4_box_25 : decode cX4_box 25 = .ok (.ldc 149, 2) := by decide +kernel
theorem dX4_box_27 : decode cX4_box 27 = .ok (.invokespecial 49, 3) := by decide +kernel
theorem dX4_box_30 : decode cX4_box 30 = .ok (.athrow, 1) := by decide +kernel
theorem dX4_box_31 : decode cX4_box 31 = .ok (.aload_n 0, 1) := by decide +kernel
theorem dX4_box_32 : decode cX4_box 32 = .ok (.getfield 151, 3) := by decide +kernel
theorem dX4_box_35 : decode cX4_box 35 = .ok (.istore_n 3, 1) := by decide +kernel
theorem dX4_box_36 : decode cX4_box 36 = .ok (.iload_n 3, 1) := by decide +kernel
theorem dX4_box_37 : decode cX4_box 37 = .ok (.bipush 6, 2) := by decide +kernel
theorem dX4_box_39 : decode cX4_box 39 = .ok (.if_icmp .lt 13, 3) := by decide +kernel
theorem dX4_box_42 : decode cX4_box 42 = .ok (.new 56, 3) := by decide +kernel
theorem dX4_box_45 : decode cX4_box 45 = .ok (.dup, 1) := by decide +kernel
theorem dX4_box_46 : decode cX4_box 46 = .ok (.ldc 154, 2) := by decide +kernel
theorem dX4_box_48 : decode cX4_box 48 = .ok (.invokespecial 60, 3) := by decide +kernel
theorem dX4_box_51 : decode cX4_box 51 = .ok (.athrow, 1) := by decide +kernel
theorem dX4_box_52 : decode cX4_box 52 = .ok (.aload_n 0, 1) := by decide +kernel
theorem dX4_box_53 : decode cX4_box 53 = .ok (.getfield 23, 3) := by decide +kernel
theorem dX4_box_56 : decode cX4_box 56 = .ok (.iload_n 3, 1) := by decide +kernel
theorem dX4_box_57 : decode cX4_box 57 = .ok (.new 21, 3) := by decide +kernel
theorem dX4_box_60 : decode cX4_box 60 = .ok (.dup, 1) := by decide +kernel
theorem dX4_box_61 : decode cX4_box 61 = .ok (.iload_n 1, 1) := by decide +kernel
theorem dX4_box_62 : decode cX4_box 62 = .ok (.iload_n 2, 1) := by decide +kernel
theorem dX4_box_63 : decode cX4_box 63 = .ok (.invokespecial 156, 3) := by decide +kernel
theorem dX4_box_66 : decode cX4_box 66 = .ok (.aastore, 1) := by decide +kernel
theorem dX4_box_67 : decode cX4_box 67 = .ok (.aload_n 0, 1) := by decide +kernel
theorem dX4_box_68 : decode cX4_box 68 = .ok (.iload_n 3, 1) := by decide +kernel
theorem dX4_box_69 : decode cX4_box 69 = .ok (.iconst 1, 1) := by decide +kernel
theorem dX4_box_70 : decode cX4_box 70 = .ok (.iadd, 1) := by decide +kernel
theorem dX4_box_71 : decode cX4_box 71 = .ok (.putfield 151, 3) := by decide +kernel
theorem dX4_box_74 : decode cX4_box 74 = .ok (.iload_n 3, 1) := by decide +kernel
theorem dX4_box_75 : decode cX4_box 75 = .ok (.ireturn, 1) := by decide +kernel
theorem dX4_fill_0 : decode cX4_fill 0 = .ok (.aload_n 0, 1) := by decide +kernel
theorem dX4_fill_1 : decode cX4_fill 1 = .ok (.iconst (-1), 1) := by decide +kernel
theorem dX4_fill_2 : decode cX4_fill 2 = .ok (.invokevirtual 158, 3) := by decide +kernel
theorem dX4_fill_5 : decode cX4_fill 5 = .ok (.istore_n 1, 1) := by decide +kernel
theorem dX4_fill_6 : decode cX4_fill 6 = .ok (.iconst 0, 1) := by decide +kernel
theorem dX4_fill_7 : decode cX4_fill 7 = .ok (.istore_n 2, 1) := by decide +kernel
theorem dX4_fill_8 : decode cX4_fill 8 = .ok (.iload_n 2, 1) := by decide +kernel
theorem dX4_fill_9 : decode cX4_fill 9 = .ok (.bipush 6, 2) := by decide +kernel
theorem dX4_fill_11 : decode cX4_fill 11 = .ok (.if_icmp .ge 25, 3) := by decide +kernel
theorem dX4_fill_14 : decode cX4_fill 14 = .ok (.aload_n 0, 1) := by decide +kernel
theorem dX4_fill_15 : decode cX4_fill 15 = .ok (.aload_n 0, 1) := by decide +kernel
theorem dX4_fill_16 : decode cX4_fill 16 = .ok (.getfield 37, 3) := by decide +kernel
theorem dX4_fill_19 : decode cX4_fill 19 = .ok (.iload_n 2, 1) := by decide +kernel
theorem dX4_fill_20 : decode cX4_fill 20 = .ok (.iaload, 1) := by decide +kernel
theorem dX4_fill_21 : decode cX4_fill 21 = .ok (.aload_n 0, 1) := by decide +kernel
theorem dX4_fill_22 : decode cX4_fill 22 = .ok (.getfield 23, 3) := by decide +kernel
theorem dX4_fill_25 : decode cX4_fill 25 = .ok (.iload_n 2, 1) := by decide +kernel
theorem dX4_fill_26 : decode cX4_fill 26 = .ok (.aaload, 1) := by decide +kernel
theorem dX4_fill_27 : decode cX4_fill 27 = .ok (.invokevirtual 162, 3) := by decide +kernel
theorem dX4_fill_30 : decode cX4_fill 30 = .ok (.iinc 2 1, 3) := by decide +kernel
theorem dX4_fill_33 : decode cX4_fill 33 = .ok (.goto (-25), 3) := by decide +kernel
theorem dX4_fill_36 : decode cX4_fill 36 = .ok (.aload_n 0, 1) := by decide +kernel
theorem dX4_fill_37 : decode cX4_fill 37 = .ok (.invokevirtual 146, 3) := by decide +kernel
theorem dX4_fill_40 : decode cX4_fill 40 = .ok (.iload_n 1, 1) := by decide +kernel
theorem dX4_fill_41 : decode cX4_fill 41 = .ok (.ireturn, 1) := by decide +kernel
theorem dX4_pass_0 : decode cX4_pass 0 = .ok (.iload_n 1, 1) := by decide +kernel
theorem dX4_pass_1 : decode cX4_pass 1 = .ok (.invokestatic 166, 3) := by decide +kernel
theorem dX4_pass_4 : decode cX4_pass 4 = .ok (.iload_n 2, 1) := by decide +kernel
theorem dX4_pass_5 : decode cX4_pass 5 = .ok (.iconst 1, 1) := by decide +kernel
theorem dX4_pass_6 : decode cX4_pass 6 = .ok (.if_icmp .lt 9, 3) := by decide +kernel
theorem dX4_pass_9 : decode cX4_pass 9 = .ok (.iload_n 2, 1) := by decide +kernel
theorem dX4_pass_10 : decode cX4_pass 10 = .ok (.bipush 60, 2) := by decide +kernel
theorem dX4_pass_12 : decode cX4_pass 12 = .ok (.if_icmp .le 13, 3) := by decide +kernel
theorem dX4_pass_15 : decode cX4_pass 15 = .ok (.new 45, 3) := by decide +kernel
theorem dX4_pass_18 : decode cX4_pass 18 = .ok (.dup, 1) := by decide +kernel
theorem dX4_pass_19 : decode cX4_pass 19 = .ok (.ldc 169, 2) := by decide +kernel
theorem dX4_pass_21 : decode cX4_pass 21 = .ok (.invokespecial 49, 3) := by decide +kernel
theorem dX4_pass_24 : decode cX4_pass 24 = .ok (.athrow, 1) := by decide +kernel
theorem dX4_pass_25 : decode cX4_pass 25 = .ok (.aload_n 0, 1) := by decide +kernel
theorem dX4_pass_26 : decode cX4_pass 26 = .ok (.getfield 17, 3) := by decide +kernel
theorem dX4_pass_29 : decode cX4_pass 29 = .ok (.astore_n 3, 1) := by decide +kernel
theorem dX4_pass_30 : decode cX4_pass 30 = .ok (.aload_n 3, 1) := by decide +kernel
theorem dX4_pass_31 : decode cX4_pass 31 = .ok (.arraylength, 1) := by decide +kernel
theorem dX4_pass_32 : decode cX4_pass 32 = .ok (.istore 4, 2) := by decide +kernel
theorem dX4_pass_34 : decode cX4_pass 34 = .ok (.iconst 0, 1) := by decide +kernel
theorem dX4_pass_35 : decode cX4_pass 35 = .ok (.istore 5, 2) := by decide +kernel
theorem dX4_pass_37 : decode cX4_pass 37 = .ok (.iload 5, 2) := by decide +kernel
theorem dX4_pass_39 : decode cX4_pass 39 = .ok (.iload 4, 2) := by decide +kernel
theorem dX4_pass_41 : decode cX4_pass 41 = .ok (.if_icmp .ge 27, 3) := by decide +kernel
theorem dX4_pass_44 : decode cX4_pass 44 = .ok (.aload_n 3, 1) := by decide +kernel
theorem dX4_pass_45 : decode cX4_pass 45 = .ok (.iload 5, 2) := by decide +kernel
theorem dX4_pass_47 : decode cX4_pass 47 = .ok (.aaload, 1) := by decide +kernel
theorem dX4_pass_48 : decode cX4_pass 48 = .ok (.astore 6, 2) := by decide +kernel
theorem dX4_pass_50 : decode cX4_pass 50 = .ok (.aload 6, 2) := by decide +kernel
theorem dX4_pass_52 : decode cX4_pass 52 = .ok (.ifnull 10, 3) := by decide +kernel
theorem dX4_pass_55 : decode cX4_pass 55 = .ok (.aload 6, 2) := by decide +kernel
theorem dX4_pass_57 : decode cX4_pass 57 = .ok (.iload_n 2, 1) := by decide +kernel
theorem dX4_pass_58 : decode cX4_pass 58 = .ok (.iload_n 1, 1) := by decide +kernel
theorem dX4_pass_59 : decode cX4_pass 59 = .ok (.invokevirtual 171, 3) := by decide +kernel
theorem dX4_pass_62 : decode cX4_pass 62 = .ok (.iinc 5 1, 3) := by decide +kernel
theorem dX4_pass_65 : decode cX4_pass 65 = .ok (.goto (-28), 3) := by decide +kernel
theorem dX4_pass_68 : decode cX4_pass 68 = .ok (.aload_n 0, 1) := by decide +kernel
theorem dX4_pass_69 : decode cX4_pass 69 = .ok (.dup, 1) := by decide +kernel
theorem dX4_pass_70 : decode cX4_pass 70 = .ok (.getfield 174, 3) := by decide +kernel
theorem dX4_pass_73 : decode cX4_pass 73 = .ok (.iload_n 2, 1) := by decide +kernel
theorem dX4_pass_74 : decode cX4_pass 74 = .ok (.iadd, 1) := by decide +kernel
theorem dX4_pass_75 : decode cX4_pass 75 = .ok (.putfield 174, 3) := by decide +kernel
theorem dX4_pass_78 : decode cX4_pass 78 = .ok (.aload_n 0, 1) := by decide +kernel
theorem dX4_pass_79 : decode cX4_pass 79 = .ok (.invokevirtual 177, 3) := by decide +kernel
theorem dX4_pass_82 : decode cX4_pass 82 = .ok (.ireturn, 1) := by decide +kernel
theorem dX4_told_0 : decode cX4_told 0 = .ok (.aload_n 0, 1) := by decide +kernel
theorem dX4_told_1 : decode cX4_told 1 = .ok (.iload_n 1, 1) := by decide +kernel
theorem dX4_told_2 : decode cX4_told 2 = .ok (.invokevirtual 64, 3) := by decide +kernel
theorem dX4_told_5 : decode cX4_told 5 = .ok (.astore_n 3, 1) := by decide +kernel
theorem dX4_told_6 : decode cX4_told 6 = .ok (.iload_n 2, 1) := by decide +kernel
theorem dX4_told_7 : decode cX4_told 7 = .ok (.bipush 7, 2) := by decide +kernel
theorem dX4_told_9 : decode cX4_told 9 = .ok (.invokestatic 180, 3) := by decide +kernel
theorem dX4_told_12 : decode cX4_told 12 = .ok (.iload_n 2, 1) := by decide +kernel
theorem dX4_told_13 : decode cX4_told 13 = .ok (.ifCond .ne 8, 3) := by decide +kernel
theorem dX4_told_16 : decode cX4_told 16 = .ok (.aload_n 3, 1) := by decide +kernel
theorem dX4_told_17 : decode cX4_told 17 = .ok (.getfield 93, 3) := by decide +kernel
theorem dX4_told_20 : decode cX4_told 20 = .ok (.ireturn, 1) := by decide +kernel
theorem dX4_told_21 : decode cX4_told 21 = .ok (.iload_n 2, 1) := by decide +kernel
theorem dX4_told_22 : decode cX4_told 22 = .ok (.iconst 5, 1) := by decide +kernel
theorem dX4_told_23 : decode cX4_told 23 = .ok (.if_icmp .gt 13, 3) := by decide +kernel
theorem dX4_told_26 : decode cX4_told 26 = .ok (.aload_n 3, 1) := by decide +kernel
theorem dX4_told_27 : decode cX4_told 27 = .ok (.getfield 75, 3) := by decide +kernel
theorem dX4_told_30 : decode cX4_told 30 = .ok (.getfield 90, 3) := by decide +kernel
theorem dX4_told_33 : decode cX4_told 33 = .ok (.iload_n 2, 1) := by decide +kernel
theorem dX4_told_34 : decode cX4_told 34 = .ok (.iaload, 1) := by decide +kernel
theorem dX4_told_35 : decode cX4_told 35 = .ok (.ireturn, 1) := by decide +kernel
theorem dX4_told_36 : decode cX4_told 36 = .ok (.iload_n 2, 1) := by decide +kernel
theorem dX4_told_37 : decode cX4_told 37 = .ok (.bipush 6, 2) := by decide +kernel
theorem dX4_told_39 : decode cX4_told 39 = .ok (.if_icmp .ne 10, 3) := by decide +kernel
theorem dX4_told_42 : decode cX4_told 42 = .ok (.aload_n 3, 1) := by decide +kernel
theorem dX4_told_43 : decode cX4_told 43 = .ok (.getfield 72, 3) := by decide +kernel
theorem dX4_told_46 : decode cX4_told 46 = .ok (.goto 10, 3) := by decide +kernel
theorem dX4_told_49 : decode cX4_told 49 = .ok (.aload_n 3, 1) := by decide +kernel
theorem dX4_told_50 : decode cX4_told 50 = .ok (.getfield 75, 3) := by decide +kernel
theorem dX4_told_53 : decode cX4_told 53 = .ok (.invokevirtual 81, 3) := by decide +kernel
theorem dX4_told_56 : decode cX4_told 56 = .ok (.ireturn, 1) := by decide +kernel
theorem dX4_about_0 : decode cX4_about 0 = .ok (.aload_n 0, 1) := by decide +kernel
theorem dX4_about_1 : decode cX4_about 1 = .ok (.iload_n 1, 1) := by decide +kernel
theorem dX4_about_2 : decode cX4_about 2 = .ok (.invokevirtual 115, 3) := by decide +kernel
theorem dX4_about_5 : decode cX4_about 5 = .ok (.astore_n 3, 1) := by decide +kernel
theorem dX4_about_6 : decode cX4_about 6 = .ok (.iload_n 2, 1) := by decide +kernel
theorem dX4_about_7 : decode cX4_about 7 = .ok (.bipush 6, 2) := by decide +kernel
theorem dX4_about_9 : decode cX4_about 9 = .ok (.invokestatic 180, 3) := by decide +kernel
theorem dX4_about_12 : decode cX4_about 12 = .ok (.iload_n 2, 1) := by decide +kernel
theorem dX4_about_13 : decode cX4_about 13 = .ok (.tableswitch 69 0 5 #[39, 44, 49, 54, 59, 64], 39) := by decide +kernel
theorem dX4_about_52 : decode cX4_about 52 = .ok (.aload_n 3, 1) := by decide +kernel
theorem dX4_about_53 : decode cX4_about 53 = .ok (.getfield 128, 3) := by decide +kernel
theorem dX4_about_56 : decode cX4_about 56 = .ok (.ireturn, 1) := by decide +kernel
theorem dX4_about_57 : decode cX4_about 57 = .ok (.aload_n 3, 1) := by decide +kernel
theorem dX4_about_58 : decode cX4_about 58 = .ok (.getfield 125, 3) := by decide +kernel
theorem dX4_about_61 : decode cX4_about 61 = .ok (.ireturn, 1) := by decide +kernel
theorem dX4_about_62 : decode cX4_about 62 = .ok (.aload_n 3, 1) := by decide +kernel
theorem dX4_about_63 : decode cX4_about 63 = .ok (.getfield 183, 3) := by decide +kernel
theorem dX4_about_66 : decode cX4_about 66 = .ok (.ireturn, 1) := by decide +kernel
theorem dX4_about_67 : decode cX4_about 67 = .ok (.aload_n 3, 1) := by decide +kernel
theorem dX4_about_68 : decode cX4_about 68 = .ok (.getfield 122, 3) := by decide +kernel
theorem dX4_about_71 : decode cX4_about 71 = .ok (.ireturn, 1) := by decide +kernel
theorem dX4_about_72 : decode cX4_about 72 = .ok (.aload_n 3, 1) := by decide +kernel
theorem dX4_about_73 : decode cX4_about 73 = .ok (.getfield 185, 3) := by decide +kernel
theorem dX4_about_76 : decode cX4_about 76 = .ok (.ireturn, 1) := by decide +kernel
theorem dX4_about_77 : decode cX4_about 77 = .ok (.aload_n 3, 1) := by decide +kernel
theorem dX4_about_78 : decode cX4_about 78 = .ok (.invokevirtual 188, 3) := by decide +kernel
theorem dX4_about_81 : decode cX4_about 81 = .ok (.ireturn, 1) := by decide +kernel
theorem dX4_about_82 : decode cX4_about 82 = .ok (.aload_n 0, 1) := by decide +kernel
theorem dX4_about_83 : decode cX4_about 83 = .ok (.aload_n 3, 1) := by decide +kernel
theorem dX4_about_84 : decode cX4_about 84 = .ok (.invokevirtual 191, 3) := by decide +kernel
theorem dX4_about_87 : decode cX4_about 87 = .ok (.ireturn, 1) := by decide +kernel
theorem dX4_order_0 : decode cX4_order 0 = .ok (.aload_n 0, 1) := by decide +kernel
theorem dX4_order_1 : decode cX4_order 1 = .ok (.iload_n 1, 1) := by decide +kernel
theorem dX4_order_2 : decode cX4_order 2 = .ok (.invokevirtual 194, 3) := by decide +kernel
theorem dX4_order_5 : decode cX4_order 5 = .ok (.astore_n 3, 1) := by decide +kernel
theorem dX4_order_6 : decode cX4_order 6 = .ok (.iload_n 2, 1) := by decide +kernel
theorem dX4_order_7 : decode cX4_order 7 = .ok (.iconst 4, 1) := by decide +kernel
theorem dX4_order_8 : decode cX4_order 8 = .ok (.invokestatic 180, 3) := by decide +kernel
theorem dX4_order_11 : decode cX4_order 11 = .ok (.iload_n 2, 1) := by decide +kernel
theorem dX4_order_12 : decode cX4_order 12 = .ok (.tableswitch 60 0 3 #[32, 37, 42, 55], 32) := by decide +kernel
theorem dX4_order_44 : decode cX4_order 44 = .ok (.aload_n 3, 1) := by decide +kernel
theorem dX4_order_45 : decode cX4_order 45 = .ok (.getfield 198, 3) := by decide +kernel
theorem dX4_order_48 : decode cX4_order 48 = .ok (.ireturn, 1) := by decide +kernel
theorem dX4_order_49 : decode cX4_order 49 = .ok (.aload_n 3, 1) := by decide +kernel
theorem dX4_order_50 : decode cX4_order 50 = .ok (.getfield 200, 3) := by decide +kernel
theorem dX4_order_53 : decode cX4_order 53 = .ok (.ireturn, 1) := by decide +kernel
theorem dX4_order_54 : decode cX4_order 54 = .ok (.aload_n 3, 1) := by decide +kernel
theorem dX4_order_55 : decode cX4_order 55 = .ok (.getfield 201, 3) := by decide +kernel
theorem dX4_order_58 : decode cX4_order 58 = .ok (.ifCond .eq 7, 3) := by decide +kernel
theorem dX4_order_61 : decode cX4_order 61 = .ok (.iconst 1, 1) := by decide +kernel
theorem dX4_order_62 : decode cX4_order 62 = .ok (.goto 4, 3) := by decide +kernel
theorem dX4_order_65 : decode cX4_order 65 = .ok (.iconst 0, 1) := by decide +kernel
theorem dX4_order_66 : decode cX4_order 66 = .ok (.ireturn, 1) := by decide +kernel
theorem dX4_order_67 : decode cX4_order 67 = .ok (.aload_n 3, 1) := by decide +kernel
theorem dX4_order_68 : decode cX4_order 68 = .ok (.getfield 205, 3) := by decide +kernel
theorem dX4_order_71 : decode cX4_order 71 = .ok (.ireturn, 1) := by decide +kernel
theorem dX4_order_72 : decode cX4_order 72 = .ok (.aload_n 3, 1) := by decide +kernel
theorem dX4_order_73 : decode cX4_order 73 = .ok (.getfield 208, 3) := by decide +kernel
theorem dX4_order_76 : decode cX4_order 76 = .ok (.ireturn, 1) := by decide +kernel
theorem dX4_count_0 : decode cX4_count 0 = .ok (.iload_n 1, 1) := by decide +kernel
theorem dX4_count_1 : decode cX4_count 1 = .ok (.bipush 7, 2) := by decide +kernel
theorem dX4_count_3 : decode cX4_count 3 = .ok (.invokestatic 180, 3) := by decide +kernel
theorem dX4_count_6 : decode cX4_count 6 = .ok (.iload_n 1, 1) := by decide +kernel
theorem dX4_count_7 : decode cX4_count 7 = .ok (.tableswitch 76 0 6 #[41, 46, 51, 56, 61, 66, 71], 41) := by decide +kernel
theorem dX4_count_48 : decode cX4_count 48 = .ok (.aload_n 0, 1) := by decide +kernel
theorem dX4_count_49 : decode cX4_count 49 = .ok (.getfield 174, 3) := by decide +kernel
theorem dX4_count_52 : decode cX4_count 52 = .ok (.ireturn, 1) := by decide +kernel
theorem dX4_count_53 : decode cX4_count 53 = .ok (.aload_n 0, 1) := by decide +kernel
theorem dX4_count_54 : decode cX4_count 54 = .ok (.getfield 52, 3) := by decide +kernel
theorem dX4_count_57 : decode cX4_count 57 = .ok (.ireturn, 1) := by decide +kernel
theorem dX4_count_58 : decode cX4_count 58 = .ok (.aload_n 0, 1) := by decide +kernel
theorem dX4_count_59 : decode cX4_count 59 = .ok (.getfield 211, 3) := by decide +kernel
theorem dX4_count_62 : decode cX4_count 62 = .ok (.ireturn, 1) := by decide +kernel
theorem dX4_count_63 : decode cX4_count 63 = .ok (.aload_n 0, 1) := by decide +kernel
theorem dX4_count_64 : decode cX4_count 64 = .ok (.getfield 151, 3) := by decide +kernel
theorem dX4_count_67 : decode cX4_count 67 = .ok (.ireturn, 1) := by decide +kernel
theorem dX4_count_68 : decode cX4_count 68 = .ok (.aload_n 0, 1) := by decide +kernel
theorem dX4_count_69 : decode cX4_count 69 = .ok (.invokevirtual 214, 3) := by decide +kernel
theorem dX4_count_72 : decode cX4_count 72 = .ok (.ireturn, 1) := by decide +kernel
theorem dX4_count_73 : decode cX4_count 73 = .ok (.aload_n 0, 1) := by decide +kernel
theorem dX4_count_74 : decode cX4_count 74 = .ok (.invokevirtual 217, 3) := by decide +kernel
theorem dX4_count_77 : decode cX4_count 77 = .ok (.ireturn, 1) := by decide +kernel
theorem dX4_count_78 : decode cX4_count 78 = .ok (.aload_n 0, 1) := by decide +kernel
theorem dX4_count_79 : decode cX4_count 79 = .ok (.invokevirtual 220, 3) := by decide +kernel
theorem dX4_count_82 : decode cX4_count 82 = .ok (.ireturn, 1) := by decide +kernel
theorem dX4_count_83 : decode cX4_count 83 = .ok (.aload_n 0, 1) := by decide +kernel
theorem dX4_count_84 : decode cX4_count 84 = .ok (.invokevirtual 177, 3) := by decide +kernel
theorem dX4_count_87 : decode cX4_count 87 = .ok (.ireturn, 1) := by decide +kernel
theorem dX4_mean_0 : decode cX4_mean 0 = .ok (.iconst 0, 1) := by decide +kernel
theorem dX4_mean_1 : decode cX4_mean 1 = .ok (.istore_n 1, 1) := by decide +kernel
theorem dX4_mean_2 : decode cX4_mean 2 = .ok (.aload_n 0, 1) := by decide +kernel
theorem dX4_mean_3 : decode cX4_mean 3 = .ok (.getfield 17, 3) := by decide +kernel
theorem dX4_mean_6 : decode cX4_mean 6 = .ok (.astore_n 2, 1) := by decide +kernel
theorem dX4_mean_7 : decode cX4_mean 7 = .ok (.aload_n 2, 1) := by decide +kernel
theorem dX4_mean_8 : decode cX4_mean 8 = .ok (.arraylength, 1) := by decide +kernel
theorem dX4_mean_9 : decode cX4_mean 9 = .ok (.istore_n 3, 1) := by decide +kernel
theorem dX4_mean_10 : decode cX4_mean 10 = .ok (.iconst 0, 1) := by decide +kernel
theorem dX4_mean_11 : decode cX4_mean 11 = .ok (.istore 4, 2) := by decide +kernel
theorem dX4_mean_13 : decode cX4_mean 13 = .ok (.iload 4, 2) := by decide +kernel
theorem dX4_mean_15 : decode cX4_mean 15 = .ok (.iload_n 3, 1) := by decide +kernel
theorem dX4_mean_16 : decode cX4_mean 16 = .ok (.if_icmp .ge 28, 3) := by decide +kernel
theorem dX4_mean_19 : decode cX4_mean 19 = .ok (.aload_n 2, 1) := by decide +kernel
theorem dX4_mean_20 : decode cX4_mean 20 = .ok (.iload 4, 2) := by decide +kernel
theorem dX4_mean_22 : decode cX4_mean 22 = .ok (.aaload, 1) := by decide +kernel
theorem dX4_mean_23 : decode cX4_mean 23 = .ok (.astore 5, 2) := by decide +kernel
theorem dX4_mean_25 : decode cX4_mean 25 = .ok (.aload 5, 2) := by decide +kernel
theorem dX4_mean_27 : decode cX4_mean 27 = .ok (.ifnull 11, 3) := by decide +kernel
theorem dX4_mean_30 : decode cX4_mean 30 = .ok (.iload_n 1, 1) := by decide +kernel
theorem dX4_mean_31 : decode cX4_mean 31 = .ok (.aload 5, 2) := by decide +kernel
theorem dX4_mean_33 : decode cX4_mean 33 = .ok (.getfield 122, 3) := by decide +kernel
theorem dX4_mean_36 : decode cX4_mean 36 = .ok (.iadd, 1) := by decide +kernel
theorem dX4_mean_37 : decode cX4_mean 37 = .ok (.istore_n 1, 1) := by decide +kernel
theorem dX4_mean_38 : decode cX4_mean 38 = .ok (.iinc 4 1, 3) := by decide +kernel
theorem dX4_mean_41 : decode cX4_mean 41 = .ok (.goto (-28), 3) := by decide +kernel
theorem dX4_mean_44 : decode cX4_mean 44 = .ok (.aload_n 0, 1) := by decide +kernel
theorem dX4_mean_45 : decode cX4_mean 45 = .ok (.getfield 211, 3) := by decide +kernel
theorem dX4_mean_48 : decode cX4_mean 48 = .ok (.ifCond .gt 7, 3) := by decide +kernel
theorem dX4_mean_51 : decode cX4_mean 51 = .ok (.dconst 0, 1) := by decide +kernel
theorem dX4_mean_52 : decode cX4_mean 52 = .ok (.goto 11, 3) := by decide +kernel
theorem dX4_mean_55 : decode cX4_mean 55 = .ok (.iload_n 1, 1) := by decide +kernel
theorem dX4_mean_56 : decode cX4_mean 56 = .ok (.i2d, 1) := by decide +kernel
theorem dX4_mean_57 : decode cX4_mean 57 = .ok (.aload_n 0, 1) := by decide +kernel
theorem dX4_mean_58 : decode cX4_mean 58 = .ok (.getfield 211, 3) := by decide +kernel
theorem dX4_mean_61 : decode cX4_mean 61 = .ok (.i2d, 1) := by decide +kernel
theorem dX4_mean_62 : decode cX4_mean 62 = .ok (.ddiv, 1) := by decide +kernel
theorem dX4_mean_63 : decode cX4_mean 63 = .ok (.dreturn, 1) := by decide +kernel
theorem dX4_checkWarming_0 : decode cX4_checkWarming 0 = .ok (.iload_n 0, 1) := by decide +kernel
theorem dX4_checkWarming_1 : decode cX4_checkWarming 1 = .ok (.bipush 15, 2) := by decide +kernel
theorem dX4_checkWarming_3 : decode cX4_checkWarming 3 = .ok (.if_icmp .lt 20, 3) := by decide +kernel
theorem dX4_checkWarming_6 : decode cX4_checkWarming 6 = .ok (.iload_n 0, 1) := by decide +kernel
theorem dX4_checkWarming_7 : decode cX4_checkWarming 7 = .ok (.bipush 50, 2) := by decide +kernel
theorem dX4_checkWarming_9 : decode cX4_checkWarming 9 = .ok (.if_icmp .gt 14, 3) := by decide +kernel
theorem dX4_checkWarming_12 : decode cX4_checkWarming 12 = .ok (.iload_n 1, 1) := by decide +kernel
theorem dX4_checkWarming_13 : decode cX4_checkWarming 13 = .ok (.iconst 1, 1) := by decide +kernel
theorem dX4_checkWarming_14 : decode cX4_checkWarming 14 = .ok (.if_icmp .lt 9, 3) := by decide +kernel
theorem dX4_checkWarming_17 : decode cX4_checkWarming 17 = .ok (.iload_n 1, 1) := by decide +kernel
theorem dX4_checkWarming_18 : decode cX4_checkWarming 18 = .ok (.bipush 40, 2) := by decide +kernel
theorem dX4_checkWarming_20 : decode cX4_checkWarming 20 = .ok (.if_icmp .le 13, 3) := by decide +kernel
theorem dX4_checkWarming_23 : decode cX4_checkWarming 23 = .ok (.new 45, 3) := by decide +kernel
theorem dX4_checkWarming_26 : decode cX4_checkWarming 26 = .ok (.dup, 1) := by decide +kernel
theorem dX4_checkWarming_27 : decode cX4_checkWarming 27 = .ok (.ldc 253, 2) := by decide +kernel
theorem dX4_checkWarming_29 : decode cX4_checkWarming 29 = .ok (.invokespecial 49, 3) := by decide +kernel
theorem dX4_checkWarming_32 : decode cX4_checkWarming 32 = .ok (.athrow, 1) := by decide +kernel
theorem dX4_checkWarming_33 : decode cX4_checkWarming 33 = .ok (.return_, 1) := by decide +kernel
theorem dX4_checkRoom_0 : decode cX4_checkRoom 0 = .ok (.iload_n 0, 1) := by decide +kernel
theorem dX4_checkRoom_1 : decode cX4_checkRoom 1 = .ok (.bipush 10, 2) := by decide +kernel
theorem dX4_checkRoom_3 : decode cX4_checkRoom 3 = .ok (.if_icmp .lt 9, 3) := by decide +kernel
theorem dX4_checkRoom_6 : decode cX4_checkRoom 6 = .ok (.iload_n 0, 1) := by decide +kernel
theorem dX4_checkRoom_7 : decode cX4_checkRoom 7 = .ok (.bipush 40, 2) := by decide +kernel
theorem dX4_checkRoom_9 : decode cX4_checkRoom 9 = .ok (.if_icmp .le 13, 3) := by decide +kernel
theorem dX4_checkRoom_12 : decode cX4_checkRoom 12 = .ok (.new 45, 3) := by decide +kernel
theorem dX4_checkRoom_15 : decode cX4_checkRoom 15 = .ok (.dup, 1) := by decide +kernel
theorem dX4_checkRoom_16 : decode cX4_checkRoom 16 = .ok (.ldc 255, 2) := by decide +kernel
theorem dX4_checkRoom_18 : decode cX4_checkRoom 18 = .ok (.invokespecial 49, 3) := by decide +kernel
theorem dX4_checkRoom_21 : decode cX4_checkRoom 21 = .ok (.athrow, 1) := by decide +kernel
theorem dX4_checkRoom_22 : decode cX4_checkRoom 22 = .ok (.return_, 1) := by decide +kernel
theorem dX4_checkWhat_0 : decode cX4_checkWhat 0 = .ok (.iload_n 0, 1) := by decide +kernel
theorem dX4_checkWhat_1 : decode cX4_checkWhat 1 = .ok (.ifCond .lt 8, 3) := by decide +kernel
theorem dX4_checkWhat_4 : decode cX4_checkWhat 4 = .ok (.iload_n 0, 1) := by decide +kernel
theorem dX4_checkWhat_5 : decode cX4_checkWhat 5 = .ok (.iload_n 1, 1) := by decide +kernel
theorem dX4_checkWhat_6 : decode cX4_checkWhat 6 = .ok (.if_icmp .le 14, 3) := by decide +kernel
theorem dX4_checkWhat_9 : decode cX4_checkWhat 9 = .ok (.new 131, 3) := by decide +kernel
theorem dX4_checkWhat_12 : decode cX4_checkWhat 12 = .ok (.dup, 1) := by decide +kernel
theorem dX4_checkWhat_13 : decode cX4_checkWhat 13 = .ok (.ldc_w 257, 3) := by decide +kernel
theorem dX4_checkWhat_16 : decode cX4_checkWhat 16 = .ok (.invokespecial 135, 3) := by decide +kernel
theorem dX4_checkWhat_19 : decode cX4_checkWhat 19 = .ok (.athrow, 1) := by decide +kernel
theorem dX4_checkWhat_20 : decode cX4_checkWhat 20 = .ok (.return_, 1) := by decide +kernel
theorem dX4_bowlAt_0 : decode cX4_bowlAt 0 = .ok (.iload_n 1, 1) := by decide +kernel
theorem dX4_bowlAt_1 : decode cX4_bowlAt 1 = .ok (.ifCond .lt 8, 3) := by decide +kernel
theorem dX4_bowlAt_4 : decode cX4_bowlAt 4 = .ok (.iload_n 1, 1) := by decide +kernel
theorem dX4_bowlAt_5 : decode cX4_bowlAt 5 = .ok (.iconst 5, 1) := by decide +kernel
theorem dX4_bowlAt_6 : decode cX4_bowlAt 6 = .ok (.if_icmp .lt 7, 3) := by decide +kernel
theorem dX4_bowlAt_9 : decode cX4_bowlAt 9 = .ok (.aconst_null, 1) := by decide +kernel
theorem dX4_bowlAt_10 : decode cX4_bowlAt 10 = .ok (.goto 9, 3) := by decide +kernel
theorem dX4_bowlAt_13 : decode cX4_bowlAt 13 = .ok (.aload_n 0, 1) := by decide +kernel
theorem dX4_bowlAt_14 : decode cX4_bowlAt 14 = .ok (.getfield 11, 3) := by decide +kernel
theorem dX4_bowlAt_17 : decode cX4_bowlAt 17 = .ok (.iload_n 1, 1) := by decide +kernel
theorem dX4_bowlAt_18 : decode cX4_bowlAt 18 = .ok (.aaload, 1) := by decide +kernel
theorem dX4_bowlAt_19 : decode cX4_bowlAt 19 = .ok (.astore_n 2, 1) := by decide +kernel
theorem dX4_bowlAt_20 : decode cX4_bowlAt 20 = .ok (.aload_n 2, 1) := by decide +kernel
theorem dX4_bowlAt_21 : decode cX4_bowlAt 21 = .ok (.ifnonnull 14, 3) := by decide +kernel
theorem dX4_bowlAt_24 : decode cX4_bowlAt 24 = .ok (.new 131, 3) := by decide +kernel
theorem dX4_bowlAt_27 : decode cX4_bowlAt 27 = .ok (.dup, 1) := by decide +kernel
theorem dX4_bowlAt_28 : decode cX4_bowlAt 28 = .ok (.ldc_w 259, 3) := by decide +kernel
theorem dX4_bowlAt_31 : decode cX4_bowlAt 31 = .ok (.invokespecial 135, 3) := by decide +kernel
theorem dX4_bowlAt_34 : decode cX4_bowlAt 34 = .ok (.athrow, 1) := by decide +kernel
theorem dX4_bowlAt_35 : decode cX4_bowlAt 35 = .ok (.aload_n 2, 1) := by decide +kernel
theorem dX4_bowlAt_36 : decode cX4_bowlAt 36 = .ok (.areturn, 1) := by decide +kernel
theorem dX4_slabAt_0 : decode cX4_slabAt 0 = .ok (.aload_n 0, 1) := by decide +kernel
theorem dX4_slabAt_1 : decode cX4_slabAt 1 = .ok (.iload_n 1, 1) := by decide +kernel
theorem dX4_slabAt_2 : decode cX4_slabAt 2 = .ok (.invokevirtual 261, 3) := by decide +kernel
theorem dX4_slabAt_5 : decode cX4_slabAt 5 = .ok (.astore_n 2, 1) := by decide +kernel
theorem dX4_slabAt_6 : decode cX4_slabAt 6 = .ok (.aload_n 2, 1) := by decide +kernel
theorem dX4_slabAt_7 : decode cX4_slabAt 7 = .ok (.ifnonnull 14, 3) := by decide +kernel
theorem dX4_slabAt_10 : decode cX4_slabAt 10 = .ok (.new 131, 3) := by decide +kernel
theorem dX4_slabAt_13 : decode cX4_slabAt 13 = .ok (.dup, 1) := by decide +kernel
theorem dX4_slabAt_14 : decode cX4_slabAt 14 = .ok (.ldc_w 264, 3) := by decide +kernel
theorem dX4_slabAt_17 : decode cX4_slabAt 17 = .ok (.invokespecial 135, 3) := by decide +kernel
theorem dX4_slabAt_20 : decode cX4_slabAt 20 = .ok (.athrow, 1) := by decide +kernel
theorem dX4_slabAt_21 : decode cX4_slabAt 21 = .ok (.aload_n 2, 1) := by decide +kernel
theorem dX4_slabAt_22 : decode cX4_slabAt 22 = .ok (.areturn, 1) := by decide +kernel
theorem dX4_findSlab_0 : decode cX4_findSlab 0 = .ok (.iload_n 1, 1) := by decide +kernel
theorem dX4_findSlab_1 : decode cX4_findSlab 1 = .ok (.ifCond .lt 9, 3) := by decide +kernel
theorem dX4_findSlab_4 : decode cX4_findSlab 4 = .ok (.iload_n 1, 1) := by decide +kernel
theorem dX4_findSlab_5 : decode cX4_findSlab 5 = .ok (.bipush 8, 2) := by decide +kernel
theorem dX4_findSlab_7 : decode cX4_findSlab 7 = .ok (.if_icmp .lt 7, 3) := by decide +kernel
theorem dX4_findSlab_10 : decode cX4_findSlab 10 = .ok (.aconst_null, 1) := by decide +kernel
theorem dX4_findSlab_11 : decode cX4_findSlab 11 = .ok (.goto 9, 3) := by decide +kernel
theorem dX4_findSlab_14 : decode cX4_findSlab 14 = .ok (.aload_n 0, 1) := by decide +kernel
theorem dX4_findSlab_15 : decode cX4_findSlab 15 = .ok (.getfield 17, 3) := by decide +kernel
theorem dX4_findSlab_18 : decode cX4_findSlab 18 = .ok (.iload_n 1, 1) := by decide +kernel
theorem dX4_findSlab_19 : decode cX4_findSlab 19 = .ok (.aaload, 1) := by decide +kernel
theorem dX4_findSlab_20 : decode cX4_findSlab 20 = .ok (.areturn, 1) := by decide +kernel
theorem dX4_boxAt_0 : decode cX4_boxAt 0 = .ok (.iload_n 1, 1) := by decide +kernel
theorem dX4_boxAt_1 : decode cX4_boxAt 1 = .ok (.ifCond .lt 9, 3) := by decide +kernel
theorem dX4_boxAt_4 : decode cX4_boxAt 4 = .ok (.iload_n 1, 1) := by decide +kernel
theorem dX4_boxAt_5 : decode cX4_boxAt 5 = .ok (.bipush 6, 2) := by decide +kernel
theorem dX4_boxAt_7 : decode cX4_boxAt 7 = .ok (.if_icmp .lt 7, 3) := by decide +kernel
theorem dX4_boxAt_10 : decode cX4_boxAt 10 = .ok (.aconst_null, 1) := by decide +kernel
theorem dX4_boxAt_11 : decode cX4_boxAt 11 = .ok (.goto 9, 3) := by decide +kernel
theorem dX4_boxAt_14 : decode cX4_boxAt 14 = .ok (.aload_n 0, 1) := by decide +kernel
theorem dX4_boxAt_15 : decode cX4_boxAt 15 = .ok (.getfield 23, 3) := by decide +kernel
theorem dX4_boxAt_18 : decode cX4_boxAt 18 = .ok (.iload_n 1, 1) := by decide +kernel
theorem dX4_boxAt_19 : decode cX4_boxAt 19 = .ok (.aaload, 1) := by decide +kernel
theorem dX4_boxAt_20 : decode cX4_boxAt 20 = .ok (.astore_n 2, 1) := by decide +kernel
theorem dX4_boxAt_21 : decode cX4_boxAt 21 = .ok (.aload_n 2, 1) := by decide +kernel
theorem dX4_boxAt_22 : decode cX4_boxAt 22 = .ok (.ifnonnull 14, 3) := by decide +kernel
theorem dX4_boxAt_25 : decode cX4_boxAt 25 = .ok (.new 131, 3) := by decide +kernel
theorem dX4_boxAt_28 : decode cX4_boxAt 28 = .ok (.dup, 1) := by decide +kernel
theorem dX4_boxAt_29 : decode cX4_boxAt 29 = .ok (.ldc_w 266, 3) := by decide +kernel
theorem dX4_boxAt_32 : decode cX4_boxAt 32 = .ok (.invokespecial 135, 3) := by decide +kernel
theorem dX4_boxAt_35 : decode cX4_boxAt 35 = .ok (.athrow, 1) := by decide +kernel
theorem dX4_boxAt_36 : decode cX4_boxAt 36 = .ok (.aload_n 2, 1) := by decide +kernel
theorem dX4_boxAt_37 : decode cX4_boxAt 37 = .ok (.areturn, 1) := by decide +kernel
theorem dX4_addSlab_0 : decode cX4_addSlab 0 = .ok (.aload_n 0, 1) := by decide +kernel
theorem dX4_addSlab_1 : decode cX4_addSlab 1 = .ok (.getfield 211, 3) := by decide +kernel
theorem dX4_addSlab_4 : decode cX4_addSlab 4 = .ok (.istore_n 2, 1) := by decide +kernel
theorem dX4_addSlab_5 : decode cX4_addSlab 5 = .ok (.iload_n 2, 1) := by decide +kernel
theorem dX4_addSlab_6 : decode cX4_addSlab 6 = .ok (.bipush 8, 2) := by decide +kernel
theorem dX4_addSlab_8 : decode cX4_addSlab 8 = .ok (.if_icmp .lt 14, 3) := by decide +kernel
theorem dX4_addSlab_11 : decode cX4_addSlab 11 = .ok (.new 56, 3) := by decide +kernel
theorem dX4_addSlab_14 : decode cX4_addSlab 14 = .ok (.dup, 1) := by decide +kernel
theorem dX4_addSlab_15 : decode cX4_addSlab 15 = .ok (.ldc_w 268, 3) := by decide +kernel
theorem dX4_addSlab_18 : decode cX4_addSlab 18 = .ok (.invokespecial 60, 3) := by decide +kernel
theorem dX4_addSlab_21 : decode cX4_addSlab 21 = .ok (.athrow, 1) := by decide +kernel
theorem dX4_addSlab_22 : decode cX4_addSlab 22 = .ok (.aload_n 0, 1) := by decide +kernel
theorem dX4_addSlab_23 : decode cX4_addSlab 23 = .ok (.getfield 17, 3) := by decide +kernel
theorem dX4_addSlab_26 : decode cX4_addSlab 26 = .ok (.iload_n 2, 1) := by decide +kernel
theorem dX4_addSlab_27 : decode cX4_addSlab 27 = .ok (.aload_n 1, 1) := by decide +kernel
theorem dX4_addSlab_28 : decode cX4_addSlab 28 = .ok (.aastore, 1) := by decide +kernel
theorem dX4_addSlab_29 : decode cX4_addSlab 29 = .ok (.aload_n 0, 1) := by decide +kernel
theorem dX4_addSlab_30 : decode cX4_addSlab 30 = .ok (.iload_n 2, 1) := by decide +kernel
theorem dX4_addSlab_31 : decode cX4_addSlab 31 = .ok (.iconst 1, 1) := by decide +kernel
theorem dX4_addSlab_32 : decode cX4_addSlab 32 = .ok (.iadd, 1) := by decide +kernel
theorem dX4_addSlab_33 : decode cX4_addSlab 33 = .ok (.putfield 211, 3) := by decide +kernel
theorem dX4_addSlab_36 : decode cX4_addSlab 36 = .ok (.iload_n 2, 1) := by decide +kernel
theorem dX4_addSlab_37 : decode cX4_addSlab 37 = .ok (.ireturn, 1) := by decide +kernel
theorem dX4_closeGaps_0 : decode cX4_closeGaps 0 = .ok (.iconst 0, 1) := by decide +kernel
theorem dX4_closeGaps_1 : decode cX4_closeGaps 1 = .ok (.istore_n 1, 1) := by decide +kernel
theorem dX4_closeGaps_2 : decode cX4_closeGaps 2 = .ok (.iconst 0, 1) := by decide +kernel
theorem dX4_closeGaps_3 : decode cX4_closeGaps 3 = .ok (.istore_n 2, 1) := by decide +kernel
theorem dX4_closeGaps_4 : decode cX4_closeGaps 4 = .ok (.iload_n 2, 1) := by decide +kernel
theorem dX4_closeGaps_5 : decode cX4_closeGaps 5 = .ok (.bipush 8, 2) := by decide +kernel
theorem dX4_closeGaps_7 : decode cX4_closeGaps 7 = .ok (.if_icmp .ge 37, 3) := by decide +kernel
theorem dX4_closeGaps_10 : decode cX4_closeGaps 10 = .ok (.aload_n 0, 1) := by decide +kernel
theorem dX4_closeGaps_11 : decode cX4_closeGaps 11 = .ok (.getfield 17, 3) := by decide +kernel
theorem dX4_closeGaps_14 : decode cX4_closeGaps 14 = .ok (.iload_n 2, 1) := by decide +kernel
theorem dX4_closeGaps_15 : decode cX4_closeGaps 15 = .ok (.aaload, 1) := by decide +kernel
theorem dX4_closeGaps_16 : decode cX4_closeGaps 16 = .ok (.astore_n 3, 1) := by decide +kernel
theorem dX4_closeGaps_17 : decode cX4_closeGaps 17 = .ok (.aload_n 0, 1) := by decide +kernel
theorem dX4_closeGaps_18 : decode cX4_closeGaps 18 = .ok (.getfield 17, 3) := by decide +kernel
theorem dX4_closeGaps_21 : decode cX4_closeGaps 21 = .ok (.iload_n 2, 1) := by decide +kernel
theorem dX4_closeGaps_22 : decode cX4_closeGaps 22 = .ok (.aconst_null, 1) := by decide +kernel
theorem dX4_closeGaps_23 : decode cX4_closeGaps 23 = .ok (.aastore, 1) := by decide +kernel
theorem dX4_closeGaps_24 : decode cX4_closeGaps 24 = .ok (.aload_n 3, 1) := by decide +kernel
theorem dX4_closeGaps_25 : decode cX4_closeGaps 25 = .ok (.ifnull 13, 3) := by decide +kernel
theorem dX4_closeGaps_28 : decode cX4_closeGaps 28 = .ok (.aload_n 0, 1) := by decide +kernel
theorem dX4_closeGaps_29 : decode cX4_closeGaps 29 = .ok (.getfield 17, 3) := by decide +kernel
theorem dX4_closeGaps_32 : decode cX4_closeGaps 32 = .ok (.iload_n 1, 1) := by decide +kernel
theorem dX4_closeGaps_33 : decode cX4_closeGaps 33 = .ok (.aload_n 3, 1) := by decide +kernel
theorem dX4_closeGaps_34 : decode cX4_closeGaps 34 = .ok (.aastore, 1) := by decide +kernel
theorem dX4_closeGaps_35 : decode cX4_closeGaps 35 = .ok (.iinc 1 1, 3) := by decide +kernel
theorem dX4_closeGaps_38 : decode cX4_closeGaps 38 = .ok (.iinc 2 1, 3) := by decide +kernel
theorem dX4_closeGaps_41 : decode cX4_closeGaps 41 = .ok (.goto (-37), 3) := by decide +kernel
theorem dX4_closeGaps_44 : decode cX4_closeGaps 44 = .ok (.aload_n 0, 1) := by decide +kernel
theorem dX4_closeGaps_45 : decode cX4_closeGaps 45 = .ok (.iload_n 1, 1) := by decide +kernel
theorem dX4_closeGaps_46 : decode cX4_closeGaps 46 = .ok (.putfield 211, 3) := by decide +kernel
theorem dX4_closeGaps_49 : decode cX4_closeGaps 49 = .ok (.return_, 1) := by decide +kernel
theorem dX4_filledBoxes_0 : decode cX4_filledBoxes 0 = .ok (.iconst 0, 1) := by decide +kernel
theorem dX4_filledBoxes_1 : decode cX4_filledBoxes 1 = .ok (.istore_n 1, 1) := by decide +kernel
theorem dX4_filledBoxes_2 : decode cX4_filledBoxes 2 = .ok (.aload_n 0, 1) := by decide +kernel
theorem dX4_filledBoxes_3 : decode cX4_filledBoxes 3 = .ok (.getfield 23, 3) := by decide +kernel
theorem dX4_filledBoxes_6 : decode cX4_filledBoxes 6 = .ok (.astore_n 2, 1) := by decide +kernel
theorem dX4_filledBoxes_7 : decode cX4_filledBoxes 7 = .ok (.aload_n 2, 1) := by decide +kernel
theorem dX4_filledBoxes_8 : decode cX4_filledBoxes 8 = .ok (.arraylength, 1) := by decide +kernel
theorem dX4_filledBoxes_9 : decode cX4_filledBoxes 9 = .ok (.istore_n 3, 1) := by decide +kernel
theorem dX4_filledBoxes_10 : decode cX4_filledBoxes 10 = .ok (.iconst 0, 1) := by decide +kernel
theorem dX4_filledBoxes_11 : decode cX4_filledBoxes 11 = .ok (.istore 4, 2) := by decide +kernel
theorem dX4_filledBoxes_13 : decode cX4_filledBoxes 13 = .ok (.iload 4, 2) := by decide +kernel
theorem dX4_filledBoxes_15 : decode cX4_filledBoxes 15 = .ok (.iload_n 3, 1) := by decide +kernel
theorem dX4_filledBoxes_16 : decode cX4_filledBoxes 16 = .ok (.if_icmp .ge 31, 3) := by decide +kernel
theorem dX4_filledBoxes_19 : decode cX4_filledBoxes 19 = .ok (.aload_n 2, 1) := by decide +kernel
theorem dX4_filledBoxes_20 : decode cX4_filledBoxes 20 = .ok (.iload 4, 2) := by decide +kernel
theorem dX4_filledBoxes_22 : decode cX4_filledBoxes 22 = .ok (.aaload, 1) := by decide +kernel
theorem dX4_filledBoxes_23 : decode cX4_filledBoxes 23 = .ok (.astore 5, 2) := by decide +kernel
theorem dX4_filledBoxes_25 : decode cX4_filledBoxes 25 = .ok (.aload 5, 2) := by decide +kernel
theorem dX4_filledBoxes_27 : decode cX4_filledBoxes 27 = .ok (.ifnull 14, 3) := by decide +kernel
theorem dX4_filledBoxes_30 : decode cX4_filledBoxes 30 = .ok (.aload 5, 2) := by decide +kernel
theorem dX4_filledBoxes_32 : decode cX4_filledBoxes 32 = .ok (.getfield 201, 3) := by decide +kernel
theorem dX4_filledBoxes_35 : decode cX4_filledBoxes 35 = .ok (.ifCond .eq 6, 3) := by decide +kernel
theorem dX4_filledBoxes_38 : decode cX4_filledBoxes 38 = .ok (.iinc 1 1, 3) := by decide +kernel
theorem dX4_filledBoxes_41 : decode cX4_filledBoxes 41 = .ok (.iinc 4 1, 3) := by decide +kernel
theorem dX4_filledBoxes_44 : decode cX4_filledBoxes 44 = .ok (.goto (-31), 3) := by decide +kernel
theorem dX4_filledBoxes_47 : decode cX4_filledBoxes 47 = .ok (.iload_n 1, 1) := by decide +kernel
theorem dX4_filledBoxes_48 : decode cX4_filledBoxes 48 = .ok (.ireturn, 1) := by decide +kernel
theorem dX4_gramsOfBowls_0 : decode cX4_gramsOfBowls 0 = .ok (.iconst 0, 1) := by decide +kernel
theorem dX4_gramsOfBowls_1 : decode cX4_gramsOfBowls 1 = .ok (.istore_n 1, 1) := by decide +kernel
theorem dX4_gramsOfBowls_2 : decode cX4_gramsOfBowls 2 = .ok (.aload_n 0, 1) := by decide +kernel
theorem dX4_gramsOfBowls_3 : decode cX4_gramsOfBowls 3 = .ok (.getfield 11, 3) := by decide +kernel
theorem dX4_gramsOfBowls_6 : decode cX4_gramsOfBowls 6 = .ok (.astore_n 2, 1) := by decide +kernel
theorem dX4_gramsOfBowls_7 : decode cX4_gramsOfBowls 7 = .ok (.aload_n 2, 1) := by decide +kernel
theorem dX4_gramsOfBowls_8 : decode cX4_gramsOfBowls 8 = .ok (.arraylength, 1) := by decide +kernel
theorem dX4_gramsOfBowls_9 : decode cX4_gramsOfBowls 9 = .ok (.istore_n 3, 1) := by decide +kernel
theorem dX4_gramsOfBowls_10 : decode cX4_gramsOfBowls 10 = .ok (.iconst 0, 1) := by decide +kernel
theorem dX4_gramsOfBowls_11 : decode cX4_gramsOfBowls 11 = .ok (.istore 4, 2) := by decide +kernel
theorem dX4_gramsOfBowls_13 : decode cX4_gramsOfBowls 13 = .ok (.iload 4, 2) := by decide +kernel
theorem dX4_gramsOfBowls_15 : decode cX4_gramsOfBowls 15 = .ok (.iload_n 3, 1) := by decide +kernel
theorem dX4_gramsOfBowls_16 : decode cX4_gramsOfBowls 16 = .ok (.if_icmp .ge 28, 3) := by decide +kernel
theorem dX4_gramsOfBowls_19 : decode cX4_gramsOfBowls 19 = .ok (.aload_n 2, 1) := by decide +kernel
theorem dX4_gramsOfBowls_20 : decode cX4_gramsOfBowls 20 = .ok (.iload 4, 2) := by decide +kernel
theorem dX4_gramsOfBowls_22 : decode cX4_gramsOfBowls 22 = .ok (.aaload, 1) := by decide +kernel
theorem dX4_gramsOfBowls_23 : decode cX4_gramsOfBowls 23 = .ok (.astore 5, 2) := by decide +kernel
theorem dX4_gramsOfBowls_25 : decode cX4_gramsOfBowls 25 = .ok (.aload 5, 2) := by decide +kernel
theorem dX4_gramsOfBowls_27 : decode cX4_gramsOfBowls 27 = .ok (.ifnull 11, 3) := by decide +kernel
theorem dX4_gramsOfBowls_30 : decode cX4_gramsOfBowls 30 = .ok (.iload_n 1, 1) := by decide +kernel
theorem dX4_gramsOfBowls_31 : decode cX4_gramsOfBowls 31 = .ok (.aload 5, 2) := by decide +kernel
theorem dX4_gramsOfBowls_33 : decode cX4_gramsOfBowls 33 = .ok (.getfield 93, 3) := by decide +kernel
theorem dX4_gramsOfBowls_36 : decode cX4_gramsOfBowls 36 = .ok (.iadd, 1) := by decide +kernel
theorem dX4_gramsOfBowls_37 : decode cX4_gramsOfBowls 37 = .ok (.istore_n 1, 1) := by decide +kernel
theorem dX4_gramsOfBowls_38 : decode cX4_gramsOfBowls 38 = .ok (.iinc 4 1, 3) := by decide +kernel
theorem dX4_gramsOfBowls_41 : decode cX4_gramsOfBowls 41 = .ok (.goto (-28), 3) := by decide +kernel
theorem dX4_gramsOfBowls_44 : decode cX4_gramsOfBowls 44 = .ok (.iload_n 1, 1) := by decide +kernel
theorem dX4_gramsOfBowls_45 : decode cX4_gramsOfBowls 45 = .ok (.ireturn, 1) := by decide +kernel
theorem dX4_squaresOfSlabs_0 : decode cX4_squaresOfSlabs 0 = .ok (.iconst 0, 1) := by decide +kernel
theorem dX4_squaresOfSlabs_1 : decode cX4_squaresOfSlabs 1 = .ok (.istore_n 1, 1) := by decide +kernel
theorem dX4_squaresOfSlabs_2 : decode cX4_squaresOfSlabs 2 = .ok (.aload_n 0, 1) := by decide +kernel
theorem dX4_squaresOfSlabs_3 : decode cX4_squaresOfSlabs 3 = .ok (.getfield 17, 3) := by decide +kernel
theorem dX4_squaresOfSlabs_6 : decode cX4_squaresOfSlabs 6 = .ok (.astore_n 2, 1) := by decide +kernel
theorem dX4_squaresOfSlabs_7 : decode cX4_squaresOfSlabs 7 = .ok (.aload_n 2, 1) := by decide +kernel
theorem dX4_squaresOfSlabs_8 : decode cX4_squaresOfSlabs 8 = .ok (.arraylength, 1) := by decide +kernel
theorem dX4_squaresOfSlabs_9 : decode cX4_squaresOfSlabs 9 = .ok (.istore_n 3, 1) := by decide +kernel
theorem dX4_squaresOfSlabs_10 : decode cX4_squaresOfSlabs 10 = .ok (.iconst 0, 1) := by decide +kernel
theorem dX4_squaresOfSlabs_11 : decode cX4_squaresOfSlabs 11 = .ok (.istore 4, 2) := by decide +kernel
theorem dX4_squaresOfSlabs_13 : decode cX4_squaresOfSlabs 13 = .ok (.iload 4, 2) := by decide +kernel
theorem dX4_squaresOfSlabs_15 : decode cX4_squaresOfSlabs 15 = .ok (.iload_n 3, 1) := by decide +kernel
theorem dX4_squaresOfSlabs_16 : decode cX4_squaresOfSlabs 16 = .ok (.if_icmp .ge 28, 3) := by decide +kernel
theorem dX4_squaresOfSlabs_19 : decode cX4_squaresOfSlabs 19 = .ok (.aload_n 2, 1) := by decide +kernel
theorem dX4_squaresOfSlabs_20 : decode cX4_squaresOfSlabs 20 = .ok (.iload 4, 2) := by decide +kernel
theorem dX4_squaresOfSlabs_22 : decode cX4_squaresOfSlabs 22 = .ok (.aaload, 1) := by decide +kernel
theorem dX4_squaresOfSlabs_23 : decode cX4_squaresOfSlabs 23 = .ok (.astore 5, 2) := by decide +kernel
theorem dX4_squaresOfSlabs_25 : decode cX4_squaresOfSlabs 25 = .ok (.aload 5, 2) := by decide +kernel
theorem dX4_squaresOfSlabs_27 : decode cX4_squaresOfSlabs 27 = .ok (.ifnull 11, 3) := by decide +kernel
theorem dX4_squaresOfSlabs_30 : decode cX4_squaresOfSlabs 30 = .ok (.iload_n 1, 1) := by decide +kernel
theorem dX4_squaresOfSlabs_31 : decode cX4_squaresOfSlabs 31 = .ok (.aload 5, 2) := by decide +kernel
theorem dX4_squaresOfSlabs_33 : decode cX4_squaresOfSlabs 33 = .ok (.invokevirtual 188, 3) := by decide +kernel
theorem dX4_squaresOfSlabs_36 : decode cX4_squaresOfSlabs 36 = .ok (.iadd, 1) := by decide +kernel
theorem dX4_squaresOfSlabs_37 : decode cX4_squaresOfSlabs 37 = .ok (.istore_n 1, 1) := by decide +kernel
theorem dX4_squaresOfSlabs_38 : decode cX4_squaresOfSlabs 38 = .ok (.iinc 4 1, 3) := by decide +kernel
theorem dX4_squaresOfSlabs_41 : decode cX4_squaresOfSlabs 41 = .ok (.goto (-28), 3) := by decide +kernel
theorem dX4_squaresOfSlabs_44 : decode cX4_squaresOfSlabs 44 = .ok (.iload_n 1, 1) := by decide +kernel
theorem dX4_squaresOfSlabs_45 : decode cX4_squaresOfSlabs 45 = .ok (.ireturn, 1) := by decide +kernel
theorem dX4_bloomedSlabs_0 : decode cX4_bloomedSlabs 0 = .ok (.iconst 0, 1) := by decide +kernel
theorem dX4_bloomedSlabs_1 : decode cX4_bloomedSlabs 1 = .ok (.istore_n 1, 1) := by decide +kernel
theorem dX4_bloomedSlabs_2 : decode cX4_bloomedSlabs 2 = .ok (.aload_n 0, 1) := by decide +kernel
theorem dX4_bloomedSlabs_3 : decode cX4_bloomedSlabs 3 = .ok (.getfield 17, 3) := by decide +kernel
theorem dX4_bloomedSlabs_6 : decode cX4_bloomedSlabs 6 = .ok (.astore_n 2, 1) := by decide +kernel
theorem dX4_bloomedSlabs_7 : decode cX4_bloomedSlabs 7 = .ok (.aload_n 2, 1) := by decide +kernel
theorem dX4_bloomedSlabs_8 : decode cX4_bloomedSlabs 8 = .ok (.arraylength, 1) := by decide +kernel
theorem dX4_bloomedSlabs_9 : decode cX4_bloomedSlabs 9 = .ok (.istore_n 3, 1) := by decide +kernel
theorem dX4_bloomedSlabs_10 : decode cX4_bloomedSlabs 10 = .ok (.iconst 0, 1) := by decide +kernel
theorem dX4_bloomedSlabs_11 : decode cX4_bloomedSlabs 11 = .ok (.istore 4, 2) := by decide +kernel
theorem dX4_bloomedSlabs_13 : decode cX4_bloomedSlabs 13 = .ok (.iload 4, 2) := by decide +kernel
theorem dX4_bloomedSlabs_15 : decode cX4_bloomedSlabs 15 = .ok (.iload_n 3, 1) := by decide +kernel
theorem dX4_bloomedSlabs_16 : decode cX4_bloomedSlabs 16 = .ok (.if_icmp .ge 31, 3) := by decide +kernel
theorem dX4_bloomedSlabs_19 : decode cX4_bloomedSlabs 19 = .ok (.aload_n 2, 1) := by decide +kernel
theorem dX4_bloomedSlabs_20 : decode cX4_bloomedSlabs 20 = .ok (.iload 4, 2) := by decide +kernel
theorem dX4_bloomedSlabs_22 : decode cX4_bloomedSlabs 22 = .ok (.aaload, 1) := by decide +kernel
theorem dX4_bloomedSlabs_23 : decode cX4_bloomedSlabs 23 = .ok (.astore 5, 2) := by decide +kernel
theorem dX4_bloomedSlabs_25 : decode cX4_bloomedSlabs 25 = .ok (.aload 5, 2) := by decide +kernel
theorem dX4_bloomedSlabs_27 : decode cX4_bloomedSlabs 27 = .ok (.ifnull 14, 3) := by decide +kernel
theorem dX4_bloomedSlabs_30 : decode cX4_bloomedSlabs 30 = .ok (.aload 5, 2) := by decide +kernel
theorem dX4_bloomedSlabs_32 : decode cX4_bloomedSlabs 32 = .ok (.invokevirtual 229, 3) := by decide +kernel
theorem dX4_bloomedSlabs_35 : decode cX4_bloomedSlabs 35 = .ok (.ifCond .eq 6, 3) := by decide +kernel
theorem dX4_bloomedSlabs_38 : decode cX4_bloomedSlabs 38 = .ok (.iinc 1 1, 3) := by decide +kernel
theorem dX4_bloomedSlabs_41 : decode cX4_bloomedSlabs 41 = .ok (.iinc 4 1, 3) := by decide +kernel
theorem dX4_bloomedSlabs_44 : decode cX4_bloomedSlabs 44 = .ok (.goto (-31), 3) := by decide +kernel
theorem dX4_bloomedSlabs_47 : decode cX4_bloomedSlabs 47 = .ok (.iload_n 1, 1) := by decide +kernel
theorem dX4_bloomedSlabs_48 : decode cX4_bloomedSlabs 48 = .ok (.ireturn, 1) := by decide +kernel
theorem dX4_firstEmptyBoxFor_0 : decode cX4_firstEmptyBoxFor 0 = .ok (.iconst 0, 1) := by decide +kernel
theorem dX4_firstEmptyBoxFor_1 : decode cX4_firstEmptyBoxFor 1 = .ok (.istore_n 2, 1) := by decide +kernel
theorem dX4_firstEmptyBoxFor_2 : decode cX4_firstEmptyBoxFor 2 = .ok (.iload_n 2, 1) := by decide +kernel
theorem dX4_firstEmptyBoxFor_3 : decode cX4_firstEmptyBoxFor 3 = .ok (.bipush 6, 2) := by decide +kernel
theorem dX4_firstEmptyBoxFor_5 : decode cX4_firstEmptyBoxFor 5 = .ok (.if_icmp .ge 41, 3) := by decide +kernel
theorem dX4_firstEmptyBoxFor_8 : decode cX4_firstEmptyBoxFor 8 = .ok (.aload_n 0, 1) := by decide +kernel
theorem dX4_firstEmptyBoxFor_9 : decode cX4_firstEmptyBoxFor 9 = .ok (.getfield 23, 3) := by decide +kernel
theorem dX4_firstEmptyBoxFor_12 : decode cX4_firstEmptyBoxFor 12 = .ok (.iload_n 2, 1) := by decide +kernel
theorem dX4_firstEmptyBoxFor_13 : decode cX4_firstEmptyBoxFor 13 = .ok (.aaload, 1) := by decide +kernel
theorem dX4_firstEmptyBoxFor_14 : decode cX4_firstEmptyBoxFor 14 = .ok (.astore_n 3, 1) := by decide +kernel
theorem dX4_firstEmptyBoxFor_15 : decode cX4_firstEmptyBoxFor 15 = .ok (.aload_n 3, 1) := by decide +kernel
theorem dX4_firstEmptyBoxFor_16 : decode cX4_firstEmptyBoxFor 16 = .ok (.ifnull 24, 3) := by decide +kernel
theorem dX4_firstEmptyBoxFor_19 : decode cX4_firstEmptyBoxFor 19 = .ok (.aload_n 3, 1) := by decide +kernel
theorem dX4_firstEmptyBoxFor_20 : decode cX4_firstEmptyBoxFor 20 = .ok (.getfield 201, 3) := by decide +kernel
theorem dX4_firstEmptyBoxFor_23 : decode cX4_firstEmptyBoxFor 23 = .ok (.ifCond .ne 17, 3) := by decide +kernel
theorem dX4_firstEmptyBoxFor_26 : decode cX4_firstEmptyBoxFor 26 = .ok (.aload_n 3, 1) := by decide +kernel
theorem dX4_firstEmptyBoxFor_27 : decode cX4_firstEmptyBoxFor 27 = .ok (.aload_n 1, 1) := by decide +kernel
theorem dX4_firstEmptyBoxFor_28 : decode cX4_firstEmptyBoxFor 28 = .ok (.aload_n 1, 1) := by decide +kernel
theorem dX4_firstEmptyBoxFor_29 : decode cX4_firstEmptyBoxFor 29 = .ok (.getfield 122, 3) := by decide +kernel
theorem dX4_firstEmptyBoxFor_32 : decode cX4_firstEmptyBoxFor 32 = .ok (.invokevirtual 270, 3) := by decide +kernel
theorem dX4_firstEmptyBoxFor_35 : decode cX4_firstEmptyBoxFor 35 = .ok (.ifCond .eq 5, 3) := by decide +kernel
theorem dX4_firstEmptyBoxFor_38 : decode cX4_firstEmptyBoxFor 38 = .ok (.iload_n 2, 1) := by decide +kernel
theorem dX4_firstEmptyBoxFor_39 : decode cX4_firstEmptyBoxFor 39 = .ok (.ireturn, 1) := by decide +kernel
theorem dX4_firstEmptyBoxFor_40 : decode cX4_firstEmptyBoxFor 40 = .ok (.iinc 2 1, 3) := by decide +kernel
theorem dX4_firstEmptyBoxFor_43 : decode cX4_firstEmptyBoxFor 43 = .ok (.goto (-41), 3) := by decide +kernel
theorem dX4_firstEmptyBoxFor_46 : decode cX4_firstEmptyBoxFor 46 = .ok (.iconst (-1), 1) := by decide +kernel
theorem dX4_firstEmptyBoxFor_47 : decode cX4_firstEmptyBoxFor 47 = .ok (.ireturn, 1) := by decide +kernel
theorem dX4_planFilling_0 : decode cX4_planFilling 0 = .ok (.iconst 0, 1) := by decide +kernel
theorem dX4_planFilling_1 : decode cX4_planFilling 1 = .ok (.istore_n 2, 1) := by decide +kernel
theorem dX4_planFilling_2 : decode cX4_planFilling 2 = .ok (.iload_n 2, 1) := by decide +kernel
theorem dX4_planFilling_3 : decode cX4_planFilling 3 = .ok (.bipush 8, 2) := by decide +kernel
theorem dX4_planFilling_5 : decode cX4_planFilling 5 = .ok (.if_icmp .ge 16, 3) := by decide +kernel
theorem dX4_planFilling_8 : decode cX4_planFilling 8 = .ok (.aload_n 0, 1) := by decide +kernel
theorem dX4_planFilling_9 : decode cX4_planFilling 9 = .ok (.getfield 41, 3) := by decide +kernel
theorem dX4_planFilling_12 : decode cX4_planFilling 12 = .ok (.iload_n 2, 1) := by decide +kernel
theorem dX4_planFilling_13 : decode cX4_planFilling 13 = .ok (.iconst 0, 1) := by decide +kernel
theorem dX4_planFilling_14 : decode cX4_planFilling 14 = .ok (.bastore, 1) := by decide +kernel
theorem dX4_planFilling_15 : decode cX4_planFilling 15 = .ok (.iinc 2 1, 3) := by decide +kernel
theorem dX4_planFilling_18 : decode cX4_planFilling 18 = .ok (.goto (-16), 3) := by decide +kernel
theorem dX4_planFilling_21 : decode cX4_planFilling 21 = .ok (.iconst 0, 1) := by decide +kernel
theorem dX4_planFilling_22 : decode cX4_planFilling 22 = .ok (.istore_n 2, 1) := by decide +kernel
theorem dX4_planFilling_23 : decode cX4_planFilling 23 = .ok (.iconst 0, 1) := by decide +kernel
theorem dX4_planFilling_24 : decode cX4_planFilling 24 = .ok (.istore_n 3, 1) := by decide +kernel
theorem dX4_planFilling_25 : decode cX4_planFilling 25 = .ok (.iload_n 3, 1) := by decide +kernel
theorem dX4_planFilling_26 : decode cX4_planFilling 26 = .ok (.bipush 6, 2) := by decide +kernel
theorem dX4_planFilling_28 : decode cX4_planFilling 28 = .ok (.if_icmp .ge 60, 3) := by decide +kernel
theorem dX4_planFilling_31 : decode cX4_planFilling 31 = .ok (.aload_n 0, 1) := by decide +kernel
theorem dX4_planFilling_32 : decode cX4_planFilling 32 = .ok (.getfield 23, 3) := by decide +kernel
theorem dX4_planFilling_35 : decode cX4_planFilling 35 = .ok (.iload_n 3, 1) := by decide +kernel
theorem dX4_planFilling_36 : decode cX4_planFilling 36 = .ok (.aaload, 1) := by decide +kernel
theorem dX4_planFilling_37 : decode cX4_planFilling 37 = .ok (.astore 4, 2) := by decide +kernel
theorem dX4_planFilling_39 : decode cX4_planFilling 39 = .ok (.aload_n 0, 1) := by decide +kernel
theorem dX4_planFilling_40 : decode cX4_planFilling 40 = .ok (.getfield 37, 3) := by decide +kernel
theorem dX4_planFilling_43 : decode cX4_planFilling 43 = .ok (.iload_n 3, 1) := by decide +kernel
theorem dX4_planFilling_44 : decode cX4_planFilling 44 = .ok (.aload 4, 2) := by decide +kernel
theorem dX4_planFilling_46 : decode cX4_planFilling 46 = .ok (.ifnull 11, 3) := by decide +kernel
theorem dX4_planFilling_49 : decode cX4_planFilling 49 = .ok (.aload 4, 2) := by decide +kernel
theorem dX4_planFilling_51 : decode cX4_planFilling 51 = .ok (.getfield 201, 3) := by decide +kernel
theorem dX4_planFilling_54 : decode cX4_planFilling 54 = .ok (.ifCond .eq 7, 3) := by decide +kernel
theorem dX4_planFilling_57 : decode cX4_planFilling 57 = .ok (.iconst (-1), 1) := by decide +kernel
theorem dX4_planFilling_58 : decode cX4_planFilling 58 = .ok (.goto 10, 3) := by decide +kernel
theorem dX4_planFilling_61 : decode cX4_planFilling 61 = .ok (.aload_n 0, 1) := by decide +kernel
theorem dX4_planFilling_62 : decode cX4_planFilling 62 = .ok (.aload 4, 2) := by decide +kernel
theorem dX4_planFilling_64 : decode cX4_planFilling 64 = .ok (.iload_n 1, 1) := by decide +kernel
theorem dX4_planFilling_65 : decode cX4_planFilling 65 = .ok (.invokevirtual 274, 3) := by decide +kernel
theorem dX4_planFilling_68 : decode cX4_planFilling 68 = .ok (.iastore, 1) := by decide +kernel
theorem dX4_planFilling_69 : decode cX4_planFilling 69 = .ok (.aload_n 0, 1) := by decide +kernel
theorem dX4_planFilling_70 : decode cX4_planFilling 70 = .ok (.getfield 37, 3) := by decide +kernel
theorem dX4_planFilling_73 : decode cX4_planFilling 73 = .ok (.iload_n 3, 1) := by decide +kernel
theorem dX4_planFilling_74 : decode cX4_planFilling 74 = .ok (.iaload, 1) := by decide +kernel
theorem dX4_planFilling_75 : decode cX4_planFilling 75 = .ok (.iconst (-1), 1) := by decide +kernel
theorem dX4_planFilling_76 : decode cX4_planFilling 76 = .ok (.if_icmp .eq 6, 3) := by decide +kernel
theorem dX4_planFilling_79 : decode cX4_planFilling 79 = .ok (.iinc 2 1, 3) := by decide +kernel
theorem dX4_planFilling_82 : decode cX4_planFilling 82 = .ok (.iinc 3 1, 3) := by decide +kernel
theorem dX4_planFilling_85 : decode cX4_planFilling 85 = .ok (.goto (-60), 3) := by decide +kernel
theorem dX4_planFilling_88 : decode cX4_planFilling 88 = .ok (.iload_n 2, 1) := by decide +kernel
theorem dX4_planFilling_89 : decode cX4_planFilling 89 = .ok (.ireturn, 1) := by decide +kernel
theorem dX4_planSlab_0 : decode cX4_planSlab 0 = .ok (.iconst 0, 1) := by decide +kernel
theorem dX4_planSlab_1 : decode cX4_planSlab 1 = .ok (.istore_n 3, 1) := by decide +kernel
theorem dX4_planSlab_2 : decode cX4_planSlab 2 = .ok (.iload_n 3, 1) := by decide +kernel
theorem dX4_planSlab_3 : decode cX4_planSlab 3 = .ok (.bipush 8, 2) := by decide +kernel
theorem dX4_planSlab_5 : decode cX4_planSlab 5 = .ok (.if_icmp .ge 71, 3) := by decide +kernel
theorem dX4_planSlab_8 : decode cX4_planSlab 8 = .ok (.aload_n 0, 1) := by decide +kernel
theorem dX4_planSlab_9 : decode cX4_planSlab 9 = .ok (.getfield 17, 3) := by decide +kernel
theorem dX4_planSlab_12 : decode cX4_planSlab 12 = .ok (.iload_n 3, 1) := by decide +kernel
theorem dX4_planSlab_13 : decode cX4_planSlab 13 = .ok (.aaload, 1) := by decide +kernel
theorem dX4_planSlab_14 : decode cX4_planSlab 14 = .ok (.astore 4, 2) := by decide +kernel
theorem dX4_planSlab_16 : decode cX4_planSlab 16 = .ok (.aload 4, 2) := by decide +kernel
theorem dX4_planSlab_18 : decode cX4_planSlab 18 = .ok (.ifnull 52, 3) := by decide +kernel
theorem dX4_planSlab_21 : decode cX4_planSlab 21 = .ok (.aload_n 0, 1) := by decide +kernel
theorem dX4_planSlab_22 : decode cX4_planSlab 22 = .ok (.getfield 41, 3) := by decide +kernel
theorem dX4_planSlab_25 : decode cX4_planSlab 25 = .ok (.iload_n 3, 1) := by decide +kernel
theorem dX4_planSlab_26 : decode cX4_planSlab 26 = .ok (.baload, 1) := by decide +kernel
theorem dX4_planSlab_27 : decode cX4_planSlab 27 = .ok (.ifCond .ne 43, 3) := by decide +kernel
theorem dX4_planSlab_30 : decode cX4_planSlab 30 = .ok (.iload_n 3, 1) := by decide +kernel
theorem dX4_planSlab_31 : decode cX4_planSlab 31 = .ok (.iload_n 2, 1) := by decide +kernel
theorem dX4_planSlab_32 : decode cX4_planSlab 32 = .ok (.if_icmp .ne 11, 3) := by decide +kernel
theorem dX4_planSlab_35 : decode cX4_planSlab 35 = .ok (.aload 4, 2) := by decide +kernel
theorem dX4_planSlab_37 : decode cX4_planSlab 37 = .ok (.invokevirtual 119, 3) := by decide +kernel
theorem dX4_planSlab_40 : decode cX4_planSlab 40 = .ok (.goto 8, 3) := by decide +kernel
theorem dX4_planSlab_43 : decode cX4_planSlab 43 = .ok (.aload 4, 2) := by decide +kernel
theorem dX4_planSlab_45 : decode cX4_planSlab 45 = .ok (.getfield 122, 3) := by decide +kernel
theorem dX4_planSlab_48 : decode cX4_planSlab 48 = .ok (.istore 5, 2) := by decide +kernel
theorem dX4_planSlab_50 : decode cX4_planSlab 50 = .ok (.aload_n 1, 1) := by decide +kernel
theorem dX4_planSlab_51 : decode cX4_planSlab 51 = .ok (.aload 4, 2) := by decide +kernel
theorem dX4_planSlab_53 : decode cX4_planSlab 53 = .ok (.iload 5, 2) := by decide +kernel
theorem dX4_planSlab_55 : decode cX4_planSlab 55 = .ok (.invokevirtual 270, 3) := by decide +kernel
theorem dX4_planSlab_58 : decode cX4_planSlab 58 = .ok (.ifCond .eq 12, 3) := by decide +kernel
theorem dX4_planSlab_61 : decode cX4_planSlab 61 = .ok (.aload_n 0, 1) := by decide +kernel
theorem dX4_planSlab_62 : decode cX4_planSlab 62 = .ok (.getfield 41, 3) := by decide +kernel
theorem dX4_planSlab_65 : decode cX4_planSlab 65 = .ok (.iload_n 3, 1) := by decide +kernel
theorem dX4_planSlab_66 : decode cX4_planSlab 66 = .ok (.iconst 1, 1) := by decide +kernel
theorem dX4_planSlab_67 : decode cX4_planSlab 67 = .ok (.bastore, 1) := by decide +kernel
theorem dX4_planSlab_68 : decode cX4_planSlab 68 = .ok (.iload_n 3, 1) := by decide +kernel
theorem dX4_planSlab_69 : decode cX4_planSlab 69 = .ok (.ireturn, 1) := by decide +kernel
theorem dX4_planSlab_70 : decode cX4_planSlab 70 = .ok (.iinc 3 1, 3) := by decide +kernel
theorem dX4_planSlab_73 : decode cX4_planSlab 73 = .ok (.goto (-71), 3) := by decide +kernel
theorem dX4_planSlab_76 : decode cX4_planSlab 76 = .ok (.iconst (-1), 1) := by decide +kernel
theorem dX4_planSlab_77 : decode cX4_planSlab 77 = .ok (.ireturn, 1) := by decide +kernel
theorem dX4_moveIntoBox_0 : decode cX4_moveIntoBox 0 = .ok (.aload_n 0, 1) := by decide +kernel
theorem dX4_moveIntoBox_1 : decode cX4_moveIntoBox 1 = .ok (.iload_n 1, 1) := by decide +kernel
theorem dX4_moveIntoBox_2 : decode cX4_moveIntoBox 2 = .ok (.invokevirtual 261, 3) := by decide +kernel
theorem dX4_moveIntoBox_5 : decode cX4_moveIntoBox 5 = .ok (.astore_n 3, 1) := by decide +kernel
theorem dX4_moveIntoBox_6 : decode cX4_moveIntoBox 6 = .ok (.aload_n 3, 1) := by decide +kernel
theorem dX4_moveIntoBox_7 : decode cX4_moveIntoBox 7 = .ok (.ifnull 19, 3) := by decide +kernel
theorem dX4_moveIntoBox_10 : decode cX4_moveIntoBox 10 = .ok (.aload_n 2, 1) := by decide +kernel
theorem dX4_moveIntoBox_11 : decode cX4_moveIntoBox 11 = .ok (.ifnull 15, 3) := by decide +kernel
theorem dX4_moveIntoBox_14 : decode cX4_moveIntoBox 14 = .ok (.aload_n 2, 1) := by decide +kernel
theorem dX4_moveIntoBox_15 : decode cX4_moveIntoBox 15 = .ok (.aload_n 3, 1) := by decide +kernel
theorem dX4_moveIntoBox_16 : decode cX4_moveIntoBox 16 = .ok (.invokevirtual 278, 3) := by decide +kernel
theorem dX4_moveIntoBox_19 : decode cX4_moveIntoBox 19 = .ok (.aload_n 0, 1) := by decide +kernel
theorem dX4_moveIntoBox_20 : decode cX4_moveIntoBox 20 = .ok (.getfield 17, 3) := by decide +kernel
theorem dX4_moveIntoBox_23 : decode cX4_moveIntoBox 23 = .ok (.iload_n 1, 1) := by decide +kernel
theorem dX4_moveIntoBox_24 : decode cX4_moveIntoBox 24 = .ok (.aconst_null, 1) := by decide +kernel
theorem dX4_moveIntoBox_25 : decode cX4_moveIntoBox 25 = .ok (.aastore, 1) := by decide +kernel
theorem dX4_moveIntoBox_26 : decode cX4_moveIntoBox 26 = .ok (.return_, 1) := by decide +kernel
theorem dX5_init_0 : decode cX5_init 0 = .ok (.aload_n 0, 1) := by decide +kernel
theorem dX5_init_1 : decode cX5_init 1 = .ok (.invokespecial 1, 3) := by decide +kernel
theorem dX5_init_4 : decode cX5_init 4 = .ok (.aload_n 0, 1) := by decide +kernel
theorem dX5_init_5 : decode cX5_init 5 = .ok (.bipush 20, 2) := by decide +kernel
theorem dX5_init_7 : decode cX5_init 7 = .ok (.putfield 7, 3) := by decide +kernel
theorem dX5_init_10 : decode cX5_init 10 = .ok (.aload_n 0, 1) := by decide +kernel
theorem dX5_init_11 : decode cX5_init 11 = .ok (.bipush 6, 2) := by decide +kernel
theorem dX5_init_13 : decode cX5_init 13 = .ok (.newarray .int, 2) := by decide +kernel
theorem dX5_init_15 : decode cX5_init 15 = .ok (.putfield 13, 3) := by decide +kernel
theorem dX5_init_18 : decode cX5_init 18 = .ok (.return_, 1) := by decide +kernel
theorem dX5_all_0 : decode cX5_all 0 = .ok (.aload_n 0, 1) := by decide +kernel
theorem dX5_all_1 : decode cX5_all 1 = .ok (.getfield 13, 3) := by decide +kernel
theorem dX5_all_4 : decode cX5_all 4 = .ok (.iconst 1, 1) := by decide +kernel
theorem dX5_all_5 : decode cX5_all 5 = .ok (.iaload, 1) := by decide +kernel
theorem dX5_all_6 : decode cX5_all 6 = .ok (.aload_n 0, 1) := by decide +kernel
theorem dX5_all_7 : decode cX5_all 7 = .ok (.getfield 13, 3) := by decide +kernel
theorem dX5_all_10 : decode cX5_all 10 = .ok (.iconst 2, 1) := by decide +kernel
theorem dX5_all_11 : decode cX5_all 11 = .ok (.iaload, 1) := by decide +kernel
theorem dX5_all_12 : decode cX5_all 12 = .ok (.iadd, 1) := by decide +kernel
theorem dX5_all_13 : decode cX5_all 13 = .ok (.aload_n 0, 1) := by decide +kernel
theorem dX5_all_14 : decode cX5_all 14 = .ok (.getfield 13, 3) := by decide +kernel
theorem dX5_all_17 : decode cX5_all 17 = .ok (.iconst 3, 1) := by decide +kernel
theorem dX5_all_18 : decode cX5_all 18 = .ok (.iaload, 1) := by decide +kernel
theorem dX5_all_19 : decode cX5_all 19 = .ok (.iadd, 1) := by decide +kernel
theorem dX5_all_20 : decode cX5_all 20 = .ok (.aload_n 0, 1) := by decide +kernel
theorem dX5_all_21 : decode cX5_all 21 = .ok (.getfield 13, 3) := by decide +kernel
theorem dX5_all_24 : decode cX5_all 24 = .ok (.iconst 4, 1) := by decide +kernel
theorem dX5_all_25 : decode cX5_all 25 = .ok (.iaload, 1) := by decide +kernel
theorem dX5_all_26 : decode cX5_all 26 = .ok (.iadd, 1) := by decide +kernel
theorem dX5_all_27 : decode cX5_all 27 = .ok (.aload_n 0, 1) := by decide +kernel
theorem dX5_all_28 : decode cX5_all 28 = .ok (.getfield 13, 3) := by decide +kernel
theorem dX5_all_31 : decode cX5_all 31 = .ok (.iconst 5, 1) := by decide +kernel
theorem dX5_all_32 : decode cX5_all 32 = .ok (.iaload, 1) := by decide +kernel
theorem dX5_all_33 : decode cX5_all 33 = .ok (.iadd, 1) := by decide +kernel
theorem dX5_all_34 : decode cX5_all 34 = .ok (.ireturn, 1) := by decide +kernel
theorem dX5_temper_0 : decode cX5_temper 0 = .ok (.aload_n 0, 1) := by decide +kernel
theorem dX5_temper_1 : decode cX5_temper 1 = .ok (.getfield 13, 3) := by decide +kernel
theorem dX5_temper_4 : decode cX5_temper 4 = .ok (.iconst 4, 1) := by decide +kernel
theorem dX5_temper_5 : decode cX5_temper 5 = .ok (.iaload, 1) := by decide +kernel
theorem dX5_temper_6 : decode cX5_temper 6 = .ok (.iconst 2, 1) := by decide +kernel
theorem dX5_temper_7 : decode cX5_temper 7 = .ok (.aload_n 0, 1) := by decide +kernel
theorem dX5_temper_8 : decode cX5_temper 8 = .ok (.getfield 13, 3) := by decide +kernel
theorem dX5_temper_11 : decode cX5_temper 11 = .ok (.iconst 5, 1) := by decide +kernel
theorem dX5_temper_12 : decode cX5_temper 12 = .ok (.iaload, 1) := by decide +kernel
theorem dX5_temper_13 : decode cX5_temper 13 = .ok (.imul, 1) := by decide +kernel
theorem dX5_temper_14 : decode cX5_temper 14 = .ok (.iadd, 1) := by decide +kernel
theorem dX5_temper_15 : decode cX5_temper 15 = .ok (.aload_n 0, 1) := by decide +kernel
theorem dX5_temper_16 : decode cX5_temper 16 = .ok (.getfield 13, 3) := by decide +kernel
theorem dX5_temper_19 : decode cX5_temper 19 = .ok (.iconst 1, 1) := by decide +kernel
theorem dX5_temper_20 : decode cX5_temper 20 = .ok (.iaload, 1) := by decide +kernel
theorem dX5_temper_21 : decode cX5_temper 21 = .ok (.isub, 1) := by decide +kernel
theorem dX5_temper_22 : decode cX5_temper 22 = .ok (.aload_n 0, 1) := by decide +kernel
theorem dX5_temper_23 : decode cX5_temper 23 = .ok (.getfield 13, 3) := by decide +kernel
theorem dX5_temper_26 : decode cX5_temper 26 = .ok (.iconst 2, 1) := by decide +kernel
theorem dX5_temper_27 : decode cX5_temper 27 = .ok (.iaload, 1) := by decide +kernel
theorem dX5_temper_28 : decode cX5_temper 28 = .ok (.isub, 1) := by decide +kernel
theorem dX5_temper_29 : decode cX5_temper 29 = .ok (.aload_n 0, 1) := by decide +kernel
theorem dX5_temper_30 : decode cX5_temper 30 = .ok (.getfield 13, 3) := by decide +kernel
theorem dX5_temper_33 : decode cX5_temper 33 = .ok (.iconst 3, 1) := by decide +kernel
theorem dX5_temper_34 : decode cX5_temper 34 = .ok (.iaload, 1) := by decide +kernel
theorem dX5_temper_35 : decode cX5_temper 35 = .ok (.isub, 1) := by decide +kernel
theorem dX5_temper_36 : decode cX5_temper 36 = .ok (.istore_n 1, 1) := by decide +kernel
theorem dX5_temper_37 : decode cX5_temper 37 = .ok (.iload_n 1, 1) := by decide +kernel
theorem dX5_temper_38 : decode cX5_temper 38 = .ok (.ifCond .ge 7, 3) := by decide +kernel
theorem dX5_temper_41 : decode cX5_temper 41 = .ok (.iconst 0, 1) := by decide +kernel
theorem dX5_temper_42 : decode cX5_temper 42 = .ok (.goto 15, 3) := by decide +kernel
theorem dX5_temper_45 : decode cX5_temper 45 = .ok (.iload_n 1, 1) := by decide +kernel
theorem dX5_temper_46 : decode cX5_temper 46 = .ok (.bipush 100, 2) := by decide +kernel
theorem dX5_temper_48 : decode cX5_temper 48 = .ok (.if_icmp .le 8, 3) := by decide +kernel
theorem dX5_temper_51 : decode cX5_temper 51 = .ok (.bipush 100, 2) := by decide +kernel
theorem dX5_temper_53 : decode cX5_temper 53 = .ok (.goto 4, 3) := by decide +kernel
theorem dX5_temper_56 : decode cX5_temper 56 = .ok (.iload_n 1, 1) := by decide +kernel
theorem dX5_temper_57 : decode cX5_temper 57 = .ok (.ireturn, 1) := by decide +kernel
theorem dX5_kept_0 : decode cX5_kept 0 = .ok (.aload_n 0, 1) := by decide +kernel
theorem dX5_kept_1 : decode cX5_kept 1 = .ok (.iload_n 1, 1) := by decide +kernel
theorem dX5_kept_2 : decode cX5_kept 2 = .ok (.putfield 7, 3) := by decide +kernel
theorem dX5_kept_5 : decode cX5_kept 5 = .ok (.iconst 0, 1) := by decide +kernel
theorem dX5_kept_6 : decode cX5_kept 6 = .ok (.istore_n 3, 1) := by decide +kernel
theorem dX5_kept_7 : decode cX5_kept 7 = .ok (.iload_n 3, 1) := by decide +kernel
theorem dX5_kept_8 : decode cX5_kept 8 = .ok (.iload_n 2, 1) := by decide +kernel
theorem dX5_kept_9 : decode cX5_kept 9 = .ok (.if_icmp .ge 127, 3) := by decide +kernel
theorem dX5_kept_12 : decode cX5_kept 12 = .ok (.iconst 0, 1) := by decide +kernel
theorem dX5_kept_13 : decode cX5_kept 13 = .ok (.istore 4, 2) := by decide +kernel
theorem dX5_kept_15 : decode cX5_kept 15 = .ok (.iconst 5, 1) := by decide +kernel
theorem dX5_kept_16 : decode cX5_kept 16 = .ok (.istore 5, 2) := by decide +kernel
theorem dX5_kept_18 : decode cX5_kept 18 = .ok (.iload 5, 2) := by decide +kernel
theorem dX5_kept_20 : decode cX5_kept 20 = .ok (.ifCond .le 57, 3) := by decide +kernel
theorem dX5_kept_23 : decode cX5_kept 23 = .ok (.iconst 4, 1) := by decide +kernel
theorem dX5_kept_24 : decode cX5_kept 24 = .ok (.iload 5, 2) := by decide +kernel
theorem dX5_kept_26 : decode cX5_kept 26 = .ok (.imul, 1) := by decide +kernel
theorem dX5_kept_27 : decode cX5_kept 27 = .ok (.bipush 15, 2) := by decide +kernel
theorem dX5_kept_29 : decode cX5_kept 29 = .ok (.iadd, 1) := by decide +kernel
theorem dX5_kept_30 : decode cX5_kept 30 = .ok (.istore 6, 2) := by decide +kernel
theorem dX5_kept_32 : decode cX5_kept 32 = .ok (.iload 6, 2) := by decide +kernel
theorem dX5_kept_34 : decode cX5_kept 34 = .ok (.iload_n 1, 1) := by decide +kernel
theorem dX5_kept_35 : decode cX5_kept 35 = .ok (.if_icmp .gt 24, 3) := by decide +kernel
theorem dX5_kept_38 : decode cX5_kept 38 = .ok (.aload_n 0, 1) := by decide +kernel
theorem dX5_kept_39 : decode cX5_kept 39 = .ok (.getfield 13, 3) := by decide +kernel
theorem dX5_kept_42 : decode cX5_kept 42 = .ok (.iload 5, 2) := by decide +kernel
theorem dX5_kept_44 : decode cX5_kept 44 = .ok (.dup2, 1) := by decide +kernel
theorem dX5_kept_45 : decode cX5_kept 45 = .ok (.iaload, 1) := by decide +kernel
theorem dX5_kept_46 : decode cX5_kept 46 = .ok (.aload_n 0, 1) := by decide +kernel
theorem dX5_kept_47 : decode cX5_kept 47 = .ok (.getfield 13, 3) := by decide +kernel
theorem dX5_kept_50 : decode cX5_kept 50 = .ok (.iload 5, 2) := by decide +kernel
theorem dX5_kept_52 : decode cX5_kept 52 = .ok (.iaload, 1) := by decide +kernel
theorem dX5_kept_53 : decode cX5_kept 53 = .ok (.iconst 1, 1) := by decide +kernel
theorem dX5_kept_54 : decode cX5_kept 54 = .ok (.iadd, 1) := by decide +kernel
theorem dX5_kept_55 : decode cX5_kept 55 = .ok (.iconst 2, 1) := by decide +kernel
theorem dX5_kept_56 : decode cX5_kept 56 = .ok (.idiv, 1) := by decide +kernel
theorem dX5_kept_57 : decode cX5_kept 57 = .ok (.isub, 1) := by decide +kernel
theorem dX5_kept_58 : decode cX5_kept 58 = .ok (.iastore, 1) := by decide +kernel
theorem dX5_kept_59 : decode cX5_kept 59 = .ok (.iload 6, 2) := by decide +kernel
theorem dX5_kept_61 : decode cX5_kept 61 = .ok (.iload_n 1, 1) := by decide +kernel
theorem dX5_kept_62 : decode cX5_kept 62 = .ok (.iconst 3, 1) := by decide +kernel
theorem dX5_kept_63 : decode cX5_kept 63 = .ok (.iadd, 1) := by decide +kernel
theorem dX5_kept_64 : decode cX5_kept 64 = .ok (.if_icmp .le 7, 3) := by decide +kernel
theorem dX5_kept_67 : decode cX5_kept 67 = .ok (.iload 5, 2) := by decide +kernel
theorem dX5_kept_69 : decode cX5_kept 69 = .ok (.istore 4, 2) := by decide +kernel
theorem dX5_kept_71 : decode cX5_kept 71 = .ok (.iinc 5 (-1), 3) := by decide +kernel
theorem dX5_kept_74 : decode cX5_kept 74 = .ok (.goto (-56), 3) := by decide +kernel
theorem dX5_kept_77 : decode cX5_kept 77 = .ok (.iload_n 1, 1) := by decide +kernel
theorem dX5_kept_78 : decode cX5_kept 78 = .ok (.bipush 33, 2) := by decide +kernel
theorem dX5_kept_80 : decode cX5_kept 80 = .ok (.if_icmp .le 6, 3) := by decide +kernel
theorem dX5_kept_83 : decode cX5_kept 83 = .ok (.goto 47, 3) := by decide +kernel
theorem dX5_kept_86 : decode cX5_kept 86 = .ok (.iload 4, 2) := by decide +kernel
theorem dX5_kept_88 : decode cX5_kept 88 = .ok (.ifCond .ne 6, 3) := by decide +kernel
theorem dX5_kept_91 : decode cX5_kept 91 = .ok (.iconst 5, 1) := by decide +kernel
theorem dX5_kept_92 : decode cX5_kept 92 = .ok (.istore 4, 2) := by decide +kernel
theorem dX5_kept_94 : decode cX5_kept 94 = .ok (.aload_n 0, 1) := by decide +kernel
theorem dX5_kept_95 : decode cX5_kept 95 = .ok (.getfield 13, 3) := by decide +kernel
theorem dX5_kept_98 : decode cX5_kept 98 = .ok (.iload 4, 2) := by decide +kernel
theorem dX5_kept_100 : decode cX5_kept 100 = .ok (.dup2, 1) := by decide +kernel
theorem dX5_kept_101 : decode cX5_kept 101 = .ok (.iaload, 1) := by decide +kernel
theorem dX5_kept_102 : decode cX5_kept 102 = .ok (.iconst 0, 1) := by decide +kernel
theorem dX5_kept_103 : decode cX5_kept 103 = .ok (.aload_n 0, 1) := by decide +kernel
theorem dX5_kept_104 : decode cX5_kept 104 = .ok (.getfield 13, 3) := by decide +kernel
theorem dX5_kept_107 : decode cX5_kept 107 = .ok (.iload 4, 2) := by decide +kernel
theorem dX5_kept_109 : decode cX5_kept 109 = .ok (.iaload, 1) := by decide +kernel
theorem dX5_kept_110 : decode cX5_kept 110 = .ok (.iconst 4, 1) := by decide +kernel
theorem dX5_kept_111 : decode cX5_kept 111 = .ok (.idiv, 1) := by decide +kernel
theorem dX5_kept_112 : decode cX5_kept 112 = .ok (.bipush 8, 2) := by decide +kernel
theorem dX5_kept_114 : decode cX5_kept 114 = .ok (.iadd, 1) := by decide +kernel
theorem dX5_kept_115 : decode cX5_kept 115 = .ok (.bipush 100, 2) := by decide +kernel
theorem dX5_kept_117 : decode cX5_kept 117 = .ok (.aload_n 0, 1) := by decide +kernel
theorem dX5_kept_118 : decode cX5_kept 118 = .ok (.invokevirtual 21, 3) := by decide +kernel
theorem dX5_kept_121 : decode cX5_kept 121 = .ok (.isub, 1) := by decide +kernel
theorem dX5_kept_122 : decode cX5_kept 122 = .ok (.invokestatic 25, 3) := by decide +kernel
theorem dX5_kept_125 : decode cX5_kept 125 = .ok (.invokestatic 31, 3) := by decide +kernel
theorem dX5_kept_128 : decode cX5_kept 128 = .ok (.iadd, 1) := by decide +kernel
theorem dX5_kept_129 : decode cX5_kept 129 = .ok (.iastore, 1) := by decide +kernel
theorem dX5_kept_130 : decode cX5_kept 130 = .ok (.iinc 3 1, 3) := by decide +kernel
theorem dX5_kept_133 : decode cX5_kept 133 = .ok (.goto (-126), 3) := by decide +kernel
theorem dX5_kept_136 : decode cX5_kept 136 = .ok (.aload_n 0, 1) := by decide +kernel
theorem dX5_kept_137 : decode cX5_kept 137 = .ok (.areturn, 1) := by decide +kernel
theorem dX6_init_0 : decode cX6_init 0 = .ok (.aload_n 0, 1) := by decide +kernel
theorem dX6_init_1 : decode cX6_init 1 = .ok (.invokespecial 1, 3) := by decide +kernel
theorem dX6_init_4 : decode cX6_init 4 = .ok (.aload_n 0, 1) := by decide +kernel
theorem dX6_init_5 : decode cX6_init 5 = .ok (.iconst 0, 1) := by decide +kernel
theorem dX6_init_6 : decode cX6_init 6 = .ok (.anewarray 7, 3) := by decide +kernel
theorem dX6_init_9 : decode cX6_init 9 = .ok (.putfield 9, 3) := by decide +kernel
theorem dX6_init_12 : decode cX6_init 12 = .ok (.aload_n 0, 1) := by decide +kernel
theorem dX6_init_13 : decode cX6_init 13 = .ok (.iconst 0, 1) := by decide +kernel
theorem dX6_init_14 : decode cX6_init 14 = .ok (.anewarray 15, 3) := by decide +kernel
theorem dX6_init_17 : decode cX6_init 17 = .ok (.putfield 17, 3) := by decide +kernel
theorem dX6_init_20 : decode cX6_init 20 = .ok (.aload_n 0, 1) := by decide +kernel
theorem dX6_init_21 : decode cX6_init 21 = .ok (.iconst 0, 1) := by decide +kernel
theorem dX6_init_22 : decode cX6_init 22 = .ok (.anewarray 15, 3) := by decide +kernel
theorem dX6_init_25 : decode cX6_init 25 = .ok (.putfield 21, 3) := by decide +kernel
theorem dX6_init_28 : decode cX6_init 28 = .ok (.return_, 1) := by decide +kernel
theorem dX6_with_0 : decode cX6_with 0 = .ok (.aload_n 0, 1) := by decide +kernel
theorem dX6_with_1 : decode cX6_with 1 = .ok (.arraylength, 1) := by decide +kernel
theorem dX6_with_2 : decode cX6_with 2 = .ok (.iconst 1, 1) := by decide +kernel
theorem dX6_with_3 : decode cX6_with 3 = .ok (.iadd, 1) := by decide +kernel
theorem dX6_with_4 : decode cX6_with 4 = .ok (.anewarray 15, 3) := by decide +kernel
theorem dX6_with_7 : decode cX6_with 7 = .ok (.astore_n 2, 1) := by decide +kernel
theorem dX6_with_8 : decode cX6_with 8 = .ok (.iconst 0, 1) := by decide +kernel
theorem dX6_with_9 : decode cX6_with 9 = .ok (.istore_n 3, 1) := by decide +kernel
theorem dX6_with_10 : decode cX6_with 10 = .ok (.iload_n 3, 1) := by decide +kernel
theorem dX6_with_11 : decode cX6_with 11 = .ok (.aload_n 0, 1) := by decide +kernel
theorem dX6_with_12 : decode cX6_with 12 = .ok (.arraylength, 1) := by decide +kernel
theorem dX6_with_13 : decode cX6_with 13 = .ok (.if_icmp .ge 15, 3) := by decide +kernel
theorem dX6_with_16 : decode cX6_with 16 = .ok (.aload_n 2, 1) := by decide +kernel
theorem dX6_with_17 : decode cX6_with 17 = .ok (.iload_n 3, 1) := by decide +kernel
theorem dX6_with_18 : decode cX6_with 18 = .ok (.aload_n 0, 1) := by decide +kernel
theorem dX6_with_19 : decode cX6_with 19 = .ok (.iload_n 3, 1) := by decide +kernel
theorem dX6_with_20 : decode cX6_with 20 = .ok (.aaload, 1) := by decide +kernel
theorem dX6_with_21 : decode cX6_with 21 = .ok (.aastore, 1) := by decide +kernel
theorem dX6_with_22 : decode cX6_with 22 = .ok (.iinc 3 1, 3) := by decide +kernel
theorem dX6_with_25 : decode cX6_with 25 = .ok (.goto (-15), 3) := by decide +kernel
theorem dX6_with_28 : decode cX6_with 28 = .ok (.aload_n 2, 1) := by decide +kernel
theorem dX6_with_29 : decode cX6_with 29 = .ok (.aload_n 0, 1) := by decide +kernel
theorem dX6_with_30 : decode cX6_with 30 = .ok (.arraylength, 1) := by decide +kernel
theorem dX6_with_31 : decode cX6_with 31 = .ok (.aload_n 1, 1) := by decide +kernel
theorem dX6_with_32 : decode cX6_with 32 = .ok (.aastore, 1) := by decide +kernel
theorem dX6_with_33 : decode cX6_with 33 = .ok (.aload_n 2, 1) := by decide +kernel
theorem dX6_with_34 : decode cX6_with 34 = .ok (.areturn, 1) := by decide +kernel
theorem dX6_without_0 : decode cX6_without 0 = .ok (.aload_n 0, 1) := by decide +kernel
theorem dX6_without_1 : decode cX6_without 1 = .ok (.arraylength, 1) := by decide +kernel
theorem dX6_without_2 : decode cX6_without 2 = .ok (.iconst 1, 1) := by decide +kernel
theorem dX6_without_3 : decode cX6_without 3 = .ok (.isub, 1) := by decide +kernel
theorem dX6_without_4 : decode cX6_without 4 = .ok (.anewarray 15, 3) := by decide +kernel
theorem dX6_without_7 : decode cX6_without 7 = .ok (.astore_n 2, 1) := by decide +kernel
theorem dX6_without_8 : decode cX6_without 8 = .ok (.iconst 0, 1) := by decide +kernel
theorem dX6_without_9 : decode cX6_without 9 = .ok (.istore_n 3, 1) := by decide +kernel
theorem dX6_without_10 : decode cX6_without 10 = .ok (.iload_n 3, 1) := by decide +kernel
theorem dX6_without_11 : decode cX6_without 11 = .ok (.aload_n 2, 1) := by decide +kernel
theorem dX6_without_12 : decode cX6_without 12 = .ok (.arraylength, 1) := by decide +kernel
theorem dX6_without_13 : decode cX6_without 13 = .ok (.if_icmp .ge 26, 3) := by decide +kernel
theorem dX6_without_16 : decode cX6_without 16 = .ok (.aload_n 2, 1) := by decide +kernel
theorem dX6_without_17 : decode cX6_without 17 = .ok (.iload_n 3, 1) := by decide +kernel
theorem dX6_without_18 : decode cX6_without 18 = .ok (.aload_n 0, 1) := by decide +kernel
theorem dX6_without_19 : decode cX6_without 19 = .ok (.iload_n 3, 1) := by decide +kernel
theorem dX6_without_20 : decode cX6_without 20 = .ok (.iload_n 1, 1) := by decide +kernel
theorem dX6_without_21 : decode cX6_without 21 = .ok (.if_icmp .ge 7, 3) := by decide +kernel
theorem dX6_without_24 : decode cX6_without 24 = .ok (.iload_n 3, 1) := by decide +kernel
theorem dX6_without_25 : decode cX6_without 25 = .ok (.goto 6, 3) := by decide +kernel
theorem dX6_without_28 : decode cX6_without 28 = .ok (.iload_n 3, 1) := by decide +kernel
theorem dX6_without_29 : decode cX6_without 29 = .ok (.iconst 1, 1) := by decide +kernel
theorem dX6_without_30 : decode cX6_without 30 = .ok (.iadd, 1) := by decide +kernel
theorem dX6_without_31 : decode cX6_without 31 = .ok (.aaload, 1) := by decide +kernel
theorem dX6_without_32 : decode cX6_without 32 = .ok (.aastore, 1) := by decide +kernel
theorem dX6_without_33 : decode cX6_without 33 = .ok (.iinc 3 1, 3) := by decide +kernel
theorem dX6_without_36 : decode cX6_without 36 = .ok (.goto (-26), 3) := by decide +kernel
theorem dX6_without_39 : decode cX6_without 39 = .ok (.aload_n 2, 1) := by decide +kernel
theorem dX6_without_40 : decode cX6_without 40 = .ok (.areturn, 1) := by decide +kernel
theorem dX6_fits_0 : decode cX6_fits 0 = .ok (.aload_n 1, 1) := by decide +kernel
theorem dX6_fits_1 : decode cX6_fits 1 = .ok (.iconst 2, 1) := by decide +kernel
theorem dX6_fits_2 : decode cX6_fits 2 = .ok (.iaload, 1) := by decide +kernel
theorem dX6_fits_3 : decode cX6_fits 3 = .ok (.ifCond .ne 37, 3) := by decide +kernel
theorem dX6_fits_6 : decode cX6_fits 6 = .ok (.aload_n 0, 1) := by decide +kernel
theorem dX6_fits_7 : decode cX6_fits 7 = .ok (.iconst 0, 1) := by decide +kernel
theorem dX6_fits_8 : decode cX6_fits 8 = .ok (.iaload, 1) := by decide +kernel
theorem dX6_fits_9 : decode cX6_fits 9 = .ok (.aload_n 0, 1) := by decide +kernel
theorem dX6_fits_10 : decode cX6_fits 10 = .ok (.iconst 1, 1) := by decide +kernel
theorem dX6_fits_11 : decode cX6_fits 11 = .ok (.iaload, 1) := by decide +kernel
theorem dX6_fits_12 : decode cX6_fits 12 = .ok (.imul, 1) := by decide +kernel
theorem dX6_fits_13 : decode cX6_fits 13 = .ok (.aload_n 1, 1) := by decide +kernel
theorem dX6_fits_14 : decode cX6_fits 14 = .ok (.iconst 0, 1) := by decide +kernel
theorem dX6_fits_15 : decode cX6_fits 15 = .ok (.iaload, 1) := by decide +kernel
theorem dX6_fits_16 : decode cX6_fits 16 = .ok (.if_icmp .ne 24, 3) := by decide +kernel
theorem dX6_fits_19 : decode cX6_fits 19 = .ok (.aload_n 0, 1) := by decide +kernel
theorem dX6_fits_20 : decode cX6_fits 20 = .ok (.iconst 2, 1) := by decide +kernel
theorem dX6_fits_21 : decode cX6_fits 21 = .ok (.iaload, 1) := by decide +kernel
theorem dX6_fits_22 : decode cX6_fits 22 = .ok (.aload_n 1, 1) := by decide +kernel
theorem dX6_fits_23 : decode cX6_fits 23 = .ok (.iconst 1, 1) := by decide +kernel
theorem dX6_fits_24 : decode cX6_fits 24 = .ok (.iaload, 1) := by decide +kernel
theorem dX6_fits_25 : decode cX6_fits 25 = .ok (.if_icmp .lt 15, 3) := by decide +kernel
theorem dX6_fits_28 : decode cX6_fits 28 = .ok (.aload_n 0, 1) := by decide +kernel
theorem dX6_fits_29 : decode cX6_fits 29 = .ok (.iconst 3, 1) := by decide +kernel
theorem dX6_fits_30 : decode cX6_fits 30 = .ok (.iaload, 1) := by decide +kernel
theorem dX6_fits_31 : decode cX6_fits 31 = .ok (.bipush 21, 2) := by decide +kernel
theorem dX6_fits_33 : decode cX6_fits 33 = .ok (.if_icmp .ge 7, 3) := by decide +kernel
theorem dX6_fits_36 : decode cX6_fits 36 = .ok (.iconst 1, 1) := by decide +kernel
theorem dX6_fits_37 : decode cX6_fits 37 = .ok (.goto 4, 3) := by decide +kernel
theorem dX6_fits_40 : decode cX6_fits 40 = .ok (.iconst 0, 1) := by decide +kernel
theorem dX6_fits_41 : decode cX6_fits 41 = .ok (.ireturn, 1) := by decide +kernel
theorem dX6_fill_0 : decode cX6_fill 0 = .ok (.iconst 0, 1) := by decide +kernel
theorem dX6_fill_1 : decode cX6_fill 1 = .ok (.istore_n 1, 1) := by decide +kernel
theorem dX6_fill_2 : decode cX6_fill 2 = .ok (.aload_n 0, 1) := by decide +kernel
theorem dX6_fill_3 : decode cX6_fill 3 = .ok (.getfield 21, 3) := by decide +kernel
theorem dX6_fill_6 : decode cX6_fill 6 = .ok (.astore_n 2, 1) := by decide +kernel
theorem dX6_fill_7 : decode cX6_fill 7 = .ok (.aload_n 2, 1) := by decide +kernel
theorem dX6_fill_8 : decode cX6_fill 8 = .ok (.arraylength, 1) := by decide +kernel
theorem dX6_fill_9 : decode cX6_fill 9 = .ok (.istore_n 3, 1) := by decide +kernel
theorem dX6_fill_10 : decode cX6_fill 10 = .ok (.iconst 0, 1) := by decide +kernel
theorem dX6_fill_11 : decode cX6_fill 11 = .ok (.istore 4, 2) := by decide +kernel
theorem dX6_fill_13 : decode cX6_fill 13 = .ok (.iload 4, 2) := by decide +kernel
theorem dX6_fill_15 : decode cX6_fill 15 = .ok (.iload_n 3, 1) := by decide +kernel
theorem dX6_fill_16 : decode cX6_fill 16 = .ok (.if_icmp .ge 102, 3) := by decide +kernel
theorem dX6_fill_19 : decode cX6_fill 19 = .ok (.aload_n 2, 1) := by decide +kernel
theorem dX6_fill_20 : decode cX6_fill 20 = .ok (.iload 4, 2) := by decide +kernel
theorem dX6_fill_22 : decode cX6_fill 22 = .ok (.aaload, 1) := by decide +kernel
theorem dX6_fill_23 : decode cX6_fill 23 = .ok (.astore 5, 2) := by decide +kernel
theorem dX6_fill_25 : decode cX6_fill 25 = .ok (.iconst 0, 1) := by decide +kernel
theorem dX6_fill_26 : decode cX6_fill 26 = .ok (.istore 6, 2) := by decide +kernel
theorem dX6_fill_28 : decode cX6_fill 28 = .ok (.iload 6, 2) := by decide +kernel
theorem dX6_fill_30 : decode cX6_fill 30 = .ok (.aload_n 0, 1) := by decide +kernel
theorem dX6_fill_31 : decode cX6_fill 31 = .ok (.getfield 17, 3) := by decide +kernel
theorem dX6_fill_34 : decode cX6_fill 34 = .ok (.arraylength, 1) := by decide +kernel
theorem dX6_fill_35 : decode cX6_fill 35 = .ok (.if_icmp .ge 77, 3) := by decide +kernel
theorem dX6_fill_38 : decode cX6_fill 38 = .ok (.aload_n 0, 1) := by decide +kernel
theorem dX6_fill_39 : decode cX6_fill 39 = .ok (.getfield 17, 3) := by decide +kernel
theorem dX6_fill_42 : decode cX6_fill 42 = .ok (.iload 6, 2) := by decide +kernel
theorem dX6_fill_44 : decode cX6_fill 44 = .ok (.aaload, 1) := by decide +kernel
theorem dX6_fill_45 : decode cX6_fill 45 = .ok (.aload 5, 2) := by decide +kernel
theorem dX6_fill_47 : decode cX6_fill 47 = .ok (.invokestatic 24, 3) := by decide +kernel
theorem dX6_fill_50 : decode cX6_fill 50 = .ok (.ifCond .ne 6, 3) := by decide +kernel
theorem dX6_fill_53 : decode cX6_fill 53 = .ok (.goto 53, 3) := by decide +kernel
theorem dX6_fill_56 : decode cX6_fill 56 = .ok (.aload 5, 2) := by decide +kernel
theorem dX6_fill_58 : decode cX6_fill 58 = .ok (.iconst 2, 1) := by decide +kernel
theorem dX6_fill_59 : decode cX6_fill 59 = .ok (.iconst 1, 1) := by decide +kernel
theorem dX6_fill_60 : decode cX6_fill 60 = .ok (.iastore, 1) := by decide +kernel
theorem dX6_fill_61 : decode cX6_fill 61 = .ok (.aload 5, 2) := by decide +kernel
theorem dX6_fill_63 : decode cX6_fill 63 = .ok (.iconst 3, 1) := by decide +kernel
theorem dX6_fill_64 : decode cX6_fill 64 = .ok (.aload_n 0, 1) := by decide +kernel
theorem dX6_fill_65 : decode cX6_fill 65 = .ok (.getfield 17, 3) := by decide +kernel
theorem dX6_fill_68 : decode cX6_fill 68 = .ok (.iload 6, 2) := by decide +kernel
theorem dX6_fill_70 : decode cX6_fill 70 = .ok (.aaload, 1) := by decide +kernel
theorem dX6_fill_71 : decode cX6_fill 71 = .ok (.iconst 2, 1) := by decide +kernel
theorem dX6_fill_72 : decode cX6_fill 72 = .ok (.iaload, 1) := by decide +kernel
theorem dX6_fill_73 : decode cX6_fill 73 = .ok (.iastore, 1) := by decide +kernel
theorem dX6_fill_74 : decode cX6_fill 74 = .ok (.aload 5, 2) := by decide +kernel
theorem dX6_fill_76 : decode cX6_fill 76 = .ok (.iconst 4, 1) := by decide +kernel
theorem dX6_fill_77 : decode cX6_fill 77 = .ok (.aload_n 0, 1) := by decide +kernel
theorem dX6_fill_78 : decode cX6_fill 78 = .ok (.getfield 17, 3) := by decide +kernel
theorem dX6_fill_81 : decode cX6_fill 81 = .ok (.iload 6, 2) := by decide +kernel
theorem dX6_fill_83 : decode cX6_fill 83 = .ok (.aaload, 1) := by decide +kernel
theorem dX6_fill_84 : decode cX6_fill 84 = .ok (.iconst 3, 1) := by decide +kernel
theorem dX6_fill_85 : decode cX6_fill 85 = .ok (.iaload, 1) := by decide +kernel
theorem dX6_fill_86 : decode cX6_fill 86 = .ok (.iastore, 1) := by decide +kernel
theorem dX6_fill_87 : decode cX6_fill 87 = .ok (.aload_n 0, 1) := by decide +kernel
theorem dX6_fill_88 : decode cX6_fill 88 = .ok (.aload_n 0, 1) := by decide +kernel
theorem dX6_fill_89 : decode cX6_fill 89 = .ok (.getfield 17, 3) := by decide +kernel
theorem dX6_fill_92 : decode cX6_fill 92 = .ok (.iload 6, 2) := by decide +kernel
theorem dX6_fill_94 : decode cX6_fill 94 = .ok (.invokestatic 28, 3) := by decide +kernel
theorem dX6_fill_97 : decode cX6_fill 97 = .ok (.putfield 17, 3) := by decide +kernel
theorem dX6_fill_100 : decode cX6_fill 100 = .ok (.iinc 1 1, 3) := by decide +kernel
theorem dX6_fill_103 : decode cX6_fill 103 = .ok (.goto 9, 3) := by decide +kernel
theorem dX6_fill_106 : decode cX6_fill 106 = .ok (.iinc 6 1, 3) := by decide +kernel
theorem dX6_fill_109 : decode cX6_fill 109 = .ok (.goto (-81), 3) := by decide +kernel
theorem dX6_fill_112 : decode cX6_fill 112 = .ok (.iinc 4 1, 3) := by decide +kernel
theorem dX6_fill_115 : decode cX6_fill 115 = .ok (.goto (-102), 3) := by decide +kernel
theorem dX6_fill_118 : decode cX6_fill 118 = .ok (.iload_n 1, 1) := by decide +kernel
theorem dX6_fill_119 : decode cX6_fill 119 = .ok (.ireturn, 1) := by decide +kernel
theorem dX6_pass_0 : decode cX6_pass 0 = .ok (.aload_n 0, 1) := by decide +kernel
theorem dX6_pass_1 : decode cX6_pass 1 = .ok (.getfield 17, 3) := by decide +kernel
theorem dX6_pass_4 : decode cX6_pass 4 = .ok (.astore_n 2, 1) := by decide +kernel
theorem dX6_pass_5 : decode cX6_pass 5 = .ok (.aload_n 2, 1) := by decide +kernel
theorem dX6_pass_6 : decode cX6_pass 6 = .ok (.arraylength, 1) := by decide +kernel
theorem dX6_pass_7 : decode cX6_pass 7 = .ok (.istore_n 3, 1) := by decide +kernel
theorem dX6_pass_8 : decode cX6_pass 8 = .ok (.iconst 0, 1) := by decide +kernel
theorem dX6_pass_9 : decode cX6_pass 9 = .ok (.istore 4, 2) := by decide +kernel
theorem dX6_pass_11 : decode cX6_pass 11 = .ok (.iload 4, 2) := by decide +kernel
theorem dX6_pass_13 : decode cX6_pass 13 = .ok (.iload_n 3, 1) := by decide +kernel
theorem dX6_pass_14 : decode cX6_pass 14 = .ok (.if_icmp .ge 80, 3) := by decide +kernel
theorem dX6_pass_17 : decode cX6_pass 17 = .ok (.aload_n 2, 1) := by decide +kernel
theorem dX6_pass_18 : decode cX6_pass 18 = .ok (.iload 4, 2) := by decide +kernel
theorem dX6_pass_20 : decode cX6_pass 20 = .ok (.aaload, 1) := by decide +kernel
theorem dX6_pass_21 : decode cX6_pass 21 = .ok (.astore 5, 2) := by decide +kernel
theorem dX6_pass_23 : decode cX6_pass 23 = .ok (.bipush 100, 2) := by decide +kernel
theorem dX6_pass_25 : decode cX6_pass 25 = .ok (.aload 5, 2) := by decide +kernel
theorem dX6_pass_27 : decode cX6_pass 27 = .ok (.iconst 2, 1) := by decide +kernel
theorem dX6_pass_28 : decode cX6_pass 28 = .ok (.iaload, 1) := by decide +kernel
theorem dX6_pass_29 : decode cX6_pass 29 = .ok (.isub, 1) := by decide +kernel
theorem dX6_pass_30 : decode cX6_pass 30 = .ok (.bipush 10, 2) := by decide +kernel
theorem dX6_pass_32 : decode cX6_pass 32 = .ok (.idiv, 1) := by decide +kernel
theorem dX6_pass_33 : decode cX6_pass 33 = .ok (.iload_n 1, 1) := by decide +kernel
theorem dX6_pass_34 : decode cX6_pass 34 = .ok (.bipush 24, 2) := by decide +kernel
theorem dX6_pass_36 : decode cX6_pass 36 = .ok (.if_icmp .le 10, 3) := by decide +kernel
theorem dX6_pass_39 : decode cX6_pass 39 = .ok (.iload_n 1, 1) := by decide +kernel
theorem dX6_pass_40 : decode cX6_pass 40 = .ok (.bipush 24, 2) := by decide +kernel
theorem dX6_pass_42 : decode cX6_pass 42 = .ok (.isub, 1) := by decide +kernel
theorem dX6_pass_43 : decode cX6_pass 43 = .ok (.goto 4, 3) := by decide +kernel
theorem dX6_pass_46 : decode cX6_pass 46 = .ok (.iconst 0, 1) := by decide +kernel
theorem dX6_pass_47 : decode cX6_pass 47 = .ok (.iconst 2, 1) := by decide +kernel
theorem dX6_pass_48 : decode cX6_pass 48 = .ok (.imul, 1) := by decide +kernel
theorem dX6_pass_49 : decode cX6_pass 49 = .ok (.iadd, 1) := by decide +kernel
theorem dX6_pass_50 : decode cX6_pass 50 = .ok (.istore 6, 2) := by decide +kernel
theorem dX6_pass_52 : decode cX6_pass 52 = .ok (.aload 5, 2) := by decide +kernel
theorem dX6_pass_54 : decode cX6_pass 54 = .ok (.iconst 3, 1) := by decide +kernel
theorem dX6_pass_55 : decode cX6_pass 55 = .ok (.aload 5, 2) := by decide +kernel
theorem dX6_pass_57 : decode cX6_pass 57 = .ok (.iconst 3, 1) := by decide +kernel
theorem dX6_pass_58 : decode cX6_pass 58 = .ok (.iaload, 1) := by decide +kernel
theorem dX6_pass_59 : decode cX6_pass 59 = .ok (.iload 6, 2) := by decide +kernel
theorem dX6_pass_61 : decode cX6_pass 61 = .ok (.iadd, 1) := by decide +kernel
theorem dX6_pass_62 : decode cX6_pass 62 = .ok (.bipush 100, 2) := by decide +kernel
theorem dX6_pass_64 : decode cX6_pass 64 = .ok (.if_icmp .le 8, 3) := by decide +kernel
theorem dX6_pass_67 : decode cX6_pass 67 = .ok (.bipush 100, 2) := by decide +kernel
theorem dX6_pass_69 : decode cX6_pass 69 = .ok (.goto 10, 3) := by decide +kernel
theorem dX6_pass_72 : decode cX6_pass 72 = .ok (.aload 5, 2) := by decide +kernel
theorem dX6_pass_74 : decode cX6_pass 74 = .ok (.iconst 3, 1) := by decide +kernel
theorem dX6_pass_75 : decode cX6_pass 75 = .ok (.iaload, 1) := by decide +kernel
theorem dX6_pass_76 : decode cX6_pass 76 = .ok (.iload 6, 2) := by decide +kernel
theorem dX6_pass_78 : decode cX6_pass 78 = .ok (.iadd, 1) := by decide +kernel
theorem dX6_pass_79 : decode cX6_pass 79 = .ok (.iastore, 1) := by decide +kernel
theorem dX6_pass_80 : decode cX6_pass 80 = .ok (.aload 5, 2) := by decide +kernel
theorem dX6_pass_82 : decode cX6_pass 82 = .ok (.iconst 4, 1) := by decide +kernel
theorem dX6_pass_83 : decode cX6_pass 83 = .ok (.dup2, 1) := by decide +kernel
theorem dX6_pass_84 : decode cX6_pass 84 = .ok (.iaload, 1) := by decide +kernel
theorem dX6_pass_85 : decode cX6_pass 85 = .ok (.iconst 1, 1) := by decide +kernel
theorem dX6_pass_86 : decode cX6_pass 86 = .ok (.iadd, 1) := by decide +kernel
theorem dX6_pass_87 : decode cX6_pass 87 = .ok (.iastore, 1) := by decide +kernel
theorem dX6_pass_88 : decode cX6_pass 88 = .ok (.iinc 4 1, 3) := by decide +kernel
theorem dX6_pass_91 : decode cX6_pass 91 = .ok (.goto (-80), 3) := by decide +kernel
theorem dX6_pass_94 : decode cX6_pass 94 = .ok (.aload_n 0, 1) := by decide +kernel
theorem dX6_pass_95 : decode cX6_pass 95 = .ok (.dup, 1) := by decide +kernel
theorem dX6_pass_96 : decode cX6_pass 96 = .ok (.getfield 33, 3) := by decide +kernel
theorem dX6_pass_99 : decode cX6_pass 99 = .ok (.iconst 1, 1) := by decide +kernel
theorem dX6_pass_100 : decode cX6_pass 100 = .ok (.iadd, 1) := by decide +kernel
theorem dX6_pass_101 : decode cX6_pass 101 = .ok (.putfield 33, 3) := by decide +kernel
theorem dX6_pass_104 : decode cX6_pass 104 = .ok (.return_, 1) := by decide +kernel
theorem dX6_bloomed_0 : decode cX6_bloomed 0 = .ok (.iconst 0, 1) := by decide +kernel
theorem dX6_bloomed_1 : decode cX6_bloomed 1 = .ok (.istore_n 1, 1) := by decide +kernel
theorem dX6_bloomed_2 : decode cX6_bloomed 2 = .ok (.aload_n 0, 1) := by decide +kernel
theorem dX6_bloomed_3 : decode cX6_bloomed 3 = .ok (.getfield 17, 3) := by decide +kernel
theorem dX6_bloomed_6 : decode cX6_bloomed 6 = .ok (.astore_n 2, 1) := by decide +kernel
theorem dX6_bloomed_7 : decode cX6_bloomed 7 = .ok (.aload_n 2, 1) := by decide +kernel
theorem dX6_bloomed_8 : decode cX6_bloomed 8 = .ok (.arraylength, 1) := by decide +kernel
theorem dX6_bloomed_9 : decode cX6_bloomed 9 = .ok (.istore_n 3, 1) := by decide +kernel
theorem dX6_bloomed_10 : decode cX6_bloomed 10 = .ok (.iconst 0, 1) := by decide +kernel
theorem dX6_bloomed_11 : decode cX6_bloomed 11 = .ok (.istore 4, 2) := by decide +kernel
theorem dX6_bloomed_13 : decode cX6_bloomed 13 = .ok (.iload 4, 2) := by decide +kernel
theorem dX6_bloomed_15 : decode cX6_bloomed 15 = .ok (.iload_n 3, 1) := by decide +kernel
theorem dX6_bloomed_16 : decode cX6_bloomed 16 = .ok (.if_icmp .ge 32, 3) := by decide +kernel
theorem dX6_bloomed_19 : decode cX6_bloomed 19 = .ok (.aload_n 2, 1) := by decide +kernel
theorem dX6_bloomed_20 : decode cX6_bloomed 20 = .ok (.iload 4, 2) := by decide +kernel
theorem dX6_bloomed_22 : decode cX6_bloomed 22 = .ok (.aaload, 1) := by decide +kernel
theorem dX6_bloomed_23 : decode cX6_bloomed 23 = .ok (.astore 5, 2) := by decide +kernel
theorem dX6_bloomed_25 : decode cX6_bloomed 25 = .ok (.iload_n 1, 1) := by decide +kernel
theorem dX6_bloomed_26 : decode cX6_bloomed 26 = .ok (.aload 5, 2) := by decide +kernel
theorem dX6_bloomed_28 : decode cX6_bloomed 28 = .ok (.iconst 3, 1) := by decide +kernel
theorem dX6_bloomed_29 : decode cX6_bloomed 29 = .ok (.iaload, 1) := by decide +kernel
theorem dX6_bloomed_30 : decode cX6_bloomed 30 = .ok (.bipush 20, 2) := by decide +kernel
theorem dX6_bloomed_32 : decode cX6_bloomed 32 = .ok (.if_icmp .le 7, 3) := by decide +kernel
theorem dX6_bloomed_35 : decode cX6_bloomed 35 = .ok (.iconst 1, 1) := by decide +kernel
theorem dX6_bloomed_36 : decode cX6_bloomed 36 = .ok (.goto 4, 3) := by decide +kernel
theorem dX6_bloomed_39 : decode cX6_bloomed 39 = .ok (.iconst 0, 1) := by decide +kernel
theorem dX6_bloomed_40 : decode cX6_bloomed 40 = .ok (.iadd, 1) := by decide +kernel
theorem dX6_bloomed_41 : decode cX6_bloomed 41 = .ok (.istore_n 1, 1) := by decide +kernel
theorem dX6_bloomed_42 : decode cX6_bloomed 42 = .ok (.iinc 4 1, 3) := by decide +kernel
theorem dX6_bloomed_45 : decode cX6_bloomed 45 = .ok (.goto (-32), 3) := by decide +kernel
theorem dX6_bloomed_48 : decode cX6_bloomed 48 = .ok (.iload_n 1, 1) := by decide +kernel
theorem dX6_bloomed_49 : decode cX6_bloomed 49 = .ok (.ireturn, 1) := by decide +kernel
theorem dX6_isSame_0 : decode cX6_isSame 0 = .ok (.bipush 8, 2) := by decide +kernel
theorem dX6_isSame_2 : decode cX6_isSame 2 = .ok (.newarray .int, 2) := by decide +kernel
theorem dX6_isSame_4 : decode cX6_isSame 4 = .ok (.dup, 1) := by decide +kernel
theorem dX6_isSame_5 : decode cX6_isSame 5 = .ok (.iconst 0, 1) := by decide +kernel
theorem dX6_isSame_6 : decode cX6_isSame 6 = .ok (.aload_n 0, 1) := by decide +kernel
theorem dX6_isSame_7 : decode cX6_isSame 7 = .ok (.getfield 33, 3) := by decide +kernel
theorem dX6_isSame_10 : decode cX6_isSame 10 = .ok (.iastore, 1) := by decide +kernel
theorem dX6_isSame_11 : decode cX6_isSame 11 = .ok (.dup, 1) := by decide +kernel
theorem dX6_isSame_12 : decode cX6_isSame 12 = .ok (.iconst 1, 1) := by decide +kernel
theorem dX6_isSame_13 : decode cX6_isSame 13 = .ok (.aload_n 0, 1) := by decide +kernel
theorem dX6_isSame_14 : decode cX6_isSame 14 = .ok (.getfield 9, 3) := by decide +kernel
theorem dX6_isSame_17 : decode cX6_isSame 17 = .ok (.arraylength, 1) := by decide +kernel
theorem dX6_isSame_18 : decode cX6_isSame 18 = .ok (.iastore, 1) := by decide +kernel
theorem dX6_isSame_19 : decode cX6_isSame 19 = .ok (.dup, 1) := by decide +kernel
theorem dX6_isSame_20 : decode cX6_isSame 20 = .ok (.iconst 2, 1) := by decide +kernel
theorem dX6_isSame_21 : decode cX6_isSame 21 = .ok (.aload_n 0, 1) := by decide +kernel
theorem dX6_isSame_22 : decode cX6_isSame 22 = .ok (.getfield 17, 3) := by decide +kernel
theorem dX6_isSame_25 : decode cX6_isSame 25 = .ok (.arraylength, 1) := by decide +kernel
theorem dX6_isSame_26 : decode cX6_isSame 26 = .ok (.iastore, 1) := by decide +kernel
theorem dX6_isSame_27 : decode cX6_isSame 27 = .ok (.dup, 1) := by decide +kernel
theorem dX6_isSame_28 : decode cX6_isSame 28 = .ok (.iconst 3, 1) := by decide +kernel
theorem dX6_isSame_29 : decode cX6_isSame 29 = .ok (.aload_n 0, 1) := by decide +kernel
theorem dX6_isSame_30 : decode cX6_isSame 30 = .ok (.getfield 21, 3) := by decide +kernel
theorem dX6_isSame_33 : decode cX6_isSame 33 = .ok (.arraylength, 1) := by decide +kernel
theorem dX6_isSame_34 : decode cX6_isSame 34 = .ok (.iastore, 1) := by decide +kernel
theorem dX6_isSame_35 : decode cX6_isSame 35 = .ok (.dup, 1) := by decide +kernel
theorem dX6_isSame_36 : decode cX6_isSame 36 = .ok (.iconst 4, 1) := by decide +kernel
theorem dX6_isSame_37 : decode cX6_isSame 37 = .ok (.iconst 0, 1) := by decide +kernel
theorem dX6_isSame_38 : decode cX6_isSame 38 = .ok (.iastore, 1) := by decide +kernel
theorem dX6_isSame_39 : decode cX6_isSame 39 = .ok (.dup, 1) := by decide +kernel
theorem dX6_isSame_40 : decode cX6_isSame 40 = .ok (.iconst 5, 1) := by decide +kernel
theorem dX6_isSame_41 : decode cX6_isSame 41 = .ok (.iconst 0, 1) := by decide +kernel
theorem dX6_isSame_42 : decode cX6_isSame 42 = .ok (.iastore, 1) := by decide +kernel
theorem dX6_isSame_43 : decode cX6_isSame 43 = .ok (.dup, 1) := by decide +kernel
theorem dX6_isSame_44 : decode cX6_isSame 44 = .ok (.bipush 6, 2) := by decide +kernel
theorem dX6_isSame_46 : decode cX6_isSame 46 = .ok (.iconst 0, 1) := by decide +kernel
theorem dX6_isSame_47 : decode cX6_isSame 47 = .ok (.iastore, 1) := by decide +kernel
theorem dX6_isSame_48 : decode cX6_isSame 48 = .ok (.dup, 1) := by decide +kernel
theorem dX6_isSame_49 : decode cX6_isSame 49 = .ok (.bipush 7, 2) := by decide +kernel
theorem dX6_isSame_51 : decode cX6_isSame 51 = .ok (.aload_n 0, 1) := by decide +kernel
theorem dX6_isSame_52 : decode cX6_isSame 52 = .ok (.invokevirtual 49, 3) := by decide +kernel
theorem dX6_isSame_55 : decode cX6_isSame 55 = .ok (.iastore, 1) := by decide +kernel
theorem dX6_isSame_56 : decode cX6_isSame 56 = .ok (.astore_n 2, 1) := by decide +kernel
theorem dX6_isSame_57 : decode cX6_isSame 57 = .ok (.iconst 0, 1) := by decide +kernel
theorem dX6_isSame_58 : decode cX6_isSame 58 = .ok (.istore_n 3, 1) := by decide +kernel
theorem dX6_isSame_59 : decode cX6_isSame 59 = .ok (.iconst 0, 1) := by decide +kernel
theorem dX6_isSame_60 : decode cX6_isSame 60 = .ok (.istore 4, 2) := by decide +kernel
theorem dX6_isSame_62 : decode cX6_isSame 62 = .ok (.iload 4, 2) := by decide +kernel
theorem dX6_isSame_64 : decode cX6_isSame 64 = .ok (.aload_n 0, 1) := by decide +kernel
theorem dX6_isSame_65 : decode cX6_isSame 65 = .ok (.getfield 9, 3) := by decide +kernel
theorem dX6_isSame_68 : decode cX6_isSame 68 = .ok (.arraylength, 1) := by decide +kernel
theorem dX6_isSame_69 : decode cX6_isSame 69 = .ok (.if_icmp .ge 145, 3) := by decide +kernel
theorem dX6_isSame_72 : decode cX6_isSame 72 = .ok (.aload_n 0, 1) := by decide +kernel
theorem dX6_isSame_73 : decode cX6_isSame 73 = .ok (.getfield 9, 3) := by decide +kernel
theorem dX6_isSame_76 : decode cX6_isSame 76 = .ok (.iload 4, 2) := by decide +kernel
theorem dX6_isSame_78 : decode cX6_isSame 78 = .ok (.aaload, 1) := by decide +kernel
theorem dX6_isSame_79 : decode cX6_isSame 79 = .ok (.astore 5, 2) := by decide +kernel
theorem dX6_isSame_81 : decode cX6_isSame 81 = .ok (.bipush 8, 2) := by decide +kernel
theorem dX6_isSame_83 : decode cX6_isSame 83 = .ok (.newarray .int, 2) := by decide +kernel
theorem dX6_isSame_85 : decode cX6_isSame 85 = .ok (.dup, 1) := by decide +kernel
theorem dX6_isSame_86 : decode cX6_isSame 86 = .ok (.iconst 0, 1) := by decide +kernel
theorem dX6_isSame_87 : decode cX6_isSame 87 = .ok (.aload 5, 2) := by decide +kernel
theorem dX6_isSame_89 : decode cX6_isSame 89 = .ok (.getfield 53, 3) := by decide +kernel
theorem dX6_isSame_92 : decode cX6_isSame 92 = .ok (.iastore, 1) := by decide +kernel
theorem dX6_isSame_93 : decode cX6_isSame 93 = .ok (.dup, 1) := by decide +kernel
theorem dX6_isSame_94 : decode cX6_isSame 94 = .ok (.iconst 1, 1) := by decide +kernel
theorem dX6_isSame_95 : decode cX6_isSame 95 = .ok (.aload 5, 2) := by decide +kernel
theorem dX6_isSame_97 : decode cX6_isSame 97 = .ok (.getfield 56, 3) := by decide +kernel
theorem dX6_isSame_100 : decode cX6_isSame 100 = .ok (.iconst 1, 1) := by decide +kernel
theorem dX6_isSame_101 : decode cX6_isSame 101 = .ok (.iaload, 1) := by decide +kernel
theorem dX6_isSame_102 : decode cX6_isSame 102 = .ok (.iastore, 1) := by decide +kernel
theorem dX6_isSame_103 : decode cX6_isSame 103 = .ok (.dup, 1) := by decide +kernel
theorem dX6_isSame_104 : decode cX6_isSame 104 = .ok (.iconst 2, 1) := by decide +kernel
theorem dX6_isSame_105 : decode cX6_isSame 105 = .ok (.aload 5, 2) := by decide +kernel
theorem dX6_isSame_107 : decode cX6_isSame 107 = .ok (.getfield 56, 3) := by decide +kernel
theorem dX6_isSame_110 : decode cX6_isSame 110 = .ok (.iconst 2, 1) := by decide +kernel
theorem dX6_isSame_111 : decode cX6_isSame 111 = .ok (.iaload, 1) := by decide +kernel
theorem dX6_isSame_112 : decode cX6_isSame 112 = .ok (.iastore, 1) := by decide +kernel
theorem dX6_isSame_113 : decode cX6_isSame 113 = .ok (.dup, 1) := by decide +kernel
theorem dX6_isSame_114 : decode cX6_isSame 114 = .ok (.iconst 3, 1) := by decide +kernel
theorem dX6_isSame_115 : decode cX6_isSame 115 = .ok (.aload 5, 2) := by decide +kernel
theorem dX6_isSame_117 : decode cX6_isSame 117 = .ok (.getfield 56, 3) := by decide +kernel
theorem dX6_isSame_120 : decode cX6_isSame 120 = .ok (.iconst 3, 1) := by decide +kernel
theorem dX6_isSame_121 : decode cX6_isSame 121 = .ok (.iaload, 1) := by decide +kernel
theorem dX6_isSame_122 : decode cX6_isSame 122 = .ok (.iastore, 1) := by decide +kernel
theorem dX6_isSame_123 : decode cX6_isSame 123 = .ok (.dup, 1) := by decide +kernel
theorem dX6_isSame_124 : decode cX6_isSame 124 = .ok (.iconst 4, 1) := by decide +kernel
theorem dX6_isSame_125 : decode cX6_isSame 125 = .ok (.aload 5, 2) := by decide +kernel
theorem dX6_isSame_127 : decode cX6_isSame 127 = .ok (.getfield 56, 3) := by decide +kernel
theorem dX6_isSame_130 : decode cX6_isSame 130 = .ok (.iconst 4, 1) := by decide +kernel
theorem dX6_isSame_131 : decode cX6_isSame 131 = .ok (.iaload, 1) := by decide +kernel
theorem dX6_isSame_132 : decode cX6_isSame 132 = .ok (.iastore, 1) := by decide +kernel
theorem dX6_isSame_133 : decode cX6_isSame 133 = .ok (.dup, 1) := by decide +kernel
theorem dX6_isSame_134 : decode cX6_isSame 134 = .ok (.iconst 5, 1) := by decide +kernel
theorem dX6_isSame_135 : decode cX6_isSame 135 = .ok (.aload 5, 2) := by decide +kernel
theorem dX6_isSame_137 : decode cX6_isSame 137 = .ok (.getfield 56, 3) := by decide +kernel
theorem dX6_isSame_140 : decode cX6_isSame 140 = .ok (.iconst 5, 1) := by decide +kernel
theorem dX6_isSame_141 : decode cX6_isSame 141 = .ok (.iaload, 1) := by decide +kernel
theorem dX6_isSame_142 : decode cX6_isSame 142 = .ok (.iastore, 1) := by decide +kernel
theorem dX6_isSame_143 : decode cX6_isSame 143 = .ok (.dup, 1) := by decide +kernel
theorem dX6_isSame_144 : decode cX6_isSame 144 = .ok (.bipush 6, 2) := by decide +kernel
theorem dX6_isSame_146 : decode cX6_isSame 146 = .ok (.aload 5, 2) := by decide +kernel
theorem dX6_isSame_148 : decode cX6_isSame 148 = .ok (.getfield 59, 3) := by decide +kernel
theorem dX6_isSame_151 : decode cX6_isSame 151 = .ok (.iastore, 1) := by decide +kernel
theorem dX6_isSame_152 : decode cX6_isSame 152 = .ok (.dup, 1) := by decide +kernel
theorem dX6_isSame_153 : decode cX6_isSame 153 = .ok (.bipush 7, 2) := by decide +kernel
theorem dX6_isSame_155 : decode cX6_isSame 155 = .ok (.aload 5, 2) := by decide +kernel
theorem dX6_isSame_157 : decode cX6_isSame 157 = .ok (.invokevirtual 62, 3) := by decide +kernel
theorem dX6_isSame_160 : decode cX6_isSame 160 = .ok (.iastore, 1) := by decide +kernel
theorem dX6_isSame_161 : decode cX6_isSame 161 = .ok (.astore 6, 2) := by decide +kernel
theorem dX6_isSame_163 : decode cX6_isSame 163 = .ok (.iconst 0, 1) := by decide +kernel
theorem dX6_isSame_164 : decode cX6_isSame 164 = .ok (.istore 7, 2) := by decide +kernel
theorem dX6_isSame_166 : decode cX6_isSame 166 = .ok (.iload 7, 2) := by decide +kernel
theorem dX6_isSame_168 : decode cX6_isSame 168 = .ok (.bipush 8, 2) := by decide +kernel
theorem dX6_isSame_170 : decode cX6_isSame 170 = .ok (.if_icmp .ge 27, 3) := by decide +kernel
theorem dX6_isSame_173 : decode cX6_isSame 173 = .ok (.aload_n 1, 1) := by decide +kernel
theorem dX6_isSame_174 : decode cX6_isSame 174 = .ok (.iload 4, 2) := by decide +kernel
theorem dX6_isSame_176 : decode cX6_isSame 176 = .ok (.iload 7, 2) := by decide +kernel
theorem dX6_isSame_178 : decode cX6_isSame 178 = .ok (.invokevirtual 65, 3) := by decide +kernel
theorem dX6_isSame_181 : decode cX6_isSame 181 = .ok (.aload 6, 2) := by decide +kernel
theorem dX6_isSame_183 : decode cX6_isSame 183 = .ok (.iload 7, 2) := by decide +kernel
theorem dX6_isSame_185 : decode cX6_isSame 185 = .ok (.iaload, 1) := by decide +kernel
theorem dX6_isSame_186 : decode cX6_isSame 186 = .ok (.if_icmp .eq 5, 3) := by decide +kernel
theorem dX6_isSame_189 : decode cX6_isSame 189 = .ok (.iconst 0, 1) := by decide +kernel
theorem dX6_isSame_190 : decode cX6_isSame 190 = .ok (.ireturn, 1) := by decide +kernel
theorem dX6_isSame_191 : decode cX6_isSame 191 = .ok (.iinc 7 1, 3) := by decide +kernel
theorem dX6_isSame_194 : decode cX6_isSame 194 = .ok (.goto (-28), 3) := by decide +kernel
theorem dX6_isSame_197 : decode cX6_isSame 197 = .ok (.aload_n 2, 1) := by decide +kernel
theorem dX6_isSame_198 : decode cX6_isSame 198 = .ok (.iconst 5, 1) := by decide +kernel
theorem dX6_isSame_199 : decode cX6_isSame 199 = .ok (.dup2, 1) := by decide +kernel
theorem dX6_isSame_200 : decode cX6_isSame 200 = .ok (.iaload, 1) := by decide +kernel
theorem dX6_isSame_201 : decode cX6_isSame 201 = .ok (.aload 5, 2) := by decide +kernel
theorem dX6_isSame_203 : decode cX6_isSame 203 = .ok (.getfield 53, 3) := by decide +kernel
theorem dX6_isSame_206 : decode cX6_isSame 206 = .ok (.iadd, 1) := by decide +kernel
theorem dX6_isSame_207 : decode cX6_isSame 207 = .ok (.iastore, 1) := by decide +kernel
theorem dX6_isSame_208 : decode cX6_isSame 208 = .ok (.iinc 4 1, 3) := by decide +kernel
theorem dX6_isSame_211 : decode cX6_isSame 211 = .ok (.goto (-149), 3) := by decide +kernel
theorem dX6_isSame_214 : decode cX6_isSame 214 = .ok (.iconst 0, 1) := by decide +kernel
theorem dX6_isSame_215 : decode cX6_isSame 215 = .ok (.istore 4, 2) := by decide +kernel
theorem dX6_isSame_217 : decode cX6_isSame 217 = .ok (.iload 4, 2) := by decide +kernel
theorem dX6_isSame_219 : decode cX6_isSame 219 = .ok (.aload_n 0, 1) := by decide +kernel
theorem dX6_isSame_220 : decode cX6_isSame 220 = .ok (.getfield 17, 3) := by decide +kernel
theorem dX6_isSame_223 : decode cX6_isSame 223 = .ok (.arraylength, 1) := by decide +kernel
theorem dX6_isSame_224 : decode cX6_isSame 224 = .ok (.if_icmp .ge 150, 3) := by decide +kernel
theorem dX6_isSame_227 : decode cX6_isSame 227 = .ok (.aload_n 0, 1) := by decide +kernel
theorem dX6_isSame_228 : decode cX6_isSame 228 = .ok (.getfield 17, 3) := by decide +kernel
theorem dX6_isSame_231 : decode cX6_isSame 231 = .ok (.iload 4, 2) := by decide +kernel
theorem dX6_isSame_233 : decode cX6_isSame 233 = .ok (.aaload, 1) := by decide +kernel
theorem dX6_isSame_234 : decode cX6_isSame 234 = .ok (.astore 5, 2) := by decide +kernel
theorem dX6_isSame_236 : decode cX6_isSame 236 = .ok (.iconst (-1), 1) := by decide +kernel
theorem dX6_isSame_237 : decode cX6_isSame 237 = .ok (.istore 6, 2) := by decide +kernel
theorem dX6_isSame_239 : decode cX6_isSame 239 = .ok (.aload_n 0, 1) := by decide +kernel
theorem dX6_isSame_240 : decode cX6_isSame 240 = .ok (.getfield 21, 3) := by decide +kernel
theorem dX6_isSame_243 : decode cX6_isSame 243 = .ok (.arraylength, 1) := by decide +kernel
theorem dX6_isSame_244 : decode cX6_isSame 244 = .ok (.iconst 1, 1) := by decide +kernel
theorem dX6_isSame_245 : decode cX6_isSame 245 = .ok (.isub, 1) := by decide +kernel
theorem dX6_isSame_246 : decode cX6_isSame 246 = .ok (.istore 7, 2) := by decide +kernel
theorem dX6_isSame_248 : decode cX6_isSame 248 = .ok (.iload 7, 2) := by decide +kernel
theorem dX6_isSame_250 : decode cX6_isSame 250 = .ok (.ifCond .lt 28, 3) := by decide +kernel
theorem dX6_isSame_253 : decode cX6_isSame 253 = .ok (.aload 5, 2) := by decide +kernel
theorem dX6_isSame_255 : decode cX6_isSame 255 = .ok (.aload_n 0, 1) := by decide +kernel
theorem dX6_isSame_256 : decode cX6_isSame 256 = .ok (.getfield 21, 3) := by decide +kernel
theorem dX6_isSame_259 : decode cX6_isSame 259 = .ok (.iload 7, 2) := by decide +kernel
theorem dX6_isSame_261 : decode cX6_isSame 261 = .ok (.aaload, 1) := by decide +kernel
theorem dX6_isSame_262 : decode cX6_isSame 262 = .ok (.invokestatic 24, 3) := by decide +kernel
theorem dX6_isSame_265 : decode cX6_isSame 265 = .ok (.ifCond .eq 7, 3) := by decide +kernel
theorem dX6_isSame_268 : decode cX6_isSame 268 = .ok (.iload 7, 2) := by decide +kernel
theorem dX6_isSame_270 : decode cX6_isSame 270 = .ok (.istore 6, 2) := by decide +kernel
theorem dX6_isSame_272 : decode cX6_isSame 272 = .ok (.iinc 7 (-1), 3) := by decide +kernel
theorem dX6_isSame_275 : decode cX6_isSame 275 = .ok (.goto (-27), 3) := by decide +kernel
theorem dX6_isSame_278 : decode cX6_isSame 278 = .ok (.iconst 0, 1) := by decide +kernel
theorem dX6_isSame_279 : decode cX6_isSame 279 = .ok (.istore 7, 2) := by decide +kernel
theorem dX6_isSame_281 : decode cX6_isSame 281 = .ok (.iload 7, 2) := by decide +kernel
theorem dX6_isSame_283 : decode cX6_isSame 283 = .ok (.iconst 5, 1) := by decide +kernel
theorem dX6_isSame_284 : decode cX6_isSame 284 = .ok (.if_icmp .ge 27, 3) := by decide +kernel
theorem dX6_isSame_287 : decode cX6_isSame 287 = .ok (.aload_n 1, 1) := by decide +kernel
theorem dX6_isSame_288 : decode cX6_isSame 288 = .ok (.iload 4, 2) := by decide +kernel
theorem dX6_isSame_290 : decode cX6_isSame 290 = .ok (.iload 7, 2) := by decide +kernel
theorem dX6_isSame_292 : decode cX6_isSame 292 = .ok (.invokevirtual 71, 3) := by decide +kernel
theorem dX6_isSame_295 : decode cX6_isSame 295 = .ok (.aload 5, 2) := by decide +kernel
theorem dX6_isSame_297 : decode cX6_isSame 297 = .ok (.iload 7, 2) := by decide +kernel
theorem dX6_isSame_299 : decode cX6_isSame 299 = .ok (.iaload, 1) := by decide +kernel
theorem dX6_isSame_300 : decode cX6_isSame 300 = .ok (.if_icmp .eq 5, 3) := by decide +kernel
theorem dX6_isSame_303 : decode cX6_isSame 303 = .ok (.iconst 0, 1) := by decide +kernel
theorem dX6_isSame_304 : decode cX6_isSame 304 = .ok (.ireturn, 1) := by decide +kernel
theorem dX6_isSame_305 : decode cX6_isSame 305 = .ok (.iinc 7 1, 3) := by decide +kernel
theorem dX6_isSame_308 : decode cX6_isSame 308 = .ok (.goto (-27), 3) := by decide +kernel
theorem dX6_isSame_311 : decode cX6_isSame 311 = .ok (.aload_n 1, 1) := by decide +kernel
theorem dX6_isSame_312 : decode cX6_isSame 312 = .ok (.iload 4, 2) := by decide +kernel
theorem dX6_isSame_314 : decode cX6_isSame 314 = .ok (.iconst 5, 1) := by decide +kernel
theorem dX6_isSame_315 : decode cX6_isSame 315 = .ok (.invokevirtual 71, 3) := by decide +kernel
theorem dX6_isSame_318 : decode cX6_isSame 318 = .ok (.aload 5, 2) := by decide +kernel
theorem dX6_isSame_320 : decode cX6_isSame 320 = .ok (.iconst 0, 1) := by decide +kernel
theorem dX6_isSame_321 : decode cX6_isSame 321 = .ok (.iaload, 1) := by decide +kernel
theorem dX6_isSame_322 : decode cX6_isSame 322 = .ok (.aload 5, 2) := by decide +kernel
theorem dX6_isSame_324 : decode cX6_isSame 324 = .ok (.iconst 1, 1) := by decide +kernel
theorem dX6_isSame_325 : decode cX6_isSame 325 = .ok (.iaload, 1) := by decide +kernel
theorem dX6_isSame_326 : decode cX6_isSame 326 = .ok (.imul, 1) := by decide +kernel
theorem dX6_isSame_327 : decode cX6_isSame 327 = .ok (.if_icmp .ne 16, 3) := by decide +kernel
theorem dX6_isSame_330 : decode cX6_isSame 330 = .ok (.aload_n 1, 1) := by decide +kernel
theorem dX6_isSame_331 : decode cX6_isSame 331 = .ok (.iload 4, 2) := by decide +kernel
theorem dX6_isSame_333 : decode cX6_isSame 333 = .ok (.bipush 6, 2) := by decide +kernel
theorem dX6_isSame_335 : decode cX6_isSame 335 = .ok (.invokevirtual 71, 3) := by decide +kernel
theorem dX6_isSame_338 : decode cX6_isSame 338 = .ok (.iload 6, 2) := by decide +kernel
theorem dX6_isSame_340 : decode cX6_isSame 340 = .ok (.if_icmp .eq 5, 3) := by decide +kernel
theorem dX6_isSame_343 : decode cX6_isSame 343 = .ok (.iconst 0, 1) := by decide +kernel
theorem dX6_isSame_344 : decode cX6_isSame 344 = .ok (.ireturn, 1) := by decide +kernel
theorem dX6_isSame_345 : decode cX6_isSame 345 = .ok (.aload_n 2, 1) := by decide +kernel
theorem dX6_isSame_346 : decode cX6_isSame 346 = .ok (.bipush 6, 2) := by decide +kernel
theorem dX6_isSame_348 : decode cX6_isSame 348 = .ok (.dup2, 1) := by decide +kernel
theorem dX6_isSame_349 : decode cX6_isSame 349 = .ok (.iaload, 1) := by decide +kernel
theorem dX6_isSame_350 : decode cX6_isSame 350 = .ok (.aload 5, 2) := by decide +kernel
theorem dX6_isSame_352 : decode cX6_isSame 352 = .ok (.iconst 0, 1) := by decide +kernel
theorem dX6_isSame_353 : decode cX6_isSame 353 = .ok (.iaload, 1) := by decide +kernel
theorem dX6_isSame_354 : decode cX6_isSame 354 = .ok (.aload 5, 2) := by decide +kernel
theorem dX6_isSame_356 : decode cX6_isSame 356 = .ok (.iconst 1, 1) := by decide +kernel
theorem dX6_isSame_357 : decode cX6_isSame 357 = .ok (.iaload, 1) := by decide +kernel
theorem dX6_isSame_358 : decode cX6_isSame 358 = .ok (.imul, 1) := by decide +kernel
theorem dX6_isSame_359 : decode cX6_isSame 359 = .ok (.iadd, 1) := by decide +kernel
theorem dX6_isSame_360 : decode cX6_isSame 360 = .ok (.iastore, 1) := by decide +kernel
theorem dX6_isSame_361 : decode cX6_isSame 361 = .ok (.iload_n 3, 1) := by decide +kernel
theorem dX6_isSame_362 : decode cX6_isSame 362 = .ok (.aload 5, 2) := by decide +kernel
theorem dX6_isSame_364 : decode cX6_isSame 364 = .ok (.iconst 3, 1) := by decide +kernel
theorem dX6_isSame_365 : decode cX6_isSame 365 = .ok (.iaload, 1) := by decide +kernel
theorem dX6_isSame_366 : decode cX6_isSame 366 = .ok (.iadd, 1) := by decide +kernel
theorem dX6_isSame_367 : decode cX6_isSame 367 = .ok (.istore_n 3, 1) := by decide +kernel
theorem dX6_isSame_368 : decode cX6_isSame 368 = .ok (.iinc 4 1, 3) := by decide +kernel
theorem dX6_isSame_371 : decode cX6_isSame 371 = .ok (.goto (-154), 3) := by decide +kernel
theorem dX6_isSame_374 : decode cX6_isSame 374 = .ok (.iconst 0, 1) := by decide +kernel
theorem dX6_isSame_375 : decode cX6_isSame 375 = .ok (.istore 4, 2) := by decide +kernel
theorem dX6_isSame_377 : decode cX6_isSame 377 = .ok (.iload 4, 2) := by decide +kernel
theorem dX6_isSame_379 : decode cX6_isSame 379 = .ok (.aload_n 0, 1) := by decide +kernel
theorem dX6_isSame_380 : decode cX6_isSame 380 = .ok (.getfield 21, 3) := by decide +kernel
theorem dX6_isSame_383 : decode cX6_isSame 383 = .ok (.arraylength, 1) := by decide +kernel
theorem dX6_isSame_384 : decode cX6_isSame 384 = .ok (.if_icmp .ge 62, 3) := by decide +kernel
theorem dX6_isSame_387 : decode cX6_isSame 387 = .ok (.iconst 0, 1) := by decide +kernel
theorem dX6_isSame_388 : decode cX6_isSame 388 = .ok (.istore 5, 2) := by decide +kernel
theorem dX6_isSame_390 : decode cX6_isSame 390 = .ok (.iload 5, 2) := by decide +kernel
theorem dX6_isSame_392 : decode cX6_isSame 392 = .ok (.iconst 5, 1) := by decide +kernel
theorem dX6_isSame_393 : decode cX6_isSame 393 = .ok (.if_icmp .ge 32, 3) := by decide +kernel
theorem dX6_isSame_396 : decode cX6_isSame 396 = .ok (.aload_n 1, 1) := by decide +kernel
theorem dX6_isSame_397 : decode cX6_isSame 397 = .ok (.iload 4, 2) := by decide +kernel
theorem dX6_isSame_399 : decode cX6_isSame 399 = .ok (.iload 5, 2) := by decide +kernel
theorem dX6_isSame_401 : decode cX6_isSame 401 = .ok (.invokevirtual 74, 3) := by decide +kernel
theorem dX6_isSame_404 : decode cX6_isSame 404 = .ok (.aload_n 0, 1) := by decide +kernel
theorem dX6_isSame_405 : decode cX6_isSame 405 = .ok (.getfield 21, 3) := by decide +kernel
theorem dX6_isSame_408 : decode cX6_isSame 408 = .ok (.iload 4, 2) := by decide +kernel
theorem dX6_isSame_410 : decode cX6_isSame 410 = .ok (.aaload, 1) := by decide +kernel
theorem dX6_isSame_411 : decode cX6_isSame 411 = .ok (.iload 5, 2) := by decide +kernel
theorem dX6_isSame_413 : decode cX6_isSame 413 = .ok (.iaload, 1) := by decide +kernel
theorem dX6_isSame_414 : decode cX6_isSame 414 = .ok (.if_icmp .eq 5, 3) := by decide +kernel
theorem dX6_isSame_417 : decode cX6_isSame 417 = .ok (.iconst 0, 1) := by decide +kernel
theorem dX6_isSame_418 : decode cX6_isSame 418 = .ok (.ireturn, 1) := by decide +kernel
theorem dX6_isSame_419 : decode cX6_isSame 419 = .ok (.iinc 5 1, 3) := by decide +kernel
theorem dX6_isSame_422 : decode cX6_isSame 422 = .ok (.goto (-32), 3) := by decide +kernel
theorem dX6_isSame_425 : decode cX6_isSame 425 = .ok (.aload_n 2, 1) := by decide +kernel
theorem dX6_isSame_426 : decode cX6_isSame 426 = .ok (.iconst 4, 1) := by decide +kernel
theorem dX6_isSame_427 : decode cX6_isSame 427 = .ok (.dup2, 1) := by decide +kernel
theorem dX6_isSame_428 : decode cX6_isSame 428 = .ok (.iaload, 1) := by decide +kernel
theorem dX6_isSame_429 : decode cX6_isSame 429 = .ok (.aload_n 0, 1) := by decide +kernel
theorem dX6_isSame_430 : decode cX6_isSame 430 = .ok (.getfield 21, 3) := by decide +kernel
theorem dX6_isSame_433 : decode cX6_isSame 433 = .ok (.iload 4, 2) := by decide +kernel
theorem dX6_isSame_435 : decode cX6_isSame 435 = .ok (.aaload, 1) := by decide +kernel
theorem dX6_isSame_436 : decode cX6_isSame 436 = .ok (.iconst 2, 1) := by decide +kernel
theorem dX6_isSame_437 : decode cX6_isSame 437 = .ok (.iaload, 1) := by decide +kernel
theorem dX6_isSame_438 : decode cX6_isSame 438 = .ok (.iadd, 1) := by decide +kernel
theorem dX6_isSame_439 : decode cX6_isSame 439 = .ok (.iastore, 1) := by decide +kernel
theorem dX6_isSame_440 : decode cX6_isSame 440 = .ok (.iinc 4 1, 3) := by decide +kernel
theorem dX6_isSame_443 : decode cX6_isSame 443 = .ok (.goto (-66), 3) := by decide +kernel
theorem dX6_isSame_446 : decode cX6_isSame 446 = .ok (.iconst 0, 1) := by decide +kernel
theorem dX6_isSame_447 : decode cX6_isSame 447 = .ok (.istore 4, 2) := by decide +kernel
theorem dX6_isSame_449 : decode cX6_isSame 449 = .ok (.iload 4, 2) := by decide +kernel
theorem dX6_isSame_451 : decode cX6_isSame 451 = .ok (.bipush 8, 2) := by decide +kernel
theorem dX6_isSame_453 : decode cX6_isSame 453 = .ok (.if_icmp .ge 24, 3) := by decide +kernel
theorem dX6_isSame_456 : decode cX6_isSame 456 = .ok (.aload_n 1, 1) := by decide +kernel
theorem dX6_isSame_457 : decode cX6_isSame 457 = .ok (.iload 4, 2) := by decide +kernel
theorem dX6_isSame_459 : decode cX6_isSame 459 = .ok (.invokevirtual 77, 3) := by decide +kernel
theorem dX6_isSame_462 : decode cX6_isSame 462 = .ok (.aload_n 2, 1) := by decide +kernel
theorem dX6_isSame_463 : decode cX6_isSame 463 = .ok (.iload 4, 2) := by decide +kernel
theorem dX6_isSame_465 : decode cX6_isSame 465 = .ok (.iaload, 1) := by decide +kernel
theorem dX6_isSame_466 : decode cX6_isSame 466 = .ok (.if_icmp .eq 5, 3) := by decide +kernel
theorem dX6_isSame_469 : decode cX6_isSame 469 = .ok (.iconst 0, 1) := by decide +kernel
theorem dX6_isSame_470 : decode cX6_isSame 470 = .ok (.ireturn, 1) := by decide +kernel
theorem dX6_isSame_471 : decode cX6_isSame 471 = .ok (.iinc 4 1, 3) := by decide +kernel
theorem dX6_isSame_474 : decode cX6_isSame 474 = .ok (.goto (-25), 3) := by decide +kernel
theorem dX6_isSame_477 : decode cX6_isSame 477 = .ok (.aload_n 1, 1) := by decide +kernel
theorem dX6_isSame_478 : decode cX6_isSame 478 = .ok (.invokevirtual 81, 3) := by decide +kernel
theorem dX6_isSame_481 : decode cX6_isSame 481 = .ok (.aload_n 0, 1) := by decide +kernel
theorem dX6_isSame_482 : decode cX6_isSame 482 = .ok (.getfield 17, 3) := by decide +kernel
theorem dX6_isSame_485 : decode cX6_isSame 485 = .ok (.arraylength, 1) := by decide +kernel
theorem dX6_isSame_486 : decode cX6_isSame 486 = .ok (.ifCond .ne 7, 3) := by decide +kernel
theorem dX6_isSame_489 : decode cX6_isSame 489 = .ok (.dconst 0, 1) := by decide +kernel
theorem dX6_isSame_490 : decode cX6_isSame 490 = .ok (.goto 12, 3) := by decide +kernel
theorem dX6_isSame_493 : decode cX6_isSame 493 = .ok (.iload_n 3, 1) := by decide +kernel
theorem dX6_isSame_494 : decode cX6_isSame 494 = .ok (.i2d, 1) := by decide +kernel
theorem dX6_isSame_495 : decode cX6_isSame 495 = .ok (.aload_n 0, 1) := by decide +kernel
theorem dX6_isSame_496 : decode cX6_isSame 496 = .ok (.getfield 17, 3) := by decide +kernel
theorem dX6_isSame_499 : decode cX6_isSame 499 = .ok (.arraylength, 1) := by decide +kernel
theorem dX6_isSame_500 : decode cX6_isSame 500 = .ok (.i2d, 1) := by decide +kernel
theorem dX6_isSame_501 : decode cX6_isSame 501 = .ok (.ddiv, 1) := by decide +kernel
theorem dX6_isSame_502 : decode cX6_isSame 502 = .ok (.dcmp .l, 1) := by decide +kernel
theorem dX6_isSame_503 : decode cX6_isSame 503 = .ok (.ifCond .ne 7, 3) := by decide +kernel
theorem dX6_isSame_506 : decode cX6_isSame 506 = .ok (.iconst 1, 1) := by decide +kernel
theorem dX6_isSame_507 : decode cX6_isSame 507 = .ok (.goto 4, 3) := by decide +kernel
theorem dX6_isSame_510 : decode cX6_isSame 510 = .ok (.iconst 0, 1) := by decide +kernel
theorem dX6_isSame_511 : decode cX6_isSame 511 = .ok (.ireturn, 1) := by decide +kernel
theorem dJ9_max_7cf53_0 : decode cJ9_max_7cf53 0 = .ok (.iload_n 0, 1) := by decide +kernel
theorem dJ9_max_7cf53_1 : decode cJ9_max_7cf53 1 = .ok (.iload_n 1, 1) := by decide +kernel
theorem dJ9_max_7cf53_2 : decode cJ9_max_7cf53 2 = .ok (.if_icmp .lt 7, 3) := by decide +kernel
theorem dJ9_max_7cf53_5 : decode cJ9_max_7cf53 5 = .ok (.iload_n 0, 1) := by decide +kernel
theorem dJ9_max_7cf53_6 : decode cJ9_max_7cf53 6 = .ok (.goto 4, 3) := by decide +kernel
theorem dJ9_max_7cf53_9 : decode cJ9_max_7cf53 9 = .ok (.iload_n 1, 1) := by decide +kernel
theorem dJ9_max_7cf53_10 : decode cJ9_max_7cf53 10 = .ok (.ireturn, 1) := by decide +kernel
theorem dJ9_min_7cf53_0 : decode cJ9_min_7cf53 0 = .ok (.iload_n 0, 1) := by decide +kernel
theorem dJ9_min_7cf53_1 : decode cJ9_min_7cf53 1 = .ok (.iload_n 1, 1) := by decide +kernel
theorem dJ9_min_7cf53_2 : decode cJ9_min_7cf53 2 = .ok (.if_icmp .gt 7, 3) := by decide +kernel
theorem dJ9_min_7cf53_5 : decode cJ9_min_7cf53 5 = .ok (.iload_n 0, 1) := by decide +kernel
theorem dJ9_min_7cf53_6 : decode cJ9_min_7cf53 6 = .ok (.goto 4, 3) := by decide +kernel
theorem dJ9_min_7cf53_9 : decode cJ9_min_7cf53 9 = .ok (.iload_n 1, 1) := by decide +kernel
theorem dJ9_min_7cf53_10 : decode cJ9_min_7cf53 10 = .ok (.ireturn, 1) := by decide +kernel
theorem dL_below_0 : decode cL_below 0 = .ok (.iload_n 0, 1) := by decide +kernel
theorem dL_below_1 : decode cL_below 1 = .ok (.ldc 7, 2) := by decide +kernel
theorem dL_below_3 : decode cL_below 3 = .ok (.iand, 1) := by decide +kernel
theorem dL_below_4 : decode cL_below 4 = .ok (.iload_n 1, 1) := by decide +kernel
theorem dL_below_5 : decode cL_below 5 = .ok (.irem, 1) := by decide +kernel
theorem dL_below_6 : decode cL_below 6 = .ok (.ireturn, 1) := by decide +kernel
theorem dL_cell_0 : decode cL_cell 0 = .ok (.iload_n 1, 1) := by decide +kernel
theorem dL_cell_1 : decode cL_cell 1 = .ok (.aload_n 0, 1) := by decide +kernel
theorem dL_cell_2 : decode cL_cell 2 = .ok (.arraylength, 1) := by decide +kernel
theorem dL_cell_3 : decode cL_cell 3 = .ok (.if_icmp .ge 9, 3) := by decide +kernel
theorem dL_cell_6 : decode cL_cell 6 = .ok (.aload_n 0, 1) := by decide +kernel
theorem dL_cell_7 : decode cL_cell 7 = .ok (.iload_n 1, 1) := by decide +kernel
theorem dL_cell_8 : decode cL_cell 8 = .ok (.iaload, 1) := by decide +kernel
theorem dL_cell_9 : decode cL_cell 9 = .ok (.goto 9, 3) := by decide +kernel
theorem dL_cell_12 : decode cL_cell 12 = .ok (.ldc 8, 2) := by decide +kernel
theorem dL_cell_14 : decode cL_cell 14 = .ok (.iload_n 1, 1) := by decide +kernel
theorem dL_cell_15 : decode cL_cell 15 = .ok (.iconst 3, 1) := by decide +kernel
theorem dL_cell_16 : decode cL_cell 16 = .ok (.iadd, 1) := by decide +kernel
theorem dL_cell_17 : decode cL_cell 17 = .ok (.imul, 1) := by decide +kernel
theorem dL_cell_18 : decode cL_cell 18 = .ok (.ireturn, 1) := by decide +kernel
theorem dL_act_0 : decode cL_act 0 = .ok (.aload_n 1, 1) := by decide +kernel
theorem dL_act_1 : decode cL_act 1 = .ok (.getfield 9, 3) := by decide +kernel
theorem dL_act_4 : decode cL_act 4 = .ok (.arraylength, 1) := by decide +kernel
theorem dL_act_5 : decode cL_act 5 = .ok (.istore_n 3, 1) := by decide +kernel
theorem dL_act_6 : decode cL_act 6 = .ok (.aload_n 1, 1) := by decide +kernel
theorem dL_act_7 : decode cL_act 7 = .ok (.getfield 15, 3) := by decide +kernel
theorem dL_act_10 : decode cL_act 10 = .ok (.arraylength, 1) := by decide +kernel
theorem dL_act_11 : decode cL_act 11 = .ok (.istore 4, 2) := by decide +kernel
theorem dL_act_13 : decode cL_act 13 = .ok (.iload_n 3, 1) := by decide +kernel
theorem dL_act_14 : decode cL_act 14 = .ok (.ifCond .ne 7, 3) := by decide +kernel
theorem dL_act_17 : decode cL_act 17 = .ok (.iconst 0, 1) := by decide +kernel
theorem dL_act_18 : decode cL_act 18 = .ok (.goto 10, 3) := by decide +kernel
theorem dL_act_21 : decode cL_act 21 = .ok (.iload_n 2, 1) := by decide +kernel
theorem dL_act_22 : decode cL_act 22 = .ok (.iconst 1, 1) := by decide +kernel
theorem dL_act_23 : decode cL_act 23 = .ok (.ishr, 1) := by decide +kernel
theorem dL_act_24 : decode cL_act 24 = .ok (.iload_n 3, 1) := by decide +kernel
theorem dL_act_25 : decode cL_act 25 = .ok (.invokestatic 19, 3) := by decide +kernel
theorem dL_act_28 : decode cL_act 28 = .ok (.istore 5, 2) := by decide +kernel
theorem dL_act_30 : decode cL_act 30 = .ok (.iload 4, 2) := by decide +kernel
theorem dL_act_32 : decode cL_act 32 = .ok (.ifCond .ne 7, 3) := by decide +kernel
theorem dL_act_35 : decode cL_act 35 = .ok (.iconst 0, 1) := by decide +kernel
theorem dL_act_36 : decode cL_act 36 = .ok (.goto 11, 3) := by decide +kernel
theorem dL_act_39 : decode cL_act 39 = .ok (.iload_n 2, 1) := by decide +kernel
theorem dL_act_40 : decode cL_act 40 = .ok (.iconst 2, 1) := by decide +kernel
theorem dL_act_41 : decode cL_act 41 = .ok (.ishr, 1) := by decide +kernel
theorem dL_act_42 : decode cL_act 42 = .ok (.iload 4, 2) := by decide +kernel
theorem dL_act_44 : decode cL_act 44 = .ok (.invokestatic 19, 3) := by decide +kernel
theorem dL_act_47 : decode cL_act 47 = .ok (.istore 6, 2) := by decide +kernel
theorem dL_act_49 : decode cL_act 49 = .ok (.iload_n 2, 1) := by decide +kernel
theorem dL_act_50 : decode cL_act 50 = .ok (.bipush 9, 2) := by decide +kernel
theorem dL_act_52 : decode cL_act 52 = .ok (.ishr, 1) := by decide +kernel
theorem dL_act_53 : decode cL_act 53 = .ok (.bipush 22, 2) := by decide +kernel
theorem dL_act_55 : decode cL_act 55 = .ok (.invokestatic 19, 3) := by decide +kernel
theorem dL_act_58 : decode cL_act 58 = .ok (.istore 7, 2) := by decide +kernel
theorem dL_act_60 : decode cL_act 60 = .ok (.iload_n 3, 1) := by decide +kernel
theorem dL_act_61 : decode cL_act 61 = .ok (.ifCond .eq 8, 3) := by decide +kernel
theorem dL_act_64 : decode cL_act 64 = .ok (.iload 7, 2) := by decide +kernel
theorem dL_act_66 : decode cL_act 66 = .ok (.ifCond .ne 99, 3) := by decide +kernel
theorem dL_act_69 : decode cL_act 69 = .ok (.iload_n 3, 1) := by decide +kernel
theorem dL_act_70 : decode cL_act 70 = .ok (.iconst 5, 1) := by decide +kernel
theorem dL_act_71 : decode cL_act 71 = .ok (.if_icmp .ne 5, 3) := by decide +kernel
theorem dL_act_74 : decode cL_act 74 = .ok (.iconst 1, 1) := by decide +kernel
theorem dL_act_75 : decode cL_act 75 = .ok (.ireturn, 1) := by decide +kernel
theorem dL_act_76 : decode cL_act 76 = .ok (.iload_n 3, 1) := by decide +kernel
theorem dL_act_77 : decode cL_act 77 = .ok (.iconst 1, 1) := by decide +kernel
theorem dL_act_78 : decode cL_act 78 = .ok (.iadd, 1) := by decide +kernel
theorem dL_act_79 : decode cL_act 79 = .ok (.anewarray 25, 3) := by decide +kernel
theorem dL_act_82 : decode cL_act 82 = .ok (.astore 8, 2) := by decide +kernel
theorem dL_act_84 : decode cL_act 84 = .ok (.iconst 0, 1) := by decide +kernel
theorem dL_act_85 : decode cL_act 85 = .ok (.istore 9, 2) := by decide +kernel
theorem dL_act_87 : decode cL_act 87 = .ok (.iload 9, 2) := by decide +kernel
theorem dL_act_89 : decode cL_act 89 = .ok (.iload_n 3, 1) := by decide +kernel
theorem dL_act_90 : decode cL_act 90 = .ok (.if_icmp .ge 21, 3) := by decide +kernel
theorem dL_act_93 : decode cL_act 93 = .ok (.aload 8, 2) := by decide +kernel
theorem dL_act_95 : decode cL_act 95 = .ok (.iload 9, 2) := by decide +kernel
theorem dL_act_97 : decode cL_act 97 = .ok (.aload_n 1, 1) := by decide +kernel
theorem dL_act_98 : decode cL_act 98 = .ok (.getfield 9, 3) := by decide +kernel
theorem dL_act_101 : decode cL_act 101 = .ok (.iload 9, 2) := by decide +kernel
theorem dL_act_103 : decode cL_act 103 = .ok (.aaload, 1) := by decide +kernel
theorem dL_act_104 : decode cL_act 104 = .ok (.aastore, 1) := by decide +kernel
theorem dL_act_105 : decode cL_act 105 = .ok (.iinc 9 1, 3) := by decide +kernel
theorem dL_act_108 : decode cL_act 108 = .ok (.goto (-21), 3) := by decide +kernel
theorem dL_act_111 : decode cL_act 111 = .ok (.aload 8, 2) := by decide +kernel
theorem dL_act_113 : decode cL_act 113 = .ok (.iload_n 3, 1) := by decide +kernel
theorem dL_act_114 : decode cL_act 114 = .ok (.new 25, 3) := by decide +kernel
theorem dL_act_117 : decode cL_act 117 = .ok (.dup, 1) := by decide +kernel
theorem dL_act_118 : decode cL_act 118 = .ok (.invokespecial 27, 3) := by decide +kernel
theorem dL_act_121 : decode cL_act 121 = .ok (.aastore, 1) := by decide +kernel
theorem dL_act_122 : decode cL_act 122 = .ok (.aload 8, 2) := by decide +kernel
theorem dL_act_124 : decode cL_act 124 = .ok (.iload_n 3, 1) := by decide +kernel
theorem dL_act_125 : decode cL_act 125 = .ok (.aaload, 1) := by decide +kernel
theorem dL_act_126 : decode cL_act 126 = .ok (.iload_n 2, 1) := by decide +kernel
theorem dL_act_127 : decode cL_act 127 = .ok (.iconst 1, 1) := by decide +kernel
theorem dL_act_128 : decode cL_act 128 = .ok (.ishr, 1) := by decide +kernel
theorem dL_act_129 : decode cL_act 129 = .ok (.sipush 2001, 3) := by decide +kernel
theorem dL_act_132 : decode cL_act 132 = .ok (.invokestatic 19, 3) := by decide +kernel
theorem dL_act_135 : decode cL_act 135 = .ok (.putfield 28, 3) := by decide +kernel
theorem dL_act_138 : decode cL_act 138 = .ok (.aload_n 1, 1) := by decide +kernel
theorem dL_act_139 : decode cL_act 139 = .ok (.aload 8, 2) := by decide +kernel
theorem dL_act_141 : decode cL_act 141 = .ok (.putfield 9, 3) := by decide +kernel
theorem dL_act_144 : decode cL_act 144 = .ok (.aload_n 0, 1) := by decide +kernel
theorem dL_act_145 : decode cL_act 145 = .ok (.aload 8, 2) := by decide +kernel
theorem dL_act_147 : decode cL_act 147 = .ok (.iload_n 3, 1) := by decide +kernel
theorem dL_act_148 : decode cL_act 148 = .ok (.aaload, 1) := by decide +kernel
theorem dL_act_149 : decode cL_act 149 = .ok (.getfield 28, 3) := by decide +kernel
theorem dL_act_152 : decode cL_act 152 = .ok (.invokevirtual 32, 3) := by decide +kernel
theorem dL_act_155 : decode cL_act 155 = .ok (.iload_n 3, 1) := by decide +kernel
theorem dL_act_156 : decode cL_act 156 = .ok (.if_icmp .ne 7, 3) := by decide +kernel
theorem dL_act_159 : decode cL_act 159 = .ok (.iconst 1, 1) := by decide +kernel
theorem dL_act_160 : decode cL_act 160 = .ok (.goto 4, 3) := by decide +kernel
theorem dL_act_163 : decode cL_act 163 = .ok (.iconst 0, 1) := by decide +kernel
theorem dL_act_164 : decode cL_act 164 = .ok (.ireturn, 1) := by decide +kernel
theorem dL_act_165 : decode cL_act 165 = .ok (.aload_n 1, 1) := by decide +kernel
theorem dL_act_166 : decode cL_act 166 = .ok (.getfield 9, 3) := by decide +kernel
theorem dL_act_169 : decode cL_act 169 = .ok (.iload 5, 2) := by decide +kernel
theorem dL_act_171 : decode cL_act 171 = .ok (.aaload, 1) := by decide +kernel
theorem dL_act_172 : decode cL_act 172 = .ok (.astore 8, 2) := by decide +kernel
theorem dL_act_174 : decode cL_act 174 = .ok (.iload 7, 2) := by decide +kernel
theorem dL_act_176 : decode cL_act 176 = .ok (.iconst 5, 1) := by decide +kernel
theorem dL_act_177 : decode cL_act 177 = .ok (.if_icmp .ge 92, 3) := by decide +kernel
theorem dL_act_180 : decode cL_act 180 = .ok (.iload 7, 2) := by decide +kernel
theorem dL_act_182 : decode cL_act 182 = .ok (.iconst 1, 1) := by decide +kernel
theorem dL_act_183 : decode cL_act 183 = .ok (.if_icmp .ne 17, 3) := by decide +kernel
theorem dL_act_186 : decode cL_act 186 = .ok (.bipush 15, 2) := by decide +kernel
theorem dL_act_188 : decode cL_act 188 = .ok (.iload_n 2, 1) := by decide +kernel
theorem dL_act_189 : decode cL_act 189 = .ok (.iconst 3, 1) := by decide +kernel
theorem dL_act_190 : decode cL_act 190 = .ok (.ishr, 1) := by decide +kernel
theorem dL_act_191 : decode cL_act 191 = .ok (.bipush 36, 2) := by decide +kernel
theorem dL_act_193 : decode cL_act 193 = .ok (.invokestatic 19, 3) := by decide +kernel
theorem dL_act_196 : decode cL_act 196 = .ok (.iadd, 1) := by decide +kernel
theorem dL_act_197 : decode cL_act 197 = .ok (.goto 14, 3) := by decide +kernel
theorem dL_act_200 : decode cL_act 200 = .ok (.bipush 24, 2) := by decide +kernel
theorem dL_act_202 : decode cL_act 202 = .ok (.iload_n 2, 1) := by decide +kernel
theorem dL_act_203 : decode cL_act 203 = .ok (.iconst 3, 1) := by decide +kernel
theorem dL_act_204 : decode cL_act 204 = .ok (.ishr, 1) := by decide +kernel
theorem dL_act_205 : decode cL_act 205 = .ok (.bipush 11, 2) := by decide +kernel
theorem dL_act_207 : decode cL_act 207 = .ok (.invokestatic 19, 3) := by decide +kernel
theorem dL_act_210 : decode cL_act 210 = .ok (.iadd, 1) := by decide +kernel
theorem dL_act_211 : decode cL_act 211 = .ok (.istore 9, 2) := by decide +kernel
theorem dL_act_213 : decode cL_act 213 = .ok (.iconst 1, 1) := by decide +kernel
theorem dL_act_214 : decode cL_act 214 = .ok (.iload_n 2, 1) := by decide +kernel
theorem dL_act_215 : decode cL_act 215 = .ok (.iconst 5, 1) := by decide +kernel
theorem dL_act_216 : decode cL_act 216 = .ok (.ishr, 1) := by decide +kernel
theorem dL_act_217 : decode cL_act 217 = .ok (.iload_n 2, 1) := by decide +kernel
theorem dL_act_218 : decode cL_act 218 = .ok (.iconst 3, 1) := by decide +kernel
theorem dL_act_219 : decode cL_act 219 = .ok (.invokestatic 19, 3) := by decide +kernel
theorem dL_act_222 : decode cL_act 222 = .ok (.ifCond .ne 8, 3) := by decide +kernel
theorem dL_act_225 : decode cL_act 225 = .ok (.bipush 40, 2) := by decide +kernel
theorem dL_act_227 : decode cL_act 227 = .ok (.goto 5, 3) := by decide +kernel
theorem dL_act_230 : decode cL_act 230 = .ok (.bipush 9, 2) := by decide +kernel
theorem dL_act_232 : decode cL_act 232 = .ok (.invokestatic 19, 3) := by decide +kernel
theorem dL_act_235 : decode cL_act 235 = .ok (.iadd, 1) := by decide +kernel
theorem dL_act_236 : decode cL_act 236 = .ok (.istore 10, 2) := by decide +kernel
theorem dL_act_238 : decode cL_act 238 = .ok (.aload_n 0, 1) := by decide +kernel
theorem dL_act_239 : decode cL_act 239 = .ok (.iload 5, 2) := by decide +kernel
theorem dL_act_241 : decode cL_act 241 = .ok (.iload 9, 2) := by decide +kernel
theorem dL_act_243 : decode cL_act 243 = .ok (.iload 10, 2) := by decide +kernel
theorem dL_act_245 : decode cL_act 245 = .ok (.invokevirtual 38, 3) := by decide +kernel
theorem dL_act_248 : decode cL_act 248 = .ok (.aload 8, 2) := by decide +kernel
theorem dL_act_250 : decode cL_act 250 = .ok (.iload 9, 2) := by decide +kernel
theorem dL_act_252 : decode cL_act 252 = .ok (.iload 10, 2) := by decide +kernel
theorem dL_act_254 : decode cL_act 254 = .ok (.invokevirtual 42, 3) := by decide +kernel
theorem dL_act_257 : decode cL_act 257 = .ok (.invokevirtual 46, 3) := by decide +kernel
theorem dL_act_260 : decode cL_act 260 = .ok (.if_icmp .ne 7, 3) := by decide +kernel
theorem dL_act_263 : decode cL_act 263 = .ok (.iconst 1, 1) := by decide +kernel
theorem dL_act_264 : decode cL_act 264 = .ok (.goto 4, 3) := by decide +kernel
theorem dL_act_267 : decode cL_act 267 = .ok (.iconst 0, 1) := by decide +kernel
theorem dL_act_268 : decode cL_act 268 = .ok (.ireturn, 1) := by decide +kernel
theorem dL_act_269 : decode cL_act 269 = .ok (.iload 7, 2) := by decide +kernel
theorem dL_act_271 : decode cL_act 271 = .ok (.bipush 7, 2) := by decide +kernel
theorem dL_act_273 : decode cL_act 273 = .ok (.if_icmp .ge 62, 3) := by decide +kernel
theorem dL_act_276 : decode cL_act 276 = .ok (.iconst 1, 1) := by decide +kernel
theorem dL_act_277 : decode cL_act 277 = .ok (.iload_n 2, 1) := by decide +kernel
theorem dL_act_278 : decode cL_act 278 = .ok (.iconst 3, 1) := by decide +kernel
theorem dL_act_279 : decode cL_act 279 = .ok (.ishr, 1) := by decide +kernel
theorem dL_act_280 : decode cL_act 280 = .ok (.bipush 30, 2) := by decide +kernel
theorem dL_act_282 : decode cL_act 282 = .ok (.invokestatic 19, 3) := by decide +kernel
theorem dL_act_285 : decode cL_act 285 = .ok (.iadd, 1) := by decide +kernel
theorem dL_act_286 : decode cL_act 286 = .ok (.istore 9, 2) := by decide +kernel
theorem dL_act_288 : decode cL_act 288 = .ok (.aload 8, 2) := by decide +kernel
theorem dL_act_290 : decode cL_act 290 = .ok (.getfield 50, 3) := by decide +kernel
theorem dL_act_293 : decode cL_act 293 = .ok (.iconst 5, 1) := by decide +kernel
theorem dL_act_294 : decode cL_act 294 = .ok (.dup2, 1) := by decide +kernel
theorem dL_act_295 : decode cL_act 295 = .ok (.iaload, 1) := by decide +kernel
theorem dL_act_296 : decode cL_act 296 = .ok (.iload 9, 2) := by decide +kernel
theorem dL_act_298 : decode cL_act 298 = .ok (.bipush 100, 2) := by decide +kernel
theorem dL_act_300 : decode cL_act 300 = .ok (.aload 8, 2) := by decide +kernel
theorem dL_act_302 : decode cL_act 302 = .ok (.invokevirtual 54, 3) := by decide +kernel
theorem dL_act_305 : decode cL_act 305 = .ok (.isub, 1) := by decide +kernel
theorem dL_act_306 : decode cL_act 306 = .ok (.invokestatic 57, 3) := by decide +kernel
theorem dL_act_309 : decode cL_act 309 = .ok (.iadd, 1) := by decide +kernel
theorem dL_act_310 : decode cL_act 310 = .ok (.iastore, 1) := by decide +kernel
theorem dL_act_311 : decode cL_act 311 = .ok (.aload_n 0, 1) := by decide +kernel
theorem dL_act_312 : decode cL_act 312 = .ok (.iload 5, 2) := by decide +kernel
theorem dL_act_314 : decode cL_act 314 = .ok (.iload 9, 2) := by decide +kernel
theorem dL_act_316 : decode cL_act 316 = .ok (.invokevirtual 62, 3) := by decide +kernel
theorem dL_act_319 : decode cL_act 319 = .ok (.aload 8, 2) := by decide +kernel
theorem dL_act_321 : decode cL_act 321 = .ok (.getfield 50, 3) := by decide +kernel
theorem dL_act_324 : decode cL_act 324 = .ok (.iconst 5, 1) := by decide +kernel
theorem dL_act_325 : decode cL_act 325 = .ok (.iaload, 1) := by decide +kernel
theorem dL_act_326 : decode cL_act 326 = .ok (.if_icmp .ne 7, 3) := by decide +kernel
theorem dL_act_329 : decode cL_act 329 = .ok (.iconst 1, 1) := by decide +kernel
theorem dL_act_330 : decode cL_act 330 = .ok (.goto 4, 3) := by decide +kernel
theorem dL_act_333 : decode cL_act 333 = .ok (.iconst 0, 1) := by decide +kernel
theorem dL_act_334 : decode cL_act 334 = .ok (.ireturn, 1) := by decide +kernel
theorem dL_act_335 : decode cL_act 335 = .ok (.iload 7, 2) := by decide +kernel
theorem dL_act_337 : decode cL_act 337 = .ok (.bipush 7, 2) := by decide +kernel
theorem dL_act_339 : decode cL_act 339 = .ok (.if_icmp .ne 200, 3) := by decide +kernel
theorem dL_act_342 : decode cL_act 342 = .ok (.iload_n 2, 1) := by decide +kernel
theorem dL_act_343 : decode cL_act 343 = .ok (.iconst 4, 1) := by decide +kernel
theorem dL_act_344 : decode cL_act 344 = .ok (.ishr, 1) := by decide +kernel
theorem dL_act_345 : decode cL_act 345 = .ok (.iload_n 3, 1) := by decide +kernel
theorem dL_act_346 : decode cL_act 346 = .ok (.invokestatic 19, 3) := by decide +kernel
theorem dL_act_349 : decode cL_act 349 = .ok (.istore 9, 2) := by decide +kernel
theorem dL_act_351 : decode cL_act 351 = .ok (.aload_n 1, 1) := by decide +kernel
theorem dL_act_352 : decode cL_act 352 = .ok (.getfield 9, 3) := by decide +kernel
theorem dL_act_355 : decode cL_act 355 = .ok (.iload 9, 2) := by decide +kernel
theorem dL_act_357 : decode cL_act 357 = .ok (.aaload, 1) := by decide +kernel
theorem dL_act_358 : decode cL_act 358 = .ok (.astore 10, 2) := by decide +kernel
theorem dL_act_360 : decode cL_act 360 = .ok (.aload 8, 2) := by decide +kernel
theorem dL_act_362 : decode cL_act 362 = .ok (.getfield 28, 3) := by decide +kernel
theorem dL_act_365 : decode cL_act 365 = .ok (.aload 10, 2) := by decide +kernel
theorem dL_act_367 : decode cL_act 367 = .ok (.getfield 28, 3) := by decide +kernel
theorem dL_act_370 : decode cL_act 370 = .ok (.iadd, 1) := by decide +kernel
theorem dL_act_371 : decode cL_act 371 = .ok (.istore 11, 2) := by decide +kernel
theorem dL_act_373 : decode cL_act 373 = .ok (.iload 9, 2) := by decide +kernel
theorem dL_act_375 : decode cL_act 375 = .ok (.iload 5, 2) := by decide +kernel
theorem dL_act_377 : decode cL_act 377 = .ok (.if_icmp .eq 16, 3) := by decide +kernel
theorem dL_act_380 : decode cL_act 380 = .ok (.iload 11, 2) := by decide +kernel
theorem dL_act_382 : decode cL_act 382 = .ok (.ifCond .eq 11, 3) := by decide +kernel
theorem dL_act_385 : decode cL_act 385 = .ok (.iload 11, 2) := by decide +kernel
theorem dL_act_387 : decode cL_act 387 = .ok (.sipush 2000, 3) := by decide +kernel
theorem dL_act_390 : decode cL_act 390 = .ok (.if_icmp .le 5, 3) := by decide +kernel
theorem dL_act_393 : decode cL_act 393 = .ok (.iconst 1, 1) := by decide +kernel
theorem dL_act_394 : decode cL_act 394 = .ok (.ireturn, 1) := by decide +kernel
theorem dL_act_395 : decode cL_act 395 = .ok (.iconst 1, 1) := by decide +kernel
theorem dL_act_396 : decode cL_act 396 = .ok (.istore 12, 2) := by decide +kernel
theorem dL_act_398 : decode cL_act 398 = .ok (.iload 12, 2) := by decide +kernel
theorem dL_act_400 : decode cL_act 400 = .ok (.bipush 6, 2) := by decide +kernel
theorem dL_act_402 : decode cL_act 402 = .ok (.if_icmp .ge 49, 3) := by decide +kernel
theorem dL_act_405 : decode cL_act 405 = .ok (.aload 8, 2) := by decide +kernel
theorem dL_act_407 : decode cL_act 407 = .ok (.getfield 50, 3) := by decide +kernel
theorem dL_act_410 : decode cL_act 410 = .ok (.iload 12, 2) := by decide +kernel
theorem dL_act_412 : decode cL_act 412 = .ok (.aload 8, 2) := by decide +kernel
theorem dL_act_414 : decode cL_act 414 = .ok (.getfield 50, 3) := by decide +kernel
theorem dL_act_417 : decode cL_act 417 = .ok (.iload 12, 2) := by decide +kernel
theorem dL_act_419 : decode cL_act 419 = .ok (.iaload, 1) := by decide +kernel
theorem dL_act_420 : decode cL_act 420 = .ok (.aload 8, 2) := by decide +kernel
theorem dL_act_422 : decode cL_act 422 = .ok (.getfield 28, 3) := by decide +kernel
theorem dL_act_425 : decode cL_act 425 = .ok (.imul, 1) := by decide +kernel
theorem dL_act_426 : decode cL_act 426 = .ok (.aload 10, 2) := by decide +kernel
theorem dL_act_428 : decode cL_act 428 = .ok (.getfield 50, 3) := by decide +kernel
theorem dL_act_431 : decode cL_act 431 = .ok (.iload 12, 2) := by decide +kernel
theorem dL_act_433 : decode cL_act 433 = .ok (.iaload, 1) := by decide +kernel
theorem dL_act_434 : decode cL_act 434 = .ok (.aload 10, 2) := by decide +kernel
theorem dL_act_436 : decode cL_act 436 = .ok (.getfield 28, 3) := by decide +kernel
theorem dL_act_439 : decode cL_act 439 = .ok (.imul, 1) := by decide +kernel
theorem dL_act_440 : decode cL_act 440 = .ok (.iadd, 1) := by decide +kernel
theorem dL_act_441 : decode cL_act 441 = .ok (.iload 11, 2) := by decide +kernel
theorem dL_act_443 : decode cL_act 443 = .ok (.idiv, 1) := by decide +kernel
theorem dL_act_444 : decode cL_act 444 = .ok (.iastore, 1) := by decide +kernel
theorem dL_act_445 : decode cL_act 445 = .ok (.iinc 12 1, 3) := by decide +kernel
theorem dL_act_448 : decode cL_act 448 = .ok (.goto (-50), 3) := by decide +kernel
theorem dL_act_451 : decode cL_act 451 = .ok (.aload 8, 2) := by decide +kernel
theorem dL_act_453 : decode cL_act 453 = .ok (.aload 8, 2) := by decide +kernel
theorem dL_act_455 : decode cL_act 455 = .ok (.getfield 65, 3) := by decide +kernel
theorem dL_act_458 : decode cL_act 458 = .ok (.aload 8, 2) := by decide +kernel
theorem dL_act_460 : decode cL_act 460 = .ok (.getfield 28, 3) := by decide +kernel
theorem dL_act_463 : decode cL_act 463 = .ok (.imul, 1) := by decide +kernel
theorem dL_act_464 : decode cL_act 464 = .ok (.aload 10, 2) := by decide +kernel
theorem dL_act_466 : decode cL_act 466 = .ok (.getfield 65, 3) := by decide +kernel
theorem dL_act_469 : decode cL_act 469 = .ok (.aload 10, 2) := by decide +kernel
theorem dL_act_471 : decode cL_act 471 = .ok (.getfield 28, 3) := by decide +kernel
theorem dL_act_474 : decode cL_act 474 = .ok (.imul, 1) := by decide +kernel
theorem dL_act_475 : decode cL_act 475 = .ok (.iadd, 1) := by decide +kernel
theorem dL_act_476 : decode cL_act 476 = .ok (.iload 11, 2) := by decide +kernel
theorem dL_act_478 : decode cL_act 478 = .ok (.idiv, 1) := by decide +kernel
theorem dL_act_479 : decode cL_act 479 = .ok (.putfield 65, 3) := by decide +kernel
theorem dL_act_482 : decode cL_act 482 = .ok (.aload 8, 2) := by decide +kernel
theorem dL_act_484 : decode cL_act 484 = .ok (.iload 11, 2) := by decide +kernel
theorem dL_act_486 : decode cL_act 486 = .ok (.putfield 28, 3) := by decide +kernel
theorem dL_act_489 : decode cL_act 489 = .ok (.aload 10, 2) := by decide +kernel
theorem dL_act_491 : decode cL_act 491 = .ok (.iconst 0, 1) := by decide +kernel
theorem dL_act_492 : decode cL_act 492 = .ok (.putfield 28, 3) := by decide +kernel
theorem dL_act_495 : decode cL_act 495 = .ok (.iconst 1, 1) := by decide +kernel
theorem dL_act_496 : decode cL_act 496 = .ok (.istore 12, 2) := by decide +kernel
theorem dL_act_498 : decode cL_act 498 = .ok (.iload 12, 2) := by decide +kernel
theorem dL_act_500 : decode cL_act 500 = .ok (.bipush 6, 2) := by decide +kernel
theorem dL_act_502 : decode cL_act 502 = .ok (.if_icmp .ge 18, 3) := by decide +kernel
theorem dL_act_505 : decode cL_act 505 = .ok (.aload 10, 2) := by decide +kernel
theorem dL_act_507 : decode cL_act 507 = .ok (.getfield 50, 3) := by decide +kernel
theorem dL_act_510 : decode cL_act 510 = .ok (.iload 12, 2) := by decide +kernel
theorem dL_act_512 : decode cL_act 512 = .ok (.iconst 0, 1) := by decide +kernel
theorem dL_act_513 : decode cL_act 513 = .ok (.iastore, 1) := by decide +kernel
theorem dL_act_514 : decode cL_act 514 = .ok (.iinc 12 1, 3) := by decide +kernel
theorem dL_act_517 : decode cL_act 517 = .ok (.goto (-19), 3) := by decide +kernel
theorem dL_act_520 : decode cL_act 520 = .ok (.aload_n 0, 1) := by decide +kernel
theorem dL_act_521 : decode cL_act 521 = .ok (.iload 9, 2) := by decide +kernel
theorem dL_act_523 : decode cL_act 523 = .ok (.iload 5, 2) := by decide +kernel
theorem dL_act_525 : decode cL_act 525 = .ok (.invokevirtual 68, 3) := by decide +kernel
theorem dL_act_528 : decode cL_act 528 = .ok (.iload 11, 2) := by decide +kernel
theorem dL_act_530 : decode cL_act 530 = .ok (.if_icmp .ne 7, 3) := by decide +kernel
theorem dL_act_533 : decode cL_act 533 = .ok (.iconst 1, 1) := by decide +kernel
theorem dL_act_534 : decode cL_act 534 = .ok (.goto 4, 3) := by decide +kernel
theorem dL_act_537 : decode cL_act 537 = .ok (.iconst 0, 1) := by decide +kernel
theorem dL_act_538 : decode cL_act 538 = .ok (.ireturn, 1) := by decide +kernel
theorem dL_act_539 : decode cL_act 539 = .ok (.iload 7, 2) := by decide +kernel
theorem dL_act_541 : decode cL_act 541 = .ok (.bipush 12, 2) := by decide +kernel
theorem dL_act_543 : decode cL_act 543 = .ok (.if_icmp .ge 132, 3) := by decide +kernel
theorem dL_act_546 : decode cL_act 546 = .ok (.iconst 1, 1) := by decide +kernel
theorem dL_act_547 : decode cL_act 547 = .ok (.iload_n 2, 1) := by decide +kernel
theorem dL_act_548 : decode cL_act 548 = .ok (.iconst 3, 1) := by decide +kernel
theorem dL_act_549 : decode cL_act 549 = .ok (.ishr, 1) := by decide +kernel
theorem dL_act_550 : decode cL_act 550 = .ok (.bipush 6, 2) := by decide +kernel
theorem dL_act_552 : decode cL_act 552 = .ok (.invokestatic 19, 3) := by decide +kernel
theorem dL_act_555 : decode cL_act 555 = .ok (.iadd, 1) := by decide +kernel
theorem dL_act_556 : decode cL_act 556 = .ok (.istore 9, 2) := by decide +kernel
theorem dL_act_558 : decode cL_act 558 = .ok (.iconst 1, 1) := by decide +kernel
theorem dL_act_559 : decode cL_act 559 = .ok (.iload_n 2, 1) := by decide +kernel
theorem dL_act_560 : decode cL_act 560 = .ok (.bipush 6, 2) := by decide +kernel
theorem dL_act_562 : decode cL_act 562 = .ok (.ishr, 1) := by decide +kernel
theorem dL_act_563 : decode cL_act 563 = .ok (.bipush 6, 2) := by decide +kernel
theorem dL_act_565 : decode cL_act 565 = .ok (.invokestatic 19, 3) := by decide +kernel
theorem dL_act_568 : decode cL_act 568 = .ok (.iadd, 1) := by decide +kernel
theorem dL_act_569 : decode cL_act 569 = .ok (.istore 10, 2) := by decide +kernel
theorem dL_act_571 : decode cL_act 571 = .ok (.iload 4, 2) := by decide +kernel
theorem dL_act_573 : decode cL_act 573 = .ok (.bipush 8, 2) := by decide +kernel
theorem dL_act_575 : decode cL_act 575 = .ok (.if_icmp .eq 19, 3) := by decide +kernel
theorem dL_act_578 : decode cL_act 578 = .ok (.aload 8, 2) := by decide +kernel
theorem dL_act_580 : decode cL_act 580 = .ok (.getfield 28, 3) := by decide +kernel
theorem dL_act_583 : decode cL_act 583 = .ok (.bipush 10, 2) := by decide +kernel
theorem dL_act_585 : decode cL_act 585 = .ok (.iload 9, 2) := by decide +kernel
theorem dL_act_587 : decode cL_act 587 = .ok (.imul, 1) := by decide +kernel
theorem dL_act_588 : decode cL_act 588 = .ok (.iload 10, 2) := by decide +kernel
theorem dL_act_590 : decode cL_act 590 = .ok (.imul, 1) := by decide +kernel
theorem dL_act_591 : decode cL_act 591 = .ok (.if_icmp .ge 5, 3) := by decide +kernel
theorem dL_act_594 : decode cL_act 594 = .ok (.iconst 1, 1) := by decide +kernel
theorem dL_act_595 : decode cL_act 595 = .ok (.ireturn, 1) := by decide +kernel
theorem dL_act_596 : decode cL_act 596 = .ok (.aload 8, 2) := by decide +kernel
theorem dL_act_598 : decode cL_act 598 = .ok (.dup, 1) := by decide +kernel
theorem dL_act_599 : decode cL_act 599 = .ok (.getfield 28, 3) := by decide +kernel
theorem dL_act_602 : decode cL_act 602 = .ok (.bipush 10, 2) := by decide +kernel
theorem dL_act_604 : decode cL_act 604 = .ok (.iload 9, 2) := by decide +kernel
theorem dL_act_606 : decode cL_act 606 = .ok (.imul, 1) := by decide +kernel
theorem dL_act_607 : decode cL_act 607 = .ok (.iload 10, 2) := by decide +kernel
theorem dL_act_609 : decode cL_act 609 = .ok (.imul, 1) := by decide +kernel
theorem dL_act_610 : decode cL_act 610 = .ok (.isub, 1) := by decide +kernel
theorem dL_act_611 : decode cL_act 611 = .ok (.putfield 28, 3) := by decide +kernel
theorem dL_act_614 : decode cL_act 614 = .ok (.aload_n 1, 1) := by decide +kernel
theorem dL_act_615 : decode cL_act 615 = .ok (.aload_n 1, 1) := by decide +kernel
theorem dL_act_616 : decode cL_act 616 = .ok (.getfield 15, 3) := by decide +kernel
theorem dL_act_619 : decode cL_act 619 = .ok (.iconst 5, 1) := by decide +kernel
theorem dL_act_620 : decode cL_act 620 = .ok (.newarray .int, 2) := by decide +kernel
theorem dL_act_622 : decode cL_act 622 = .ok (.dup, 1) := by decide +kernel
theorem dL_act_623 : decode cL_act 623 = .ok (.iconst 0, 1) := by decide +kernel
theorem dL_act_624 : decode cL_act 624 = .ok (.iload 9, 2) := by decide +kernel
theorem dL_act_626 : decode cL_act 626 = .ok (.iastore, 1) := by decide +kernel
theorem dL_act_627 : decode cL_act 627 = .ok (.dup, 1) := by decide +kernel
theorem dL_act_628 : decode cL_act 628 = .ok (.iconst 1, 1) := by decide +kernel
theorem dL_act_629 : decode cL_act 629 = .ok (.iload 10, 2) := by decide +kernel
theorem dL_act_631 : decode cL_act 631 = .ok (.iastore, 1) := by decide +kernel
theorem dL_act_632 : decode cL_act 632 = .ok (.dup, 1) := by decide +kernel
theorem dL_act_633 : decode cL_act 633 = .ok (.iconst 2, 1) := by decide +kernel
theorem dL_act_634 : decode cL_act 634 = .ok (.aload 8, 2) := by decide +kernel
theorem dL_act_636 : decode cL_act 636 = .ok (.invokevirtual 46, 3) := by decide +kernel
theorem dL_act_639 : decode cL_act 639 = .ok (.iastore, 1) := by decide +kernel
theorem dL_act_640 : decode cL_act 640 = .ok (.dup, 1) := by decide +kernel
theorem dL_act_641 : decode cL_act 641 = .ok (.iconst 3, 1) := by decide +kernel
theorem dL_act_642 : decode cL_act 642 = .ok (.iconst 0, 1) := by decide +kernel
theorem dL_act_643 : decode cL_act 643 = .ok (.iastore, 1) := by decide +kernel
theorem dL_act_644 : decode cL_act 644 = .ok (.dup, 1) := by decide +kernel
theorem dL_act_645 : decode cL_act 645 = .ok (.iconst 4, 1) := by decide +kernel
theorem dL_act_646 : decode cL_act 646 = .ok (.iconst 0, 1) := by decide +kernel
theorem dL_act_647 : decode cL_act 647 = .ok (.iastore, 1) := by decide +kernel
theorem dL_act_648 : decode cL_act 648 = .ok (.invokestatic 71, 3) := by decide +kernel
theorem dL_act_651 : decode cL_act 651 = .ok (.putfield 15, 3) := by decide +kernel
theorem dL_act_654 : decode cL_act 654 = .ok (.aload_n 0, 1) := by decide +kernel
theorem dL_act_655 : decode cL_act 655 = .ok (.iload 5, 2) := by decide +kernel
theorem dL_act_657 : decode cL_act 657 = .ok (.iload 9, 2) := by decide +kernel
theorem dL_act_659 : decode cL_act 659 = .ok (.iload 10, 2) := by decide +kernel
theorem dL_act_661 : decode cL_act 661 = .ok (.invokevirtual 75, 3) := by decide +kernel
theorem dL_act_664 : decode cL_act 664 = .ok (.iload 4, 2) := by decide +kernel
theorem dL_act_666 : decode cL_act 666 = .ok (.if_icmp .ne 7, 3) := by decide +kernel
theorem dL_act_669 : decode cL_act 669 = .ok (.iconst 1, 1) := by decide +kernel
theorem dL_act_670 : decode cL_act 670 = .ok (.goto 4, 3) := by decide +kernel
theorem dL_act_673 : decode cL_act 673 = .ok (.iconst 0, 1) := by decide +kernel
theorem dL_act_674 : decode cL_act 674 = .ok (.ireturn, 1) := by decide +kernel
theorem dL_act_675 : decode cL_act 675 = .ok (.iload 7, 2) := by decide +kernel
theorem dL_act_677 : decode cL_act 677 = .ok (.bipush 12, 2) := by decide +kernel
theorem dL_act_679 : decode cL_act 679 = .ok (.if_icmp .eq 10, 3) := by decide +kernel
theorem dL_act_682 : decode cL_act 682 = .ok (.iload 7, 2) := by decide +kernel
theorem dL_act_684 : decode cL_act 684 = .ok (.bipush 13, 2) := by decide +kernel
theorem dL_act_686 : decode cL_act 686 = .ok (.if_icmp .ne 110, 3) := by decide +kernel
theorem dL_act_689 : decode cL_act 689 = .ok (.aload_n 1, 1) := by decide +kernel
theorem dL_act_690 : decode cL_act 690 = .ok (.getfield 78, 3) := by decide +kernel
theorem dL_act_693 : decode cL_act 693 = .ok (.arraylength, 1) := by decide +kernel
theorem dL_act_694 : decode cL_act 694 = .ok (.bipush 6, 2) := by decide +kernel
theorem dL_act_696 : decode cL_act 696 = .ok (.if_icmp .ne 5, 3) := by decide +kernel
theorem dL_act_699 : decode cL_act 699 = .ok (.iconst 1, 1) := by decide +kernel
theorem dL_act_700 : decode cL_act 700 = .ok (.ireturn, 1) := by decide +kernel
theorem dL_act_701 : decode cL_act 701 = .ok (.iconst 5, 1) := by decide +kernel
theorem dL_act_702 : decode cL_act 702 = .ok (.newarray .int, 2) := by decide +kernel
theorem dL_act_704 : decode cL_act 704 = .ok (.dup, 1) := by decide +kernel
theorem dL_act_705 : decode cL_act 705 = .ok (.iconst 0, 1) := by decide +kernel
theorem dL_act_706 : decode cL_act 706 = .ok (.iconst 1, 1) := by decide +kernel
theorem dL_act_707 : decode cL_act 707 = .ok (.iload_n 2, 1) := by decide +kernel
theorem dL_act_708 : decode cL_act 708 = .ok (.iconst 3, 1) := by decide +kernel
theorem dL_act_709 : decode cL_act 709 = .ok (.ishr, 1) := by decide +kernel
theorem dL_act_710 : decode cL_act 710 = .ok (.iload_n 2, 1) := by decide +kernel
theorem dL_act_711 : decode cL_act 711 = .ok (.iconst 2, 1) := by decide +kernel
theorem dL_act_712 : decode cL_act 712 = .ok (.invokestatic 19, 3) := by decide +kernel
theorem dL_act_715 : decode cL_act 715 = .ok (.ifCond .ne 8, 3) := by decide +kernel
theorem dL_act_718 : decode cL_act 718 = .ok (.bipush 36, 2) := by decide +kernel
theorem dL_act_720 : decode cL_act 720 = .ok (.goto 5, 3) := by decide +kernel
theorem dL_act_723 : decode cL_act 723 = .ok (.bipush 9, 2) := by decide +kernel
theorem dL_act_725 : decode cL_act 725 = .ok (.invokestatic 19, 3) := by decide +kernel
theorem dL_act_728 : decode cL_act 728 = .ok (.iadd, 1) := by decide +kernel
theorem dL_act_729 : decode cL_act 729 = .ok (.iastore, 1) := by decide +kernel
theorem dL_act_730 : decode cL_act 730 = .ok (.dup, 1) := by decide +kernel
theorem dL_act_731 : decode cL_act 731 = .ok (.iconst 1, 1) := by decide +kernel
theorem dL_act_732 : decode cL_act 732 = .ok (.iload_n 2, 1) := by decide +kernel
theorem dL_act_733 : decode cL_act 733 = .ok (.iconst 4, 1) := by decide +kernel
theorem dL_act_734 : decode cL_act 734 = .ok (.ishr, 1) := by decide +kernel
theorem dL_act_735 : decode cL_act 735 = .ok (.bipush 101, 2) := by decide +kernel
theorem dL_act_737 : decode cL_act 737 = .ok (.invokestatic 19, 3) := by decide +kernel
theorem dL_act_740 : decode cL_act 740 = .ok (.iastore, 1) := by decide +kernel
theorem dL_act_741 : decode cL_act 741 = .ok (.dup, 1) := by decide +kernel
theorem dL_act_742 : decode cL_act 742 = .ok (.iconst 2, 1) := by decide +kernel
theorem dL_act_743 : decode cL_act 743 = .ok (.iconst 0, 1) := by decide +kernel
theorem dL_act_744 : decode cL_act 744 = .ok (.iastore, 1) := by decide +kernel
theorem dL_act_745 : decode cL_act 745 = .ok (.dup, 1) := by decide +kernel
theorem dL_act_746 : decode cL_act 746 = .ok (.iconst 3, 1) := by decide +kernel
theorem dL_act_747 : decode cL_act 747 = .ok (.iconst (-1), 1) := by decide +kernel
theorem dL_act_748 : decode cL_act 748 = .ok (.iastore, 1) := by decide +kernel
theorem dL_act_749 : decode cL_act 749 = .ok (.dup, 1) := by decide +kernel
theorem dL_act_750 : decode cL_act 750 = .ok (.iconst 4, 1) := by decide +kernel
theorem dL_act_751 : decode cL_act 751 = .ok (.iconst (-1), 1) := by decide +kernel
theorem dL_act_752 : decode cL_act 752 = .ok (.iastore, 1) := by decide +kernel
theorem dL_act_753 : decode cL_act 753 = .ok (.astore 9, 2) := by decide +kernel
theorem dL_act_755 : decode cL_act 755 = .ok (.aload_n 1, 1) := by decide +kernel
theorem dL_act_756 : decode cL_act 756 = .ok (.aload_n 1, 1) := by decide +kernel
theorem dL_act_757 : decode cL_act 757 = .ok (.getfield 78, 3) := by decide +kernel
theorem dL_act_760 : decode cL_act 760 = .ok (.aload 9, 2) := by decide +kernel
theorem dL_act_762 : decode cL_act 762 = .ok (.invokestatic 71, 3) := by decide +kernel
theorem dL_act_765 : decode cL_act 765 = .ok (.putfield 78, 3) := by decide +kernel
theorem dL_act_768 : decode cL_act 768 = .ok (.aload_n 0, 1) := by decide +kernel
theorem dL_act_769 : decode cL_act 769 = .ok (.aload 9, 2) := by decide +kernel
theorem dL_act_771 : decode cL_act 771 = .ok (.iconst 0, 1) := by decide +kernel
theorem dL_act_772 : decode cL_act 772 = .ok (.iaload, 1) := by decide +kernel
theorem dL_act_773 : decode cL_act 773 = .ok (.aload 9, 2) := by decide +kernel
theorem dL_act_775 : decode cL_act 775 = .ok (.iconst 1, 1) := by decide +kernel
theorem dL_act_776 : decode cL_act 776 = .ok (.iaload, 1) := by decide +kernel
theorem dL_act_777 : decode cL_act 777 = .ok (.invokevirtual 81, 3) := by decide +kernel
theorem dL_act_780 : decode cL_act 780 = .ok (.aload_n 1, 1) := by decide +kernel
theorem dL_act_781 : decode cL_act 781 = .ok (.getfield 78, 3) := by decide +kernel
theorem dL_act_784 : decode cL_act 784 = .ok (.arraylength, 1) := by decide +kernel
theorem dL_act_785 : decode cL_act 785 = .ok (.iconst 1, 1) := by decide +kernel
theorem dL_act_786 : decode cL_act 786 = .ok (.isub, 1) := by decide +kernel
theorem dL_act_787 : decode cL_act 787 = .ok (.if_icmp .ne 7, 3) := by decide +kernel
theorem dL_act_790 : decode cL_act 790 = .ok (.iconst 1, 1) := by decide +kernel
theorem dL_act_791 : decode cL_act 791 = .ok (.goto 4, 3) := by decide +kernel
theorem dL_act_794 : decode cL_act 794 = .ok (.iconst 0, 1) := by decide +kernel
theorem dL_act_795 : decode cL_act 795 = .ok (.ireturn, 1) := by decide +kernel
theorem dL_act_796 : decode cL_act 796 = .ok (.iload 7, 2) := by decide +kernel
theorem dL_act_798 : decode cL_act 798 = .ok (.bipush 14, 2) := by decide +kernel
theorem dL_act_800 : decode cL_act 800 = .ok (.if_icmp .ne 20, 3) := by decide +kernel
theorem dL_act_803 : decode cL_act 803 = .ok (.aload_n 0, 1) := by decide +kernel
theorem dL_act_804 : decode cL_act 804 = .ok (.invokevirtual 84, 3) := by decide +kernel
theorem dL_act_807 : decode cL_act 807 = .ok (.aload_n 1, 1) := by decide +kernel
theorem dL_act_808 : decode cL_act 808 = .ok (.invokevirtual 87, 3) := by decide +kernel
theorem dL_act_811 : decode cL_act 811 = .ok (.if_icmp .ne 7, 3) := by decide +kernel
theorem dL_act_814 : decode cL_act 814 = .ok (.iconst 1, 1) := by decide +kernel
theorem dL_act_815 : decode cL_act 815 = .ok (.goto 4, 3) := by decide +kernel
theorem dL_act_818 : decode cL_act 818 = .ok (.iconst 0, 1) := by decide +kernel
theorem dL_act_819 : decode cL_act 819 = .ok (.ireturn, 1) := by decide +kernel
theorem dL_act_820 : decode cL_act 820 = .ok (.iload 7, 2) := by decide +kernel
theorem dL_act_822 : decode cL_act 822 = .ok (.bipush 15, 2) := by decide +kernel
theorem dL_act_824 : decode cL_act 824 = .ok (.if_icmp .ne 70, 3) := by decide +kernel
theorem dL_act_827 : decode cL_act 827 = .ok (.bipush 10, 2) := by decide +kernel
theorem dL_act_829 : decode cL_act 829 = .ok (.iload_n 2, 1) := by decide +kernel
theorem dL_act_830 : decode cL_act 830 = .ok (.iconst 3, 1) := by decide +kernel
theorem dL_act_831 : decode cL_act 831 = .ok (.ishr, 1) := by decide +kernel
theorem dL_act_832 : decode cL_act 832 = .ok (.bipush 31, 2) := by decide +kernel
theorem dL_act_834 : decode cL_act 834 = .ok (.invokestatic 19, 3) := by decide +kernel
theorem dL_act_837 : decode cL_act 837 = .ok (.iadd, 1) := by decide +kernel
theorem dL_act_838 : decode cL_act 838 = .ok (.istore 9, 2) := by decide +kernel
theorem dL_act_840 : decode cL_act 840 = .ok (.iconst 1, 1) := by decide +kernel
theorem dL_act_841 : decode cL_act 841 = .ok (.iload_n 2, 1) := by decide +kernel
theorem dL_act_842 : decode cL_act 842 = .ok (.iconst 5, 1) := by decide +kernel
theorem dL_act_843 : decode cL_act 843 = .ok (.ishr, 1) := by decide +kernel
theorem dL_act_844 : decode cL_act 844 = .ok (.iconst 5, 1) := by decide +kernel
theorem dL_act_845 : decode cL_act 845 = .ok (.invokestatic 19, 3) := by decide +kernel
theorem dL_act_848 : decode cL_act 848 = .ok (.iadd, 1) := by decide +kernel
theorem dL_act_849 : decode cL_act 849 = .ok (.istore 10, 2) := by decide +kernel
theorem dL_act_851 : decode cL_act 851 = .ok (.iconst 0, 1) := by decide +kernel
theorem dL_act_852 : decode cL_act 852 = .ok (.istore 11, 2) := by decide +kernel
theorem dL_act_854 : decode cL_act 854 = .ok (.iload 11, 2) := by decide +kernel
theorem dL_act_856 : decode cL_act 856 = .ok (.iload 10, 2) := by decide +kernel
theorem dL_act_858 : decode cL_act 858 = .ok (.if_icmp .ge 15, 3) := by decide +kernel
theorem dL_act_861 : decode cL_act 861 = .ok (.aload_n 1, 1) := by decide +kernel
theorem dL_act_862 : decode cL_act 862 = .ok (.iload 9, 2) := by decide +kernel
theorem dL_act_864 : decode cL_act 864 = .ok (.invokevirtual 88, 3) := by decide +kernel
theorem dL_act_867 : decode cL_act 867 = .ok (.iinc 11 1, 3) := by decide +kernel
theorem dL_act_870 : decode cL_act 870 = .ok (.goto (-16), 3) := by decide +kernel
theorem dL_act_873 : decode cL_act 873 = .ok (.aload_n 0, 1) := by decide +kernel
theorem dL_act_874 : decode cL_act 874 = .ok (.iload 9, 2) := by decide +kernel
theorem dL_act_876 : decode cL_act 876 = .ok (.iload 10, 2) := by decide +kernel
theorem dL_act_878 : decode cL_act 878 = .ok (.invokevirtual 92, 3) := by decide +kernel
theorem dL_act_881 : decode cL_act 881 = .ok (.aload_n 1, 1) := by decide +kernel
theorem dL_act_882 : decode cL_act 882 = .ok (.invokevirtual 94, 3) := by decide +kernel
theorem dL_act_885 : decode cL_act 885 = .ok (.if_icmp .ne 7, 3) := by decide +kernel
theorem dL_act_888 : decode cL_act 888 = .ok (.iconst 1, 1) := by decide +kernel
theorem dL_act_889 : decode cL_act 889 = .ok (.goto 4, 3) := by decide +kernel
theorem dL_act_892 : decode cL_act 892 = .ok (.iconst 0, 1) := by decide +kernel
theorem dL_act_893 : decode cL_act 893 = .ok (.ireturn, 1) := by decide +kernel
theorem dL_act_894 : decode cL_act 894 = .ok (.iload 4, 2) := by decide +kernel
theorem dL_act_896 : decode cL_act 896 = .ok (.ifCond .ne 5, 3) := by decide +kernel
theorem dL_act_899 : decode cL_act 899 = .ok (.iconst 1, 1) := by decide +kernel
theorem dL_act_900 : decode cL_act 900 = .ok (.ireturn, 1) := by decide +kernel
theorem dL_act_901 : decode cL_act 901 = .ok (.aload_n 1, 1) := by decide +kernel
theorem dL_act_902 : decode cL_act 902 = .ok (.getfield 15, 3) := by decide +kernel
theorem dL_act_905 : decode cL_act 905 = .ok (.iload 6, 2) := by decide +kernel
theorem dL_act_907 : decode cL_act 907 = .ok (.aaload, 1) := by decide +kernel
theorem dL_act_908 : decode cL_act 908 = .ok (.astore 9, 2) := by decide +kernel
theorem dL_act_910 : decode cL_act 910 = .ok (.iload 7, 2) := by decide +kernel
theorem dL_act_912 : decode cL_act 912 = .ok (.bipush 16, 2) := by decide +kernel
theorem dL_act_914 : decode cL_act 914 = .ok (.if_icmp .ne 46, 3) := by decide +kernel
theorem dL_act_917 : decode cL_act 917 = .ok (.aload 9, 2) := by decide +kernel
theorem dL_act_919 : decode cL_act 919 = .ok (.iconst 3, 1) := by decide +kernel
theorem dL_act_920 : decode cL_act 920 = .ok (.aload 9, 2) := by decide +kernel
theorem dL_act_922 : decode cL_act 922 = .ok (.iconst 3, 1) := by decide +kernel
theorem dL_act_923 : decode cL_act 923 = .ok (.iaload, 1) := by decide +kernel
theorem dL_act_924 : decode cL_act 924 = .ok (.bipush 15, 2) := by decide +kernel
theorem dL_act_926 : decode cL_act 926 = .ok (.if_icmp .ge 7, 3) := by decide +kernel
theorem dL_act_929 : decode cL_act 929 = .ok (.iconst 0, 1) := by decide +kernel
theorem dL_act_930 : decode cL_act 930 = .ok (.goto 10, 3) := by decide +kernel
theorem dL_act_933 : decode cL_act 933 = .ok (.aload 9, 2) := by decide +kernel
theorem dL_act_935 : decode cL_act 935 = .ok (.iconst 3, 1) := by decide +kernel
theorem dL_act_936 : decode cL_act 936 = .ok (.iaload, 1) := by decide +kernel
theorem dL_act_937 : decode cL_act 937 = .ok (.bipush 15, 2) := by decide +kernel
theorem dL_act_939 : decode cL_act 939 = .ok (.isub, 1) := by decide +kernel
theorem dL_act_940 : decode cL_act 940 = .ok (.iastore, 1) := by decide +kernel
theorem dL_act_941 : decode cL_act 941 = .ok (.aload_n 0, 1) := by decide +kernel
theorem dL_act_942 : decode cL_act 942 = .ok (.iload 6, 2) := by decide +kernel
theorem dL_act_944 : decode cL_act 944 = .ok (.invokevirtual 97, 3) := by decide +kernel
theorem dL_act_947 : decode cL_act 947 = .ok (.aload 9, 2) := by decide +kernel
theorem dL_act_949 : decode cL_act 949 = .ok (.iconst 3, 1) := by decide +kernel
theorem dL_act_950 : decode cL_act 950 = .ok (.iaload, 1) := by decide +kernel
theorem dL_act_951 : decode cL_act 951 = .ok (.if_icmp .ne 7, 3) := by decide +kernel
theorem dL_act_954 : decode cL_act 954 = .ok (.iconst 1, 1) := by decide +kernel
theorem dL_act_955 : decode cL_act 955 = .ok (.goto 4, 3) := by decide +kernel
theorem dL_act_958 : decode cL_act 958 = .ok (.iconst 0, 1) := by decide +kernel
theorem dL_act_959 : decode cL_act 959 = .ok (.ireturn, 1) := by decide +kernel
theorem dL_act_960 : decode cL_act 960 = .ok (.iload 7, 2) := by decide +kernel
theorem dL_act_962 : decode cL_act 962 = .ok (.bipush 17, 2) := by decide +kernel
theorem dL_act_964 : decode cL_act 964 = .ok (.if_icmp .ne 86, 3) := by decide +kernel
theorem dL_act_967 : decode cL_act 967 = .ok (.aload 8, 2) := by decide +kernel
theorem dL_act_969 : decode cL_act 969 = .ok (.getfield 28, 3) := by decide +kernel
theorem dL_act_972 : decode cL_act 972 = .ok (.bipush 10, 2) := by decide +kernel
theorem dL_act_974 : decode cL_act 974 = .ok (.aload 9, 2) := by decide +kernel
theorem dL_act_976 : decode cL_act 976 = .ok (.iconst 0, 1) := by decide +kernel
theorem dL_act_977 : decode cL_act 977 = .ok (.iaload, 1) := by decide +kernel
theorem dL_act_978 : decode cL_act 978 = .ok (.imul, 1) := by decide +kernel
theorem dL_act_979 : decode cL_act 979 = .ok (.aload 9, 2) := by decide +kernel
theorem dL_act_981 : decode cL_act 981 = .ok (.iconst 1, 1) := by decide +kernel
theorem dL_act_982 : decode cL_act 982 = .ok (.iaload, 1) := by decide +kernel
theorem dL_act_983 : decode cL_act 983 = .ok (.imul, 1) := by decide +kernel
theorem dL_act_984 : decode cL_act 984 = .ok (.iadd, 1) := by decide +kernel
theorem dL_act_985 : decode cL_act 985 = .ok (.sipush 2000, 3) := by decide +kernel
theorem dL_act_988 : decode cL_act 988 = .ok (.if_icmp .le 5, 3) := by decide +kernel
theorem dL_act_991 : decode cL_act 991 = .ok (.iconst 1, 1) := by decide +kernel
theorem dL_act_992 : decode cL_act 992 = .ok (.ireturn, 1) := by decide +kernel
theorem dL_act_993 : decode cL_act 993 = .ok (.aload 8, 2) := by decide +kernel
theorem dL_act_995 : decode cL_act 995 = .ok (.dup, 1) := by decide +kernel
theorem dL_act_996 : decode cL_act 996 = .ok (.getfield 28, 3) := by decide +kernel
theorem dL_act_999 : decode cL_act 999 = .ok (.bipush 10, 2) := by decide +kernel
theorem dL_act_1001 : decode cL_act 1001 = .ok (.aload 9, 2) := by decide +kernel
theorem dL_act_1003 : decode cL_act 1003 = .ok (.iconst 0, 1) := by decide +kernel
theorem dL_act_1004 : decode cL_act 1004 = .ok (.iaload, 1) := by decide +kernel
theorem dL_act_1005 : decode cL_act 1005 = .ok (.imul, 1) := by decide +kernel
theorem dL_act_1006 : decode cL_act 1006 = .ok (.aload 9, 2) := by decide +kernel
theorem dL_act_1008 : decode cL_act 1008 = .ok (.iconst 1, 1) := by decide +kernel
theorem dL_act_1009 : decode cL_act 1009 = .ok (.iaload, 1) := by decide +kernel
theorem dL_act_1010 : decode cL_act 1010 = .ok (.imul, 1) := by decide +kernel
theorem dL_act_1011 : decode cL_act 1011 = .ok (.iadd, 1) := by decide +kernel
theorem dL_act_1012 : decode cL_act 1012 = .ok (.putfield 28, 3) := by decide +kernel
theorem dL_act_1015 : decode cL_act 1015 = .ok (.aload_n 1, 1) := by decide +kernel
theorem dL_act_1016 : decode cL_act 1016 = .ok (.aload_n 1, 1) := by decide +kernel
theorem dL_act_1017 : decode cL_act 1017 = .ok (.getfield 15, 3) := by decide +kernel
theorem dL_act_1020 : decode cL_act 1020 = .ok (.iload 6, 2) := by decide +kernel
theorem dL_act_1022 : decode cL_act 1022 = .ok (.invokestatic 100, 3) := by decide +kernel
theorem dL_act_1025 : decode cL_act 1025 = .ok (.putfield 15, 3) := by decide +kernel
theorem dL_act_1028 : decode cL_act 1028 = .ok (.aload_n 0, 1) := by decide +kernel
theorem dL_act_1029 : decode cL_act 1029 = .ok (.iload 6, 2) := by decide +kernel
theorem dL_act_1031 : decode cL_act 1031 = .ok (.iload 5, 2) := by decide +kernel
theorem dL_act_1033 : decode cL_act 1033 = .ok (.invokevirtual 104, 3) := by decide +kernel
theorem dL_act_1036 : decode cL_act 1036 = .ok (.aload 8, 2) := by decide +kernel
theorem dL_act_1038 : decode cL_act 1038 = .ok (.getfield 28, 3) := by decide +kernel
theorem dL_act_1041 : decode cL_act 1041 = .ok (.if_icmp .ne 7, 3) := by decide +kernel
theorem dL_act_1044 : decode cL_act 1044 = .ok (.iconst 1, 1) := by decide +kernel
theorem dL_act_1045 : decode cL_act 1045 = .ok (.goto 4, 3) := by decide +kernel
theorem dL_act_1048 : decode cL_act 1048 = .ok (.iconst 0, 1) := by decide +kernel
theorem dL_act_1049 : decode cL_act 1049 = .ok (.ireturn, 1) := by decide +kernel
theorem dL_act_1050 : decode cL_act 1050 = .ok (.iload_n 2, 1) := by decide +kernel
theorem dL_act_1051 : decode cL_act 1051 = .ok (.iconst 3, 1) := by decide +kernel
theorem dL_act_1052 : decode cL_act 1052 = .ok (.ishr, 1) := by decide +kernel
theorem dL_act_1053 : decode cL_act 1053 = .ok (.iconst 2, 1) := by decide +kernel
theorem dL_act_1054 : decode cL_act 1054 = .ok (.invokestatic 19, 3) := by decide +kernel
theorem dL_act_1057 : decode cL_act 1057 = .ok (.ifCond .ne 7, 3) := by decide +kernel
theorem dL_act_1060 : decode cL_act 1060 = .ok (.iconst 1, 1) := by decide +kernel
theorem dL_act_1061 : decode cL_act 1061 = .ok (.goto 4, 3) := by decide +kernel
theorem dL_act_1064 : decode cL_act 1064 = .ok (.iconst 0, 1) := by decide +kernel
theorem dL_act_1065 : decode cL_act 1065 = .ok (.istore 10, 2) := by decide +kernel
theorem dL_act_1067 : decode cL_act 1067 = .ok (.iload 10, 2) := by decide +kernel
theorem dL_act_1069 : decode cL_act 1069 = .ok (.ifCond .eq 7, 3) := by decide +kernel
theorem dL_act_1072 : decode cL_act 1072 = .ok (.iconst 1, 1) := by decide +kernel
theorem dL_act_1073 : decode cL_act 1073 = .ok (.goto 4, 3) := by decide +kernel
theorem dL_act_1076 : decode cL_act 1076 = .ok (.iconst 0, 1) := by decide +kernel
theorem dL_act_1077 : decode cL_act 1077 = .ok (.istore 11, 2) := by decide +kernel
theorem dL_act_1079 : decode cL_act 1079 = .ok (.aload 9, 2) := by decide +kernel
theorem dL_act_1081 : decode cL_act 1081 = .ok (.iload 11, 2) := by decide +kernel
theorem dL_act_1083 : decode cL_act 1083 = .ok (.iaload, 1) := by decide +kernel
theorem dL_act_1084 : decode cL_act 1084 = .ok (.iconst 1, 1) := by decide +kernel
theorem dL_act_1085 : decode cL_act 1085 = .ok (.if_icmp .eq 10, 3) := by decide +kernel
theorem dL_act_1088 : decode cL_act 1088 = .ok (.iload 4, 2) := by decide +kernel
theorem dL_act_1090 : decode cL_act 1090 = .ok (.bipush 8, 2) := by decide +kernel
theorem dL_act_1092 : decode cL_act 1092 = .ok (.if_icmp .ne 5, 3) := by decide +kernel
theorem dL_act_1095 : decode cL_act 1095 = .ok (.iconst 1, 1) := by decide +kernel
theorem dL_act_1096 : decode cL_act 1096 = .ok (.ireturn, 1) := by decide +kernel
theorem dL_act_1097 : decode cL_act 1097 = .ok (.iconst 1, 1) := by decide +kernel
theorem dL_act_1098 : decode cL_act 1098 = .ok (.iload_n 2, 1) := by decide +kernel
theorem dL_act_1099 : decode cL_act 1099 = .ok (.iconst 4, 1) := by decide +kernel
theorem dL_act_1100 : decode cL_act 1100 = .ok (.ishr, 1) := by decide +kernel
theorem dL_act_1101 : decode cL_act 1101 = .ok (.aload 9, 2) := by decide +kernel
theorem dL_act_1103 : decode cL_act 1103 = .ok (.iload 11, 2) := by decide +kernel
theorem dL_act_1105 : decode cL_act 1105 = .ok (.iaload, 1) := by decide +kernel
theorem dL_act_1106 : decode cL_act 1106 = .ok (.iconst 1, 1) := by decide +kernel
theorem dL_act_1107 : decode cL_act 1107 = .ok (.isub, 1) := by decide +kernel
theorem dL_act_1108 : decode cL_act 1108 = .ok (.invokestatic 19, 3) := by decide +kernel
theorem dL_act_1111 : decode cL_act 1111 = .ok (.iadd, 1) := by decide +kernel
theorem dL_act_1112 : decode cL_act 1112 = .ok (.istore 12, 2) := by decide +kernel
theorem dL_act_1114 : decode cL_act 1114 = .ok (.aload 9, 2) := by decide +kernel
theorem dL_act_1116 : decode cL_act 1116 = .ok (.invokevirtual 107, 3) := by decide +kernel
theorem dL_act_1119 : decode cL_act 1119 = .ok (.checkcast 108, 3) := by decide +kernel
theorem dL_act_1122 : decode cL_act 1122 = .ok (.astore 13, 2) := by decide +kernel
theorem dL_act_1124 : decode cL_act 1124 = .ok (.aload 13, 2) := by decide +kernel
theorem dL_act_1126 : decode cL_act 1126 = .ok (.iload 11, 2) := by decide +kernel
theorem dL_act_1128 : decode cL_act 1128 = .ok (.dup2, 1) := by decide +kernel
theorem dL_act_1129 : decode cL_act 1129 = .ok (.iaload, 1) := by decide +kernel
theorem dL_act_1130 : decode cL_act 1130 = .ok (.iload 12, 2) := by decide +kernel
theorem dL_act_1132 : decode cL_act 1132 = .ok (.isub, 1) := by decide +kernel
theorem dL_act_1133 : decode cL_act 1133 = .ok (.iastore, 1) := by decide +kernel
theorem dL_act_1134 : decode cL_act 1134 = .ok (.aload 9, 2) := by decide +kernel
theorem dL_act_1136 : decode cL_act 1136 = .ok (.iload 11, 2) := by decide +kernel
theorem dL_act_1138 : decode cL_act 1138 = .ok (.iload 12, 2) := by decide +kernel
theorem dL_act_1140 : decode cL_act 1140 = .ok (.iastore, 1) := by decide +kernel
theorem dL_act_1141 : decode cL_act 1141 = .ok (.aload_n 1, 1) := by decide +kernel
theorem dL_act_1142 : decode cL_act 1142 = .ok (.aload_n 1, 1) := by decide +kernel
theorem dL_act_1143 : decode cL_act 1143 = .ok (.getfield 15, 3) := by decide +kernel
theorem dL_act_1146 : decode cL_act 1146 = .ok (.aload 13, 2) := by decide +kernel
theorem dL_act_1148 : decode cL_act 1148 = .ok (.invokestatic 71, 3) := by decide +kernel
theorem dL_act_1151 : decode cL_act 1151 = .ok (.putfield 15, 3) := by decide +kernel
theorem dL_act_1154 : decode cL_act 1154 = .ok (.aload_n 0, 1) := by decide +kernel
theorem dL_act_1155 : decode cL_act 1155 = .ok (.iload 6, 2) := by decide +kernel
theorem dL_act_1157 : decode cL_act 1157 = .ok (.iload 12, 2) := by decide +kernel
theorem dL_act_1159 : decode cL_act 1159 = .ok (.iload 10, 2) := by decide +kernel
theorem dL_act_1161 : decode cL_act 1161 = .ok (.invokevirtual 112, 3) := by decide +kernel
theorem dL_act_1164 : decode cL_act 1164 = .ok (.iload 4, 2) := by decide +kernel
theorem dL_act_1166 : decode cL_act 1166 = .ok (.if_icmp .ne 7, 3) := by decide +kernel
theorem dL_act_1169 : decode cL_act 1169 = .ok (.iconst 1, 1) := by decide +kernel
theorem dL_act_1170 : decode cL_act 1170 = .ok (.goto 4, 3) := by decide +kernel
theorem dL_act_1173 : decode cL_act 1173 = .ok (.iconst 0, 1) := by decide +kernel
theorem dL_act_1174 : decode cL_act 1174 = .ok (.ireturn, 1) := by decide +kernel
theorem dL_build_0 : decode cL_build 0 = .ok (.new 10, 3) := by decide +kernel
theorem dL_build_3 : decode cL_build 3 = .ok (.dup, 1) := by decide +kernel
theorem dL_build_4 : decode cL_build 4 = .ok (.invokespecial 116, 3) := by decide +kernel
theorem dL_build_7 : decode cL_build 7 = .ok (.astore_n 2, 1) := by decide +kernel
theorem dL_build_8 : decode cL_build 8 = .ok (.bipush 20, 2) := by decide +kernel
theorem dL_build_10 : decode cL_build 10 = .ok (.aload_n 1, 1) := by decide +kernel
theorem dL_build_11 : decode cL_build 11 = .ok (.iconst 0, 1) := by decide +kernel
theorem dL_build_12 : decode cL_build 12 = .ok (.invokestatic 117, 3) := by decide +kernel
theorem dL_build_15 : decode cL_build 15 = .ok (.bipush 40, 2) := by decide +kernel
theorem dL_build_17 : decode cL_build 17 = .ok (.invokestatic 19, 3) := by decide +kernel
theorem dL_build_20 : decode cL_build 20 = .ok (.iadd, 1) := by decide +kernel
theorem dL_build_21 : decode cL_build 21 = .ok (.istore_n 3, 1) := by decide +kernel
theorem dL_build_22 : decode cL_build 22 = .ok (.iconst 0, 1) := by decide +kernel
theorem dL_build_23 : decode cL_build 23 = .ok (.istore 4, 2) := by decide +kernel
theorem dL_build_25 : decode cL_build 25 = .ok (.iload 4, 2) := by decide +kernel
theorem dL_build_27 : decode cL_build 27 = .ok (.iload_n 3, 1) := by decide +kernel
theorem dL_build_28 : decode cL_build 28 = .ok (.if_icmp .ge 43, 3) := by decide +kernel
theorem dL_build_31 : decode cL_build 31 = .ok (.aload_n 0, 1) := by decide +kernel
theorem dL_build_32 : decode cL_build 32 = .ok (.aload_n 2, 1) := by decide +kernel
theorem dL_build_33 : decode cL_build 33 = .ok (.aload_n 1, 1) := by decide +kernel
theorem dL_build_34 : decode cL_build 34 = .ok (.iload 4, 2) := by decide +kernel
theorem dL_build_36 : decode cL_build 36 = .ok (.bipush 16, 2) := by decide +kernel
theorem dL_build_38 : decode cL_build 38 = .ok (.irem, 1) := by decide +kernel
theorem dL_build_39 : decode cL_build 39 = .ok (.invokestatic 117, 3) := by decide +kernel
theorem dL_build_42 : decode cL_build 42 = .ok (.iload 4, 2) := by decide +kernel
theorem dL_build_44 : decode cL_build 44 = .ok (.bipush 16, 2) := by decide +kernel
theorem dL_build_46 : decode cL_build 46 = .ok (.idiv, 1) := by decide +kernel
theorem dL_build_47 : decode cL_build 47 = .ok (.iconst 3, 1) := by decide +kernel
theorem dL_build_48 : decode cL_build 48 = .ok (.imul, 1) := by decide +kernel
theorem dL_build_49 : decode cL_build 49 = .ok (.ishr, 1) := by decide +kernel
theorem dL_build_50 : decode cL_build 50 = .ok (.sipush 467, 3) := by decide +kernel
theorem dL_build_53 : decode cL_build 53 = .ok (.iload 4, 2) := by decide +kernel
theorem dL_build_55 : decode cL_build 55 = .ok (.imul, 1) := by decide +kernel
theorem dL_build_56 : decode cL_build 56 = .ok (.iadd, 1) := by decide +kernel
theorem dL_build_57 : decode cL_build 57 = .ok (.invokestatic 121, 3) := by decide +kernel
theorem dL_build_60 : decode cL_build 60 = .ok (.ifCond .ne 5, 3) := by decide +kernel
theorem dL_build_63 : decode cL_build 63 = .ok (.aconst_null, 1) := by decide +kernel
theorem dL_build_64 : decode cL_build 64 = .ok (.areturn, 1) := by decide +kernel
theorem dL_build_65 : decode cL_build 65 = .ok (.iinc 4 1, 3) := by decide +kernel
theorem dL_build_68 : decode cL_build 68 = .ok (.goto (-43), 3) := by decide +kernel
theorem dL_build_71 : decode cL_build 71 = .ok (.aload_n 2, 1) := by decide +kernel
theorem dL_build_72 : decode cL_build 72 = .ok (.areturn, 1) := by decide +kernel
theorem dL_law_0 : decode cL_law 0 = .ok (.new 33, 3) := by decide +kernel
theorem dL_law_3 : decode cL_law 3 = .ok (.dup, 1) := by decide +kernel
theorem dL_law_4 : decode cL_law 4 = .ok (.invokespecial 125, 3) := by decide +kernel
theorem dL_law_7 : decode cL_law 7 = .ok (.astore_n 1, 1) := by decide +kernel
theorem dL_law_8 : decode cL_law 8 = .ok (.aload_n 1, 1) := by decide +kernel
theorem dL_law_9 : decode cL_law 9 = .ok (.aload_n 0, 1) := by decide +kernel
theorem dL_law_10 : decode cL_law 10 = .ok (.invokestatic 126, 3) := by decide +kernel
theorem dL_law_13 : decode cL_law 13 = .ok (.astore_n 2, 1) := by decide +kernel
theorem dL_law_14 : decode cL_law 14 = .ok (.aload_n 2, 1) := by decide +kernel
theorem dL_law_15 : decode cL_law 15 = .ok (.ifnonnull 5, 3) := by decide +kernel
theorem dL_law_18 : decode cL_law 18 = .ok (.iconst 0, 1) := by decide +kernel
theorem dL_law_19 : decode cL_law 19 = .ok (.ireturn, 1) := by decide +kernel
theorem dL_law_20 : decode cL_law 20 = .ok (.iconst 0, 1) := by decide +kernel
theorem dL_law_21 : decode cL_law 21 = .ok (.istore_n 3, 1) := by decide +kernel
theorem dL_law_22 : decode cL_law 22 = .ok (.iload_n 3, 1) := by decide +kernel
theorem dL_law_23 : decode cL_law 23 = .ok (.bipush 40, 2) := by decide +kernel
theorem dL_law_25 : decode cL_law 25 = .ok (.if_icmp .ge 923, 3) := by decide +kernel
theorem dL_law_28 : decode cL_law 28 = .ok (.aload_n 0, 1) := by decide +kernel
theorem dL_law_29 : decode cL_law 29 = .ok (.iload_n 3, 1) := by decide +kernel
theorem dL_law_30 : decode cL_law 30 = .ok (.bipush 16, 2) := by decide +kernel
theorem dL_law_32 : decode cL_law 32 = .ok (.irem, 1) := by decide +kernel
theorem dL_law_33 : decode cL_law 33 = .ok (.invokestatic 117, 3) := by decide +kernel
theorem dL_law_36 : decode cL_law 36 = .ok (.iload_n 3, 1) := by decide +kernel
theorem dL_law_37 : decode cL_law 37 = .ok (.bipush 16, 2) := by decide +kernel
theorem dL_law_39 : decode cL_law 39 = .ok (.idiv, 1) := by decide +kernel
theorem dL_law_40 : decode cL_law 40 = .ok (.iconst 3, 1) := by decide +kernel
theorem dL_law_41 : decode cL_law 41 = .ok (.imul, 1) := by decide +kernel
theorem dL_law_42 : decode cL_law 42 = .ok (.ishr, 1) := by decide +kernel
theorem dL_law_43 : decode cL_law 43 = .ok (.sipush 467, 3) := by decide +kernel
theorem dL_law_46 : decode cL_law 46 = .ok (.iload_n 3, 1) := by decide +kernel
theorem dL_law_47 : decode cL_law 47 = .ok (.imul, 1) := by decide +kernel
theorem dL_law_48 : decode cL_law 48 = .ok (.iadd, 1) := by decide +kernel
theorem dL_law_49 : decode cL_law 49 = .ok (.istore 4, 2) := by decide +kernel
theorem dL_law_51 : decode cL_law 51 = .ok (.aload_n 1, 1) := by decide +kernel
theorem dL_law_52 : decode cL_law 52 = .ok (.iconst 1, 1) := by decide +kernel
theorem dL_law_53 : decode cL_law 53 = .ok (.invokevirtual 130, 3) := by decide +kernel
theorem dL_law_56 : decode cL_law 56 = .ok (.istore 5, 2) := by decide +kernel
theorem dL_law_58 : decode cL_law 58 = .ok (.iconst 0, 1) := by decide +kernel
theorem dL_law_59 : decode cL_law 59 = .ok (.istore 6, 2) := by decide +kernel
theorem dL_law_61 : decode cL_law 61 = .ok (.iconst 0, 1) := by decide +kernel
theorem dL_law_62 : decode cL_law 62 = .ok (.istore 7, 2) := by decide +kernel
theorem dL_law_64 : decode cL_law 64 = .ok (.iload 7, 2) := by decide +kernel
theorem dL_law_66 : decode cL_law 66 = .ok (.aload_n 1, 1) := by decide +kernel
theorem dL_law_67 : decode cL_law 67 = .ok (.iconst 3, 1) := by decide +kernel
theorem dL_law_68 : decode cL_law 68 = .ok (.invokevirtual 130, 3) := by decide +kernel
theorem dL_law_71 : decode cL_law 71 = .ok (.if_icmp .ge 29, 3) := by decide +kernel
theorem dL_law_74 : decode cL_law 74 = .ok (.iload 6, 2) := by decide +kernel
theorem dL_law_76 : decode cL_law 76 = .ok (.aload_n 1, 1) := by decide +kernel
theorem dL_law_77 : decode cL_law 77 = .ok (.iload 7, 2) := by decide +kernel
theorem dL_law_79 : decode cL_law 79 = .ok (.iconst 2, 1) := by decide +kernel
theorem dL_law_80 : decode cL_law 80 = .ok (.invokevirtual 133, 3) := by decide +kernel
theorem dL_law_83 : decode cL_law 83 = .ok (.aload_n 1, 1) := by decide +kernel
theorem dL_law_84 : decode cL_law 84 = .ok (.iload 7, 2) := by decide +kernel
theorem dL_law_86 : decode cL_law 86 = .ok (.iconst 0, 1) := by decide +kernel
theorem dL_law_87 : decode cL_law 87 = .ok (.invokevirtual 133, 3) := by decide +kernel
theorem dL_law_90 : decode cL_law 90 = .ok (.imul, 1) := by decide +kernel
theorem dL_law_91 : decode cL_law 91 = .ok (.iadd, 1) := by decide +kernel
theorem dL_law_92 : decode cL_law 92 = .ok (.istore 6, 2) := by decide +kernel
theorem dL_law_94 : decode cL_law 94 = .ok (.iinc 7 1, 3) := by decide +kernel
theorem dL_law_97 : decode cL_law 97 = .ok (.goto (-33), 3) := by decide +kernel
theorem dL_law_100 : decode cL_law 100 = .ok (.aload_n 1, 1) := by decide +kernel
theorem dL_law_101 : decode cL_law 101 = .ok (.iconst 5, 1) := by decide +kernel
theorem dL_law_102 : decode cL_law 102 = .ok (.invokevirtual 130, 3) := by decide +kernel
theorem dL_law_105 : decode cL_law 105 = .ok (.bipush 10, 2) := by decide +kernel
theorem dL_law_107 : decode cL_law 107 = .ok (.aload_n 1, 1) := by decide +kernel
theorem dL_law_108 : decode cL_law 108 = .ok (.bipush 6, 2) := by decide +kernel
theorem dL_law_110 : decode cL_law 110 = .ok (.invokevirtual 130, 3) := by decide +kernel
theorem dL_law_113 : decode cL_law 113 = .ok (.imul, 1) := by decide +kernel
theorem dL_law_114 : decode cL_law 114 = .ok (.iadd, 1) := by decide +kernel
theorem dL_law_115 : decode cL_law 115 = .ok (.bipush 10, 2) := by decide +kernel
theorem dL_law_117 : decode cL_law 117 = .ok (.iload 6, 2) := by decide +kernel
theorem dL_law_119 : decode cL_law 119 = .ok (.imul, 1) := by decide +kernel
theorem dL_law_120 : decode cL_law 120 = .ok (.iadd, 1) := by decide +kernel
theorem dL_law_121 : decode cL_law 121 = .ok (.istore 7, 2) := by decide +kernel
theorem dL_law_123 : decode cL_law 123 = .ok (.aload_n 1, 1) := by decide +kernel
theorem dL_law_124 : decode cL_law 124 = .ok (.iconst 4, 1) := by decide +kernel
theorem dL_law_125 : decode cL_law 125 = .ok (.invokevirtual 130, 3) := by decide +kernel
theorem dL_law_128 : decode cL_law 128 = .ok (.istore 8, 2) := by decide +kernel
theorem dL_law_130 : decode cL_law 130 = .ok (.aload_n 1, 1) := by decide +kernel
theorem dL_law_131 : decode cL_law 131 = .ok (.aload_n 2, 1) := by decide +kernel
theorem dL_law_132 : decode cL_law 132 = .ok (.iload 4, 2) := by decide +kernel
theorem dL_law_134 : decode cL_law 134 = .ok (.invokestatic 121, 3) := by decide +kernel
theorem dL_law_137 : decode cL_law 137 = .ok (.ifCond .ne 5, 3) := by decide +kernel
theorem dL_law_140 : decode cL_law 140 = .ok (.iconst 0, 1) := by decide +kernel
theorem dL_law_141 : decode cL_law 141 = .ok (.ireturn, 1) := by decide +kernel
theorem dL_law_142 : decode cL_law 142 = .ok (.aload_n 1, 1) := by decide +kernel
theorem dL_law_143 : decode cL_law 143 = .ok (.iconst 1, 1) := by decide +kernel
theorem dL_law_144 : decode cL_law 144 = .ok (.invokevirtual 130, 3) := by decide +kernel
theorem dL_law_147 : decode cL_law 147 = .ok (.iload 5, 2) := by decide +kernel
theorem dL_law_149 : decode cL_law 149 = .ok (.if_icmp .le 15, 3) := by decide +kernel
theorem dL_law_152 : decode cL_law 152 = .ok (.iload 7, 2) := by decide +kernel
theorem dL_law_154 : decode cL_law 154 = .ok (.aload_n 1, 1) := by decide +kernel
theorem dL_law_155 : decode cL_law 155 = .ok (.iload 5, 2) := by decide +kernel
theorem dL_law_157 : decode cL_law 157 = .ok (.iconst 0, 1) := by decide +kernel
theorem dL_law_158 : decode cL_law 158 = .ok (.invokevirtual 136, 3) := by decide +kernel
theorem dL_law_161 : decode cL_law 161 = .ok (.iadd, 1) := by decide +kernel
theorem dL_law_162 : decode cL_law 162 = .ok (.istore 7, 2) := by decide +kernel
theorem dL_law_164 : decode cL_law 164 = .ok (.iconst 0, 1) := by decide +kernel
theorem dL_law_165 : decode cL_law 165 = .ok (.istore 9, 2) := by decide +kernel
theorem dL_law_167 : decode cL_law 167 = .ok (.iconst 0, 1) := by decide +kernel
theorem dL_law_168 : decode cL_law 168 = .ok (.istore 10, 2) := by decide +kernel
theorem dL_law_170 : decode cL_law 170 = .ok (.iload 10, 2) := by decide +kernel
theorem dL_law_172 : decode cL_law 172 = .ok (.aload_n 1, 1) := by decide +kernel
theorem dL_law_173 : decode cL_law 173 = .ok (.iconst 1, 1) := by decide +kernel
theorem dL_law_174 : decode cL_law 174 = .ok (.invokevirtual 130, 3) := by decide +kernel
theorem dL_law_177 : decode cL_law 177 = .ok (.if_icmp .ge 189, 3) := by decide +kernel
theorem dL_law_180 : decode cL_law 180 = .ok (.iconst 0, 1) := by decide +kernel
theorem dL_law_181 : decode cL_law 181 = .ok (.istore 11, 2) := by decide +kernel
theorem dL_law_183 : decode cL_law 183 = .ok (.iconst 1, 1) := by decide +kernel
theorem dL_law_184 : decode cL_law 184 = .ok (.istore 12, 2) := by decide +kernel
theorem dL_law_186 : decode cL_law 186 = .ok (.iload 12, 2) := by decide +kernel
theorem dL_law_188 : decode cL_law 188 = .ok (.bipush 6, 2) := by decide +kernel
theorem dL_law_190 : decode cL_law 190 = .ok (.if_icmp .ge 35, 3) := by decide +kernel
theorem dL_law_193 : decode cL_law 193 = .ok (.aload_n 1, 1) := by decide +kernel
theorem dL_law_194 : decode cL_law 194 = .ok (.iload 10, 2) := by decide +kernel
theorem dL_law_196 : decode cL_law 196 = .ok (.iload 12, 2) := by decide +kernel
theorem dL_law_198 : decode cL_law 198 = .ok (.invokevirtual 136, 3) := by decide +kernel
theorem dL_law_201 : decode cL_law 201 = .ok (.ifCond .ge 5, 3) := by decide +kernel
theorem dL_law_204 : decode cL_law 204 = .ok (.iconst 0, 1) := by decide +kernel
theorem dL_law_205 : decode cL_law 205 = .ok (.ireturn, 1) := by decide +kernel
theorem dL_law_206 : decode cL_law 206 = .ok (.iload 11, 2) := by decide +kernel
theorem dL_law_208 : decode cL_law 208 = .ok (.aload_n 1, 1) := by decide +kernel
theorem dL_law_209 : decode cL_law 209 = .ok (.iload 10, 2) := by decide +kernel
theorem dL_law_211 : decode cL_law 211 = .ok (.iload 12, 2) := by decide +kernel
theorem dL_law_213 : decode cL_law 213 = .ok (.invokevirtual 136, 3) := by decide +kernel
theorem dL_law_216 : decode cL_law 216 = .ok (.iadd, 1) := by decide +kernel
theorem dL_law_217 : decode cL_law 217 = .ok (.istore 11, 2) := by decide +kernel
theorem dL_law_219 : decode cL_law 219 = .ok (.iinc 12 1, 3) := by decide +kernel
theorem dL_law_222 : decode cL_law 222 = .ok (.goto (-36), 3) := by decide +kernel
theorem dL_law_225 : decode cL_law 225 = .ok (.iconst 2, 1) := by decide +kernel
theorem dL_law_226 : decode cL_law 226 = .ok (.aload_n 1, 1) := by decide +kernel
theorem dL_law_227 : decode cL_law 227 = .ok (.iload 10, 2) := by decide +kernel
theorem dL_law_229 : decode cL_law 229 = .ok (.iconst 5, 1) := by decide +kernel
theorem dL_law_230 : decode cL_law 230 = .ok (.invokevirtual 136, 3) := by decide +kernel
theorem dL_law_233 : decode cL_law 233 = .ok (.imul, 1) := by decide +kernel
theorem dL_law_234 : decode cL_law 234 = .ok (.aload_n 1, 1) := by decide +kernel
theorem dL_law_235 : decode cL_law 235 = .ok (.iload 10, 2) := by decide +kernel
theorem dL_law_237 : decode cL_law 237 = .ok (.iconst 4, 1) := by decide +kernel
theorem dL_law_238 : decode cL_law 238 = .ok (.invokevirtual 136, 3) := by decide +kernel
theorem dL_law_241 : decode cL_law 241 = .ok (.iadd, 1) := by decide +kernel
theorem dL_law_242 : decode cL_law 242 = .ok (.aload_n 1, 1) := by decide +kernel
theorem dL_law_243 : decode cL_law 243 = .ok (.iload 10, 2) := by decide +kernel
theorem dL_law_245 : decode cL_law 245 = .ok (.iconst 3, 1) := by decide +kernel
theorem dL_law_246 : decode cL_law 246 = .ok (.invokevirtual 136, 3) := by decide +kernel
theorem dL_law_249 : decode cL_law 249 = .ok (.isub, 1) := by decide +kernel
theorem dL_law_250 : decode cL_law 250 = .ok (.aload_n 1, 1) := by decide +kernel
theorem dL_law_251 : decode cL_law 251 = .ok (.iload 10, 2) := by decide +kernel
theorem dL_law_253 : decode cL_law 253 = .ok (.iconst 2, 1) := by decide +kernel
theorem dL_law_254 : decode cL_law 254 = .ok (.invokevirtual 136, 3) := by decide +kernel
theorem dL_law_257 : decode cL_law 257 = .ok (.isub, 1) := by decide +kernel
theorem dL_law_258 : decode cL_law 258 = .ok (.aload_n 1, 1) := by decide +kernel
theorem dL_law_259 : decode cL_law 259 = .ok (.iload 10, 2) := by decide +kernel
theorem dL_law_261 : decode cL_law 261 = .ok (.iconst 1, 1) := by decide +kernel
theorem dL_law_262 : decode cL_law 262 = .ok (.invokevirtual 136, 3) := by decide +kernel
theorem dL_law_265 : decode cL_law 265 = .ok (.isub, 1) := by decide +kernel
theorem dL_law_266 : decode cL_law 266 = .ok (.istore 12, 2) := by decide +kernel
theorem dL_law_268 : decode cL_law 268 = .ok (.iload 11, 2) := by decide +kernel
theorem dL_law_270 : decode cL_law 270 = .ok (.bipush 100, 2) := by decide +kernel
theorem dL_law_272 : decode cL_law 272 = .ok (.if_icmp .gt 74, 3) := by decide +kernel
theorem dL_law_275 : decode cL_law 275 = .ok (.aload_n 1, 1) := by decide +kernel
theorem dL_law_276 : decode cL_law 276 = .ok (.iload 10, 2) := by decide +kernel
theorem dL_law_278 : decode cL_law 278 = .ok (.bipush 7, 2) := by decide +kernel
theorem dL_law_280 : decode cL_law 280 = .ok (.invokevirtual 136, 3) := by decide +kernel
theorem dL_law_283 : decode cL_law 283 = .ok (.iconst 0, 1) := by decide +kernel
theorem dL_law_284 : decode cL_law 284 = .ok (.bipush 100, 2) := by decide +kernel
theorem dL_law_286 : decode cL_law 286 = .ok (.iload 12, 2) := by decide +kernel
theorem dL_law_288 : decode cL_law 288 = .ok (.invokestatic 57, 3) := by decide +kernel
theorem dL_law_291 : decode cL_law 291 = .ok (.invokestatic 139, 3) := by decide +kernel
theorem dL_law_294 : decode cL_law 294 = .ok (.if_icmp .ne 52, 3) := by decide +kernel
theorem dL_law_297 : decode cL_law 297 = .ok (.aload_n 1, 1) := by decide +kernel
theorem dL_law_298 : decode cL_law 298 = .ok (.iload 10, 2) := by decide +kernel
theorem dL_law_300 : decode cL_law 300 = .ok (.bipush 6, 2) := by decide +kernel
theorem dL_law_302 : decode cL_law 302 = .ok (.invokevirtual 136, 3) := by decide +kernel
theorem dL_law_305 : decode cL_law 305 = .ok (.bipush 15, 2) := by decide +kernel
theorem dL_law_307 : decode cL_law 307 = .ok (.if_icmp .lt 39, 3) := by decide +kernel
theorem dL_law_310 : decode cL_law 310 = .ok (.aload_n 1, 1) := by decide +kernel
theorem dL_law_311 : decode cL_law 311 = .ok (.iload 10, 2) := by decide +kernel
theorem dL_law_313 : decode cL_law 313 = .ok (.bipush 6, 2) := by decide +kernel
theorem dL_law_315 : decode cL_law 315 = .ok (.invokevirtual 136, 3) := by decide +kernel
theorem dL_law_318 : decode cL_law 318 = .ok (.bipush 50, 2) := by decide +kernel
theorem dL_law_320 : decode cL_law 320 = .ok (.if_icmp .gt 26, 3) := by decide +kernel
theorem dL_law_323 : decode cL_law 323 = .ok (.aload_n 1, 1) := by decide +kernel
theorem dL_law_324 : decode cL_law 324 = .ok (.iload 10, 2) := by decide +kernel
theorem dL_law_326 : decode cL_law 326 = .ok (.iconst 0, 1) := by decide +kernel
theorem dL_law_327 : decode cL_law 327 = .ok (.invokevirtual 136, 3) := by decide +kernel
theorem dL_law_330 : decode cL_law 330 = .ok (.ifCond .lt 16, 3) := by decide +kernel
theorem dL_law_333 : decode cL_law 333 = .ok (.aload_n 1, 1) := by decide +kernel
theorem dL_law_334 : decode cL_law 334 = .ok (.iload 10, 2) := by decide +kernel
theorem dL_law_336 : decode cL_law 336 = .ok (.iconst 0, 1) := by decide +kernel
theorem dL_law_337 : decode cL_law 337 = .ok (.invokevirtual 136, 3) := by decide +kernel
theorem dL_law_340 : decode cL_law 340 = .ok (.sipush 2000, 3) := by decide +kernel
theorem dL_law_343 : decode cL_law 343 = .ok (.if_icmp .le 5, 3) := by decide +kernel
theorem dL_law_346 : decode cL_law 346 = .ok (.iconst 0, 1) := by decide +kernel
theorem dL_law_347 : decode cL_law 347 = .ok (.ireturn, 1) := by decide +kernel
theorem dL_law_348 : decode cL_law 348 = .ok (.iload 9, 2) := by decide +kernel
theorem dL_law_350 : decode cL_law 350 = .ok (.aload_n 1, 1) := by decide +kernel
theorem dL_law_351 : decode cL_law 351 = .ok (.iload 10, 2) := by decide +kernel
theorem dL_law_353 : decode cL_law 353 = .ok (.iconst 0, 1) := by decide +kernel
theorem dL_law_354 : decode cL_law 354 = .ok (.invokevirtual 136, 3) := by decide +kernel
theorem dL_law_357 : decode cL_law 357 = .ok (.iadd, 1) := by decide +kernel
theorem dL_law_358 : decode cL_law 358 = .ok (.istore 9, 2) := by decide +kernel
theorem dL_law_360 : decode cL_law 360 = .ok (.iinc 10 1, 3) := by decide +kernel
theorem dL_law_363 : decode cL_law 363 = .ok (.goto (-193), 3) := by decide +kernel
theorem dL_law_366 : decode cL_law 366 = .ok (.iconst 0, 1) := by decide +kernel
theorem dL_law_367 : decode cL_law 367 = .ok (.istore 10, 2) := by decide +kernel
theorem dL_law_369 : decode cL_law 369 = .ok (.iconst 0, 1) := by decide +kernel
theorem dL_law_370 : decode cL_law 370 = .ok (.istore 11, 2) := by decide +kernel
theorem dL_law_372 : decode cL_law 372 = .ok (.iconst 0, 1) := by decide +kernel
theorem dL_law_373 : decode cL_law 373 = .ok (.istore 12, 2) := by decide +kernel
theorem dL_law_375 : decode cL_law 375 = .ok (.iload 12, 2) := by decide +kernel
theorem dL_law_377 : decode cL_law 377 = .ok (.aload_n 1, 1) := by decide +kernel
theorem dL_law_378 : decode cL_law 378 = .ok (.iconst 2, 1) := by decide +kernel
theorem dL_law_379 : decode cL_law 379 = .ok (.invokevirtual 130, 3) := by decide +kernel
theorem dL_law_382 : decode cL_law 382 = .ok (.if_icmp .ge 252, 3) := by decide +kernel
theorem dL_law_385 : decode cL_law 385 = .ok (.aload_n 1, 1) := by decide +kernel
theorem dL_law_386 : decode cL_law 386 = .ok (.iload 12, 2) := by decide +kernel
theorem dL_law_388 : decode cL_law 388 = .ok (.bipush 6, 2) := by decide +kernel
theorem dL_law_390 : decode cL_law 390 = .ok (.invokevirtual 142, 3) := by decide +kernel
theorem dL_law_393 : decode cL_law 393 = .ok (.istore 13, 2) := by decide +kernel
theorem dL_law_395 : decode cL_law 395 = .ok (.aload_n 1, 1) := by decide +kernel
theorem dL_law_396 : decode cL_law 396 = .ok (.iload 12, 2) := by decide +kernel
theorem dL_law_398 : decode cL_law 398 = .ok (.iconst 5, 1) := by decide +kernel
theorem dL_law_399 : decode cL_law 399 = .ok (.invokevirtual 142, 3) := by decide +kernel
theorem dL_law_402 : decode cL_law 402 = .ok (.istore 14, 2) := by decide +kernel
theorem dL_law_404 : decode cL_law 404 = .ok (.aload_n 1, 1) := by decide +kernel
theorem dL_law_405 : decode cL_law 405 = .ok (.iload 12, 2) := by decide +kernel
theorem dL_law_407 : decode cL_law 407 = .ok (.iconst 0, 1) := by decide +kernel
theorem dL_law_408 : decode cL_law 408 = .ok (.invokevirtual 142, 3) := by decide +kernel
theorem dL_law_411 : decode cL_law 411 = .ok (.iconst 1, 1) := by decide +kernel
theorem dL_law_412 : decode cL_law 412 = .ok (.if_icmp .lt 127, 3) := by decide +kernel
theorem dL_law_415 : decode cL_law 415 = .ok (.aload_n 1, 1) := by decide +kernel
theorem dL_law_416 : decode cL_law 416 = .ok (.iload 12, 2) := by decide +kernel
theorem dL_law_418 : decode cL_law 418 = .ok (.iconst 0, 1) := by decide +kernel
theorem dL_law_419 : decode cL_law 419 = .ok (.invokevirtual 142, 3) := by decide +kernel
theorem dL_law_422 : decode cL_law 422 = .ok (.bipush 6, 2) := by decide +kernel
theorem dL_law_424 : decode cL_law 424 = .ok (.if_icmp .gt 115, 3) := by decide +kernel
theorem dL_law_427 : decode cL_law 427 = .ok (.aload_n 1, 1) := by decide +kernel
theorem dL_law_428 : decode cL_law 428 = .ok (.iload 12, 2) := by decide +kernel
theorem dL_law_430 : decode cL_law 430 = .ok (.iconst 1, 1) := by decide +kernel
theorem dL_law_431 : decode cL_law 431 = .ok (.invokevirtual 142, 3) := by decide +kernel
theorem dL_law_434 : decode cL_law 434 = .ok (.iconst 1, 1) := by decide +kernel
theorem dL_law_435 : decode cL_law 435 = .ok (.if_icmp .lt 104, 3) := by decide +kernel
theorem dL_law_438 : decode cL_law 438 = .ok (.aload_n 1, 1) := by decide +kernel
theorem dL_law_439 : decode cL_law 439 = .ok (.iload 12, 2) := by decide +kernel
theorem dL_law_441 : decode cL_law 441 = .ok (.iconst 1, 1) := by decide +kernel
theorem dL_law_442 : decode cL_law 442 = .ok (.invokevirtual 142, 3) := by decide +kernel
theorem dL_law_445 : decode cL_law 445 = .ok (.bipush 6, 2) := by decide +kernel
theorem dL_law_447 : decode cL_law 447 = .ok (.if_icmp .gt 92, 3) := by decide +kernel
theorem dL_law_450 : decode cL_law 450 = .ok (.iload 14, 2) := by decide +kernel
theorem dL_law_452 : decode cL_law 452 = .ok (.aload_n 1, 1) := by decide +kernel
theorem dL_law_453 : decode cL_law 453 = .ok (.iload 12, 2) := by decide +kernel
theorem dL_law_455 : decode cL_law 455 = .ok (.iconst 0, 1) := by decide +kernel
theorem dL_law_456 : decode cL_law 456 = .ok (.invokevirtual 142, 3) := by decide +kernel
theorem dL_law_459 : decode cL_law 459 = .ok (.aload_n 1, 1) := by decide +kernel
theorem dL_law_460 : decode cL_law 460 = .ok (.iload 12, 2) := by decide +kernel
theorem dL_law_462 : decode cL_law 462 = .ok (.iconst 1, 1) := by decide +kernel
theorem dL_law_463 : decode cL_law 463 = .ok (.invokevirtual 142, 3) := by decide +kernel
theorem dL_law_466 : decode cL_law 466 = .ok (.imul, 1) := by decide +kernel
theorem dL_law_467 : decode cL_law 467 = .ok (.if_icmp .ne 72, 3) := by decide +kernel
theorem dL_law_470 : decode cL_law 470 = .ok (.aload_n 1, 1) := by decide +kernel
theorem dL_law_471 : decode cL_law 471 = .ok (.iload 12, 2) := by decide +kernel
theorem dL_law_473 : decode cL_law 473 = .ok (.iconst 2, 1) := by decide +kernel
theorem dL_law_474 : decode cL_law 474 = .ok (.invokevirtual 142, 3) := by decide +kernel
theorem dL_law_477 : decode cL_law 477 = .ok (.ifCond .lt 62, 3) := by decide +kernel
theorem dL_law_480 : decode cL_law 480 = .ok (.aload_n 1, 1) := by decide +kernel
theorem dL_law_481 : decode cL_law 481 = .ok (.iload 12, 2) := by decide +kernel
theorem dL_law_483 : decode cL_law 483 = .ok (.iconst 2, 1) := by decide +kernel
theorem dL_law_484 : decode cL_law 484 = .ok (.invokevirtual 142, 3) := by decide +kernel
theorem dL_law_487 : decode cL_law 487 = .ok (.bipush 100, 2) := by decide +kernel
theorem dL_law_489 : decode cL_law 489 = .ok (.if_icmp .gt 50, 3) := by decide +kernel
theorem dL_law_492 : decode cL_law 492 = .ok (.aload_n 1, 1) := by decide +kernel
theorem dL_law_493 : decode cL_law 493 = .ok (.iload 12, 2) := by decide +kernel
theorem dL_law_495 : decode cL_law 495 = .ok (.iconst 3, 1) := by decide +kernel
theorem dL_law_496 : decode cL_law 496 = .ok (.invokevirtual 142, 3) := by decide +kernel
theorem dL_law_499 : decode cL_law 499 = .ok (.ifCond .lt 40, 3) := by decide +kernel
theorem dL_law_502 : decode cL_law 502 = .ok (.aload_n 1, 1) := by decide +kernel
theorem dL_law_503 : decode cL_law 503 = .ok (.iload 12, 2) := by decide +kernel
theorem dL_law_505 : decode cL_law 505 = .ok (.iconst 3, 1) := by decide +kernel
theorem dL_law_506 : decode cL_law 506 = .ok (.invokevirtual 142, 3) := by decide +kernel
theorem dL_law_509 : decode cL_law 509 = .ok (.bipush 100, 2) := by decide +kernel
theorem dL_law_511 : decode cL_law 511 = .ok (.if_icmp .gt 28, 3) := by decide +kernel
theorem dL_law_514 : decode cL_law 514 = .ok (.aload_n 1, 1) := by decide +kernel
theorem dL_law_515 : decode cL_law 515 = .ok (.iload 12, 2) := by decide +kernel
theorem dL_law_517 : decode cL_law 517 = .ok (.iconst 4, 1) := by decide +kernel
theorem dL_law_518 : decode cL_law 518 = .ok (.invokevirtual 142, 3) := by decide +kernel
theorem dL_law_521 : decode cL_law 521 = .ok (.ifCond .lt 18, 3) := by decide +kernel
theorem dL_law_524 : decode cL_law 524 = .ok (.aload_n 1, 1) := by decide +kernel
theorem dL_law_525 : decode cL_law 525 = .ok (.iload 12, 2) := by decide +kernel
theorem dL_law_527 : decode cL_law 527 = .ok (.iconst 4, 1) := by decide +kernel
theorem dL_law_528 : decode cL_law 528 = .ok (.invokevirtual 142, 3) := by decide +kernel
theorem dL_law_531 : decode cL_law 531 = .ok (.aload_n 1, 1) := by decide +kernel
theorem dL_law_532 : decode cL_law 532 = .ok (.iconst 0, 1) := by decide +kernel
theorem dL_law_533 : decode cL_law 533 = .ok (.invokevirtual 130, 3) := by decide +kernel
theorem dL_law_536 : decode cL_law 536 = .ok (.if_icmp .le 5, 3) := by decide +kernel
theorem dL_law_539 : decode cL_law 539 = .ok (.iconst 0, 1) := by decide +kernel
theorem dL_law_540 : decode cL_law 540 = .ok (.ireturn, 1) := by decide +kernel
theorem dL_law_541 : decode cL_law 541 = .ok (.iload 13, 2) := by decide +kernel
theorem dL_law_543 : decode cL_law 543 = .ok (.ifCond .lt 56, 3) := by decide +kernel
theorem dL_law_546 : decode cL_law 546 = .ok (.aload_n 1, 1) := by decide +kernel
theorem dL_law_547 : decode cL_law 547 = .ok (.iload 13, 2) := by decide +kernel
theorem dL_law_549 : decode cL_law 549 = .ok (.iconst 0, 1) := by decide +kernel
theorem dL_law_550 : decode cL_law 550 = .ok (.invokevirtual 133, 3) := by decide +kernel
theorem dL_law_553 : decode cL_law 553 = .ok (.iload 14, 2) := by decide +kernel
theorem dL_law_555 : decode cL_law 555 = .ok (.if_icmp .ne 42, 3) := by decide +kernel
theorem dL_law_558 : decode cL_law 558 = .ok (.aload_n 1, 1) := by decide +kernel
theorem dL_law_559 : decode cL_law 559 = .ok (.iload 13, 2) := by decide +kernel
theorem dL_law_561 : decode cL_law 561 = .ok (.iconst 2, 1) := by decide +kernel
theorem dL_law_562 : decode cL_law 562 = .ok (.invokevirtual 133, 3) := by decide +kernel
theorem dL_law_565 : decode cL_law 565 = .ok (.ifCond .ne 32, 3) := by decide +kernel
theorem dL_law_568 : decode cL_law 568 = .ok (.aload_n 1, 1) := by decide +kernel
theorem dL_law_569 : decode cL_law 569 = .ok (.iload 13, 2) := by decide +kernel
theorem dL_law_571 : decode cL_law 571 = .ok (.iconst 1, 1) := by decide +kernel
theorem dL_law_572 : decode cL_law 572 = .ok (.invokevirtual 133, 3) := by decide +kernel
theorem dL_law_575 : decode cL_law 575 = .ok (.aload_n 1, 1) := by decide +kernel
theorem dL_law_576 : decode cL_law 576 = .ok (.iload 12, 2) := by decide +kernel
theorem dL_law_578 : decode cL_law 578 = .ok (.iconst 2, 1) := by decide +kernel
theorem dL_law_579 : decode cL_law 579 = .ok (.invokevirtual 142, 3) := by decide +kernel
theorem dL_law_582 : decode cL_law 582 = .ok (.if_icmp .gt 15, 3) := by decide +kernel
theorem dL_law_585 : decode cL_law 585 = .ok (.aload_n 1, 1) := by decide +kernel
theorem dL_law_586 : decode cL_law 586 = .ok (.iload 12, 2) := by decide +kernel
theorem dL_law_588 : decode cL_law 588 = .ok (.iconst 3, 1) := by decide +kernel
theorem dL_law_589 : decode cL_law 589 = .ok (.invokevirtual 142, 3) := by decide +kernel
theorem dL_law_592 : decode cL_law 592 = .ok (.bipush 20, 2) := by decide +kernel
theorem dL_law_594 : decode cL_law 594 = .ok (.if_icmp .le 5, 3) := by decide +kernel
theorem dL_law_597 : decode cL_law 597 = .ok (.iconst 0, 1) := by decide +kernel
theorem dL_law_598 : decode cL_law 598 = .ok (.ireturn, 1) := by decide +kernel
theorem dL_law_599 : decode cL_law 599 = .ok (.iload 10, 2) := by decide +kernel
theorem dL_law_601 : decode cL_law 601 = .ok (.iload 14, 2) := by decide +kernel
theorem dL_law_603 : decode cL_law 603 = .ok (.iadd, 1) := by decide +kernel
theorem dL_law_604 : decode cL_law 604 = .ok (.istore 10, 2) := by decide +kernel
theorem dL_law_606 : decode cL_law 606 = .ok (.iload 11, 2) := by decide +kernel
theorem dL_law_608 : decode cL_law 608 = .ok (.aload_n 1, 1) := by decide +kernel
theorem dL_law_609 : decode cL_law 609 = .ok (.iload 12, 2) := by decide +kernel
theorem dL_law_611 : decode cL_law 611 = .ok (.iconst 3, 1) := by decide +kernel
theorem dL_law_612 : decode cL_law 612 = .ok (.invokevirtual 142, 3) := by decide +kernel
theorem dL_law_615 : decode cL_law 615 = .ok (.bipush 20, 2) := by decide +kernel
theorem dL_law_617 : decode cL_law 617 = .ok (.if_icmp .le 7, 3) := by decide +kernel
theorem dL_law_620 : decode cL_law 620 = .ok (.iconst 1, 1) := by decide +kernel
theorem dL_law_621 : decode cL_law 621 = .ok (.goto 4, 3) := by decide +kernel
theorem dL_law_624 : decode cL_law 624 = .ok (.iconst 0, 1) := by decide +kernel
theorem dL_law_625 : decode cL_law 625 = .ok (.iadd, 1) := by decide +kernel
theorem dL_law_626 : decode cL_law 626 = .ok (.istore 11, 2) := by decide +kernel
theorem dL_law_628 : decode cL_law 628 = .ok (.iinc 12 1, 3) := by decide +kernel
theorem dL_law_631 : decode cL_law 631 = .ok (.goto (-256), 3) := by decide +kernel
theorem dL_law_634 : decode cL_law 634 = .ok (.iconst 0, 1) := by decide +kernel
theorem dL_law_635 : decode cL_law 635 = .ok (.istore 6, 2) := by decide +kernel
theorem dL_law_637 : decode cL_law 637 = .ok (.iconst 0, 1) := by decide +kernel
theorem dL_law_638 : decode cL_law 638 = .ok (.istore 12, 2) := by decide +kernel
theorem dL_law_640 : decode cL_law 640 = .ok (.iconst 0, 1) := by decide +kernel
theorem dL_law_641 : decode cL_law 641 = .ok (.istore 13, 2) := by decide +kernel
theorem dL_law_643 : decode cL_law 643 = .ok (.iload 13, 2) := by decide +kernel
theorem dL_law_645 : decode cL_law 645 = .ok (.aload_n 1, 1) := by decide +kernel
theorem dL_law_646 : decode cL_law 646 = .ok (.iconst 3, 1) := by decide +kernel
theorem dL_law_647 : decode cL_law 647 = .ok (.invokevirtual 130, 3) := by decide +kernel
theorem dL_law_650 : decode cL_law 650 = .ok (.if_icmp .ge 134, 3) := by decide +kernel
theorem dL_law_653 : decode cL_law 653 = .ok (.aload_n 1, 1) := by decide +kernel
theorem dL_law_654 : decode cL_law 654 = .ok (.iload 13, 2) := by decide +kernel
theorem dL_law_656 : decode cL_law 656 = .ok (.iconst 2, 1) := by decide +kernel
theorem dL_law_657 : decode cL_law 657 = .ok (.invokevirtual 133, 3) := by decide +kernel
theorem dL_law_660 : decode cL_law 660 = .ok (.iconst 1, 1) := by decide +kernel
theorem dL_law_661 : decode cL_law 661 = .ok (.if_icmp .ne 7, 3) := by decide +kernel
theorem dL_law_664 : decode cL_law 664 = .ok (.iconst 1, 1) := by decide +kernel
theorem dL_law_665 : decode cL_law 665 = .ok (.goto 4, 3) := by decide +kernel
theorem dL_law_668 : decode cL_law 668 = .ok (.iconst 0, 1) := by decide +kernel
theorem dL_law_669 : decode cL_law 669 = .ok (.istore 14, 2) := by decide +kernel
theorem dL_law_671 : decode cL_law 671 = .ok (.iload 14, 2) := by decide +kernel
theorem dL_law_673 : decode cL_law 673 = .ok (.ifCond .eq 45, 3) := by decide +kernel
theorem dL_law_676 : decode cL_law 676 = .ok (.aload_n 1, 1) := by decide +kernel
theorem dL_law_677 : decode cL_law 677 = .ok (.iload 13, 2) := by decide +kernel
theorem dL_law_679 : decode cL_law 679 = .ok (.iconst 3, 1) := by decide +kernel
theorem dL_law_680 : decode cL_law 680 = .ok (.invokevirtual 133, 3) := by decide +kernel
theorem dL_law_683 : decode cL_law 683 = .ok (.aload_n 1, 1) := by decide +kernel
theorem dL_law_684 : decode cL_law 684 = .ok (.iload 13, 2) := by decide +kernel
theorem dL_law_686 : decode cL_law 686 = .ok (.iconst 1, 1) := by decide +kernel
theorem dL_law_687 : decode cL_law 687 = .ok (.invokevirtual 133, 3) := by decide +kernel
theorem dL_law_690 : decode cL_law 690 = .ok (.if_icmp .lt 50, 3) := by decide +kernel
theorem dL_law_693 : decode cL_law 693 = .ok (.aload_n 1, 1) := by decide +kernel
theorem dL_law_694 : decode cL_law 694 = .ok (.iload 13, 2) := by decide +kernel
theorem dL_law_696 : decode cL_law 696 = .ok (.iconst 4, 1) := by decide +kernel
theorem dL_law_697 : decode cL_law 697 = .ok (.invokevirtual 133, 3) := by decide +kernel
theorem dL_law_700 : decode cL_law 700 = .ok (.ifCond .lt 40, 3) := by decide +kernel
theorem dL_law_703 : decode cL_law 703 = .ok (.aload_n 1, 1) := by decide +kernel
theorem dL_law_704 : decode cL_law 704 = .ok (.iload 13, 2) := by decide +kernel
theorem dL_law_706 : decode cL_law 706 = .ok (.iconst 4, 1) := by decide +kernel
theorem dL_law_707 : decode cL_law 707 = .ok (.invokevirtual 133, 3) := by decide +kernel
theorem dL_law_710 : decode cL_law 710 = .ok (.bipush 20, 2) := by decide +kernel
theorem dL_law_712 : decode cL_law 712 = .ok (.if_icmp .le 30, 3) := by decide +kernel
theorem dL_law_715 : decode cL_law 715 = .ok (.goto 25, 3) := by decide +kernel
theorem dL_law_718 : decode cL_law 718 = .ok (.aload_n 1, 1) := by decide +kernel
theorem dL_law_719 : decode cL_law 719 = .ok (.iload 13, 2) := by decide +kernel
theorem dL_law_721 : decode cL_law 721 = .ok (.iconst 3, 1) := by decide +kernel
theorem dL_law_722 : decode cL_law 722 = .ok (.invokevirtual 133, 3) := by decide +kernel
theorem dL_law_725 : decode cL_law 725 = .ok (.iconst (-1), 1) := by decide +kernel
theorem dL_law_726 : decode cL_law 726 = .ok (.if_icmp .ne 14, 3) := by decide +kernel
theorem dL_law_729 : decode cL_law 729 = .ok (.aload_n 1, 1) := by decide +kernel
theorem dL_law_730 : decode cL_law 730 = .ok (.iload 13, 2) := by decide +kernel
theorem dL_law_732 : decode cL_law 732 = .ok (.iconst 4, 1) := by decide +kernel
theorem dL_law_733 : decode cL_law 733 = .ok (.invokevirtual 133, 3) := by decide +kernel
theorem dL_law_736 : decode cL_law 736 = .ok (.iconst (-1), 1) := by decide +kernel
theorem dL_law_737 : decode cL_law 737 = .ok (.if_icmp .eq 5, 3) := by decide +kernel
theorem dL_law_740 : decode cL_law 740 = .ok (.iconst 0, 1) := by decide +kernel
theorem dL_law_741 : decode cL_law 741 = .ok (.ireturn, 1) := by decide +kernel
theorem dL_law_742 : decode cL_law 742 = .ok (.iload 6, 2) := by decide +kernel
theorem dL_law_744 : decode cL_law 744 = .ok (.iload 14, 2) := by decide +kernel
theorem dL_law_746 : decode cL_law 746 = .ok (.ifCond .eq 13, 3) := by decide +kernel
theorem dL_law_749 : decode cL_law 749 = .ok (.aload_n 1, 1) := by decide +kernel
theorem dL_law_750 : decode cL_law 750 = .ok (.iload 13, 2) := by decide +kernel
theorem dL_law_752 : decode cL_law 752 = .ok (.iconst 0, 1) := by decide +kernel
theorem dL_law_753 : decode cL_law 753 = .ok (.invokevirtual 133, 3) := by decide +kernel
theorem dL_law_756 : decode cL_law 756 = .ok (.goto 4, 3) := by decide +kernel
theorem dL_law_759 : decode cL_law 759 = .ok (.iconst 0, 1) := by decide +kernel
theorem dL_law_760 : decode cL_law 760 = .ok (.iadd, 1) := by decide +kernel
theorem dL_law_761 : decode cL_law 761 = .ok (.istore 6, 2) := by decide +kernel
theorem dL_law_763 : decode cL_law 763 = .ok (.iload 12, 2) := by decide +kernel
theorem dL_law_765 : decode cL_law 765 = .ok (.iload 14, 2) := by decide +kernel
theorem dL_law_767 : decode cL_law 767 = .ok (.ifCond .eq 7, 3) := by decide +kernel
theorem dL_law_770 : decode cL_law 770 = .ok (.iconst 1, 1) := by decide +kernel
theorem dL_law_771 : decode cL_law 771 = .ok (.goto 4, 3) := by decide +kernel
theorem dL_law_774 : decode cL_law 774 = .ok (.iconst 0, 1) := by decide +kernel
theorem dL_law_775 : decode cL_law 775 = .ok (.iadd, 1) := by decide +kernel
theorem dL_law_776 : decode cL_law 776 = .ok (.istore 12, 2) := by decide +kernel
theorem dL_law_778 : decode cL_law 778 = .ok (.iinc 13 1, 3) := by decide +kernel
theorem dL_law_781 : decode cL_law 781 = .ok (.goto (-138), 3) := by decide +kernel
theorem dL_law_784 : decode cL_law 784 = .ok (.iload 9, 2) := by decide +kernel
theorem dL_law_786 : decode cL_law 786 = .ok (.aload_n 1, 1) := by decide +kernel
theorem dL_law_787 : decode cL_law 787 = .ok (.iconst 5, 1) := by decide +kernel
theorem dL_law_788 : decode cL_law 788 = .ok (.invokevirtual 130, 3) := by decide +kernel
theorem dL_law_791 : decode cL_law 791 = .ok (.if_icmp .ne 61, 3) := by decide +kernel
theorem dL_law_794 : decode cL_law 794 = .ok (.iload 10, 2) := by decide +kernel
theorem dL_law_796 : decode cL_law 796 = .ok (.aload_n 1, 1) := by decide +kernel
theorem dL_law_797 : decode cL_law 797 = .ok (.bipush 6, 2) := by decide +kernel
theorem dL_law_799 : decode cL_law 799 = .ok (.invokevirtual 130, 3) := by decide +kernel
theorem dL_law_802 : decode cL_law 802 = .ok (.if_icmp .ne 50, 3) := by decide +kernel
theorem dL_law_805 : decode cL_law 805 = .ok (.iload 11, 2) := by decide +kernel
theorem dL_law_807 : decode cL_law 807 = .ok (.aload_n 1, 1) := by decide +kernel
theorem dL_law_808 : decode cL_law 808 = .ok (.bipush 7, 2) := by decide +kernel
theorem dL_law_810 : decode cL_law 810 = .ok (.invokevirtual 130, 3) := by decide +kernel
theorem dL_law_813 : decode cL_law 813 = .ok (.if_icmp .ne 39, 3) := by decide +kernel
theorem dL_law_816 : decode cL_law 816 = .ok (.iload 12, 2) := by decide +kernel
theorem dL_law_818 : decode cL_law 818 = .ok (.aload_n 1, 1) := by decide +kernel
theorem dL_law_819 : decode cL_law 819 = .ok (.iconst 4, 1) := by decide +kernel
theorem dL_law_820 : decode cL_law 820 = .ok (.invokevirtual 130, 3) := by decide +kernel
theorem dL_law_823 : decode cL_law 823 = .ok (.if_icmp .ne 29, 3) := by decide +kernel
theorem dL_law_826 : decode cL_law 826 = .ok (.iload 12, 2) := by decide +kernel
theorem dL_law_828 : decode cL_law 828 = .ok (.iload 8, 2) := by decide +kernel
theorem dL_law_830 : decode cL_law 830 = .ok (.if_icmp .lt 22, 3) := by decide +kernel
theorem dL_law_833 : decode cL_law 833 = .ok (.iload 9, 2) := by decide +kernel
theorem dL_law_835 : decode cL_law 835 = .ok (.bipush 10, 2) := by decide +kernel
theorem dL_law_837 : decode cL_law 837 = .ok (.iload 10, 2) := by decide +kernel
theorem dL_law_839 : decode cL_law 839 = .ok (.imul, 1) := by decide +kernel
theorem dL_law_840 : decode cL_law 840 = .ok (.iadd, 1) := by decide +kernel
theorem dL_law_841 : decode cL_law 841 = .ok (.bipush 10, 2) := by decide +kernel
theorem dL_law_843 : decode cL_law 843 = .ok (.iload 6, 2) := by decide +kernel
theorem dL_law_845 : decode cL_law 845 = .ok (.imul, 1) := by decide +kernel
theorem dL_law_846 : decode cL_law 846 = .ok (.iadd, 1) := by decide +kernel
theorem dL_law_847 : decode cL_law 847 = .ok (.iload 7, 2) := by decide +kernel
theorem dL_law_849 : decode cL_law 849 = .ok (.if_icmp .eq 5, 3) := by decide +kernel
theorem dL_law_852 : decode cL_law 852 = .ok (.iconst 0, 1) := by decide +kernel
theorem dL_law_853 : decode cL_law 853 = .ok (.ireturn, 1) := by decide +kernel
theorem dL_law_854 : decode cL_law 854 = .ok (.aload_n 1, 1) := by decide +kernel
theorem dL_law_855 : decode cL_law 855 = .ok (.iconst 2, 1) := by decide +kernel
theorem dL_law_856 : decode cL_law 856 = .ok (.invokevirtual 130, 3) := by decide +kernel
theorem dL_law_859 : decode cL_law 859 = .ok (.ifCond .ne 6, 3) := by decide +kernel
theorem dL_law_862 : decode cL_law 862 = .ok (.goto 80, 3) := by decide +kernel
theorem dL_law_865 : decode cL_law 865 = .ok (.iload 4, 2) := by decide +kernel
theorem dL_law_867 : decode cL_law 867 = .ok (.iconst 1, 1) := by decide +kernel
theorem dL_law_868 : decode cL_law 868 = .ok (.ishr, 1) := by decide +kernel
theorem dL_law_869 : decode cL_law 869 = .ok (.aload_n 1, 1) := by decide +kernel
theorem dL_law_870 : decode cL_law 870 = .ok (.iconst 2, 1) := by decide +kernel
theorem dL_law_871 : decode cL_law 871 = .ok (.invokevirtual 130, 3) := by decide +kernel
theorem dL_law_874 : decode cL_law 874 = .ok (.invokestatic 19, 3) := by decide +kernel
theorem dL_law_877 : decode cL_law 877 = .ok (.istore 13, 2) := by decide +kernel
theorem dL_law_879 : decode cL_law 879 = .ok (.aload_n 1, 1) := by decide +kernel
theorem dL_law_880 : decode cL_law 880 = .ok (.iload 13, 2) := by decide +kernel
theorem dL_law_882 : decode cL_law 882 = .ok (.iconst 3, 1) := by decide +kernel
theorem dL_law_883 : decode cL_law 883 = .ok (.invokevirtual 142, 3) := by decide +kernel
theorem dL_law_886 : decode cL_law 886 = .ok (.istore 14, 2) := by decide +kernel
theorem dL_law_888 : decode cL_law 888 = .ok (.aload_n 1, 1) := by decide +kernel
theorem dL_law_889 : decode cL_law 889 = .ok (.iload 13, 2) := by decide +kernel
theorem dL_law_891 : decode cL_law 891 = .ok (.invokevirtual 97, 3) := by decide +kernel
theorem dL_law_894 : decode cL_law 894 = .ok (.istore 15, 2) := by decide +kernel
theorem dL_law_896 : decode cL_law 896 = .ok (.aload_n 2, 1) := by decide +kernel
theorem dL_law_897 : decode cL_law 897 = .ok (.getfield 15, 3) := by decide +kernel
theorem dL_law_900 : decode cL_law 900 = .ok (.iload 13, 2) := by decide +kernel
theorem dL_law_902 : decode cL_law 902 = .ok (.aaload, 1) := by decide +kernel
theorem dL_law_903 : decode cL_law 903 = .ok (.iconst 3, 1) := by decide +kernel
theorem dL_law_904 : decode cL_law 904 = .ok (.iconst 0, 1) := by decide +kernel
theorem dL_law_905 : decode cL_law 905 = .ok (.iload 14, 2) := by decide +kernel
theorem dL_law_907 : decode cL_law 907 = .ok (.bipush 15, 2) := by decide +kernel
theorem dL_law_909 : decode cL_law 909 = .ok (.isub, 1) := by decide +kernel
theorem dL_law_910 : decode cL_law 910 = .ok (.invokestatic 139, 3) := by decide +kernel
theorem dL_law_913 : decode cL_law 913 = .ok (.iastore, 1) := by decide +kernel
theorem dL_law_914 : decode cL_law 914 = .ok (.iload 15, 2) := by decide +kernel
theorem dL_law_916 : decode cL_law 916 = .ok (.iconst 0, 1) := by decide +kernel
theorem dL_law_917 : decode cL_law 917 = .ok (.iload 14, 2) := by decide +kernel
theorem dL_law_919 : decode cL_law 919 = .ok (.bipush 15, 2) := by decide +kernel
theorem dL_law_921 : decode cL_law 921 = .ok (.isub, 1) := by decide +kernel
theorem dL_law_922 : decode cL_law 922 = .ok (.invokestatic 139, 3) := by decide +kernel
theorem dL_law_925 : decode cL_law 925 = .ok (.if_icmp .ne 15, 3) := by decide +kernel
theorem dL_law_928 : decode cL_law 928 = .ok (.aload_n 1, 1) := by decide +kernel
theorem dL_law_929 : decode cL_law 929 = .ok (.iload 13, 2) := by decide +kernel
theorem dL_law_931 : decode cL_law 931 = .ok (.iconst 3, 1) := by decide +kernel
theorem dL_law_932 : decode cL_law 932 = .ok (.invokevirtual 142, 3) := by decide +kernel
theorem dL_law_935 : decode cL_law 935 = .ok (.iload 15, 2) := by decide +kernel
theorem dL_law_937 : decode cL_law 937 = .ok (.if_icmp .eq 5, 3) := by decide +kernel
theorem dL_law_940 : decode cL_law 940 = .ok (.iconst 0, 1) := by decide +kernel
theorem dL_law_941 : decode cL_law 941 = .ok (.ireturn, 1) := by decide +kernel
theorem dL_law_942 : decode cL_law 942 = .ok (.iinc 3 1, 3) := by decide +kernel
theorem dL_law_945 : decode cL_law 945 = .ok (.goto (-923), 3) := by decide +kernel
theorem dL_law_948 : decode cL_law 948 = .ok (.aload_n 2, 1) := by decide +kernel
theorem dL_law_949 : decode cL_law 949 = .ok (.aload_n 1, 1) := by decide +kernel
theorem dL_law_950 : decode cL_law 950 = .ok (.invokevirtual 145, 3) := by decide +kernel
theorem dL_law_953 : decode cL_law 953 = .ok (.ireturn, 1) := by decide +kernel
end
section
/-- the words that every method may use -/
def WALL : List Cond := lw_tbl.filter goodWord
theorem wall_good : ∀ w ∈ WALL, (w.onTables && w.keeps) = true ∨ ∃ ty, w = .arrayClass ty := fun _ h => good_of_word (List.mem_filter.mp h).2
theorem wall_tbl : ∀ w ∈ WALL, w ∈ lw_tbl := fun _ h => (List.mem_filter.mp h).1
theorem wall_cons {w0 : Cond} (h : w0 ∈ WALL) : GoodIn WALL (w0 :: WALL) := fun w hw => by
  rcases List.mem_cons.mp hw with rfl | hw
  · exact ⟨h, wall_good _ h⟩
  · exact ⟨hw, wall_good _ hw⟩
theorem wall_of {w : Cond} (h : w ∈ tables_1) (g : goodWord w = true) : w ∈ WALL := List.mem_filter.mpr ⟨List.mem_append_right _ h, g⟩
theorem wall_sel {w : Cond} (h : w ∈ k2_sels lw_privs) (g : goodWord w = true) : w ∈ WALL := List.mem_filter.mpr ⟨List.mem_append_left _ h, g⟩
theorem wd_1_0 : (Jvm.Cond.initialized "ChocolateMouldsLaw") ∈ WALL := wall_of (List.mem_append_left _ (List.mem_of_getElem? (l := tables_1_1) (i := 0) (by decide +kernel))) rfl
theorem wd_1_1 : (Jvm.Cond.initialized "ChocolateMoulds") ∈ WALL := wall_of (List.mem_append_left _ (List.mem_of_getElem? (l := tables_1_1) (i := 1) (by decide +kernel))) rfl
theorem wd_1_2 : (Jvm.Cond.initialized "ChocolateMoulds$Crystals") ∈ WALL := wall_of (List.mem_append_left _ (List.mem_of_getElem? (l := tables_1_1) (i := 2) (by decide +kernel))) rfl
theorem wd_1_3 : (Jvm.Cond.initialized "ChocolateMouldsLaw$Sim") ∈ WALL := wall_of (List.mem_append_left _ (List.mem_of_getElem? (l := tables_1_1) (i := 3) (by decide +kernel))) rfl
theorem wd_1_4 : (Jvm.Cond.initialized "ChocolateMouldsLaw$Bowl") ∈ WALL := wall_of (List.mem_append_left _ (List.mem_of_getElem? (l := tables_1_1) (i := 4) (by decide +kernel))) rfl
theorem wd_1_5 : (Jvm.Cond.initialized "java/lang/Throwable") ∈ WALL := wall_of (List.mem_append_left _ (List.mem_of_getElem? (l := tables_1_1) (i := 5) (by decide +kernel))) rfl
theorem wd_1_6 : (Jvm.Cond.initialized "java/lang/Exception") ∈ WALL := wall_of (List.mem_append_left _ (List.mem_of_getElem? (l := tables_1_1) (i := 6) (by decide +kernel))) rfl
theorem wd_1_7 : (Jvm.Cond.initialized "java/lang/RuntimeException") ∈ WALL := wall_of (List.mem_append_left _ (List.mem_of_getElem? (l := tables_1_1) (i := 7) (by decide +kernel))) rfl
theorem wd_1_8 : (Jvm.Cond.initialized "java/lang/IllegalArgumentException") ∈ WALL := wall_of (List.mem_append_left _ (List.mem_of_getElem? (l := tables_1_1) (i := 8) (by decide +kernel))) rfl
theorem wd_1_9 : (Jvm.Cond.initialized "java/lang/IllegalStateException") ∈ WALL := wall_of (List.mem_append_left _ (List.mem_of_getElem? (l := tables_1_1) (i := 9) (by decide +kernel))) rfl
theorem wd_1_10 : (Jvm.Cond.initialized "ChocolateMoulds$Bowl") ∈ WALL := wall_of (List.mem_append_left _ (List.mem_of_getElem? (l := tables_1_1) (i := 10) (by decide +kernel))) rfl
theorem wd_1_11 : (Jvm.Cond.initialized "java/lang/IndexOutOfBoundsException") ∈ WALL := wall_of (List.mem_append_left _ (List.mem_of_getElem? (l := tables_1_1) (i := 11) (by decide +kernel))) rfl
theorem wd_1_12 : (Jvm.Cond.initialized "java/lang/Math") ∈ WALL := wall_of (List.mem_append_left _ (List.mem_of_getElem? (l := tables_1_1) (i := 12) (by decide +kernel))) rfl
theorem wd_1_13 : (Jvm.Cond.initialized "ChocolateMoulds$Slab") ∈ WALL := wall_of (List.mem_append_left _ (List.mem_of_getElem? (l := tables_1_1) (i := 13) (by decide +kernel))) rfl
theorem wd_1_14 : (Jvm.Cond.initialized "ChocolateMoulds$Box") ∈ WALL := wall_of (List.mem_append_left _ (List.mem_of_getElem? (l := tables_1_1) (i := 14) (by decide +kernel))) rfl
theorem wd_1_15 : (Jvm.Cond.classLink "ChocolateMouldsLaw" (33 : Nat) "ChocolateMoulds") ∈ WALL := wall_of (List.mem_append_left _ (List.mem_of_getElem? (l := tables_1_1) (i := 15) (by decide +kernel))) rfl
theorem wd_1_16 : (Jvm.Cond.instantiable "ChocolateMoulds" (11 : Nat)) ∈ WALL := wall_of (List.mem_append_left _ (List.mem_of_getElem? (l := tables_1_1) (i := 16) (by decide +kernel))) rfl
theorem wd_1_17 : (Jvm.Cond.methodLink "ChocolateMouldsLaw" (125 : Nat) ({ cls := "ChocolateMoulds", name := "<init>", desc := "()V" } : Jvm.MethodName)) ∈ WALL := wall_of (List.mem_append_left _ (List.mem_of_getElem? (l := tables_1_1) (i := 17) (by decide +kernel))) rfl
theorem wd_1_18 : (Jvm.Cond.instanceMethod ({ cls := "ChocolateMoulds", name := "<init>", desc := "()V" } : Jvm.MethodName)) ∈ WALL := wall_of (List.mem_append_left _ (List.mem_of_getElem? (l := tables_1_1) (i := 18) (by decide +kernel))) rfl
theorem wd_1_19 : (Jvm.Cond.code ({ cls := "ChocolateMoulds", name := "<init>", desc := "()V" } : Jvm.MethodName) prog_1_method_1_code (1 : Nat) (Option.none : Option Jvm.ClassFile.FieldType)) ∈ WALL := wall_of (List.mem_append_left _ (List.mem_of_getElem? (l := tables_1_1) (i := 19) (by decide +kernel))) rfl
theorem wd_1_20 : (Jvm.Cond.methodLink "ChocolateMoulds" (3 : Nat) ({ cls := "java/lang/Object", name := "<init>", desc := "()V" } : Jvm.MethodName)) ∈ WALL := wall_of (List.mem_append_left _ (List.mem_of_getElem? (l := tables_1_1) (i := 20) (by decide +kernel))) rfl
theorem wd_1_21 : (Jvm.Cond.instanceMethod ({ cls := "java/lang/Object", name := "<init>", desc := "()V" } : Jvm.MethodName)) ∈ WALL := wall_of (List.mem_append_left _ (List.mem_of_getElem? (l := tables_1_1) (i := 21) (by decide +kernel))) rfl
theorem wd_1_22 : (Jvm.Cond.code ({ cls := "java/lang/Object", name := "<init>", desc := "()V" } : Jvm.MethodName) object_method_1_code (1 : Nat) (Option.none : Option Jvm.ClassFile.FieldType)) ∈ WALL := wall_of (List.mem_append_left _ (List.mem_of_getElem? (l := tables_1_1) (i := 22) (by decide +kernel))) rfl
theorem wd_1_23 : (Jvm.Cond.classLink "ChocolateMoulds" (9 : Nat) "ChocolateMoulds$Bowl") ∈ WALL := wall_of (List.mem_append_left _ (List.mem_of_getElem? (l := tables_1_1) (i := 23) (by decide +kernel))) rfl
theorem wd_1_25 : (Jvm.Cond.classLink "ChocolateMoulds" (15 : Nat) "ChocolateMoulds$Slab") ∈ WALL := wall_of (List.mem_append_left _ (List.mem_of_getElem? (l := tables_1_1) (i := 25) (by decide +kernel))) rfl
theorem wd_1_27 : (Jvm.Cond.classLink "ChocolateMoulds" (21 : Nat) "ChocolateMoulds$Box") ∈ WALL := wall_of (List.mem_append_left _ (List.mem_of_getElem? (l := tables_1_1) (i := 27) (by decide +kernel))) rfl
theorem wd_1_29 : (Jvm.Cond.classLink "ChocolateMoulds" (27 : Nat) "ChocolateMoulds$Crystals") ∈ WALL := wall_of (List.mem_append_left _ (List.mem_of_getElem? (l := tables_1_1) (i := 29) (by decide +kernel))) rfl
theorem wd_1_30 : (Jvm.Cond.instantiable "ChocolateMoulds$Crystals" (1 : Nat)) ∈ WALL := wall_of (List.mem_append_left _ (List.mem_of_getElem? (l := tables_1_1) (i := 30) (by decide +kernel))) rfl
theorem wd_1_31 : (Jvm.Cond.methodLink "ChocolateMoulds" (29 : Nat) ({ cls := "ChocolateMoulds$Crystals", name := "<init>", desc := "()V" } : Jvm.MethodName)) ∈ WALL := wall_of (List.mem_append_left _ (List.mem_of_getElem? (l := tables_1_1) (i := 31) (by decide +kernel))) rfl
theorem wd_1_32 : (Jvm.Cond.instanceMethod ({ cls := "ChocolateMoulds$Crystals", name := "<init>", desc := "()V" } : Jvm.MethodName)) ∈ WALL := wall_of (List.mem_append_left _ (List.mem_of_getElem? (l := tables_1_1) (i := 32) (by decide +kernel))) rfl
theorem wd_1_33 : (Jvm.Cond.code ({ cls := "ChocolateMoulds$Crystals", name := "<init>", desc := "()V" } : Jvm.MethodName) prog_4_method_1_code (1 : Nat) (Option.none : Option Jvm.ClassFile.FieldType)) ∈ WALL := wall_of (List.mem_append_left _ (List.mem_of_getElem? (l := tables_1_1) (i := 33) (by decide +kernel))) rfl
theorem wd_1_34 : (Jvm.Cond.methodLink "ChocolateMoulds$Crystals" (3 : Nat) ({ cls := "java/lang/Object", name := "<init>", desc := "()V" } : Jvm.MethodName)) ∈ WALL := wall_of (List.mem_append_left _ (List.mem_of_getElem? (l := tables_1_1) (i := 34) (by decide +kernel))) rfl
theorem wd_1_35 : (Jvm.Cond.fieldLink "ChocolateMoulds$Crystals" (11 : Nat) "ChocolateMoulds$Crystals" "many" "[I") ∈ WALL := wall_of (List.mem_append_left _ (List.mem_of_getElem? (l := tables_1_1) (i := 35) (by decide +kernel))) rfl
theorem wd_1_36 : (Jvm.Cond.fieldLink "ChocolateMoulds$Bowl" (23 : Nat) "ChocolateMoulds$Crystals" "many" "[I") ∈ WALL := wall_of (List.mem_append_left _ (List.mem_of_getElem? (l := tables_1_1) (i := 36) (by decide +kernel))) rfl
theorem wd_1_37 : (Jvm.Cond.fieldLink "ChocolateMoulds" (90 : Nat) "ChocolateMoulds$Crystals" "many" "[I") ∈ WALL := wall_of (List.mem_append_left _ (List.mem_of_getElem? (l := tables_1_1) (i := 37) (by decide +kernel))) rfl
theorem wd_1_38 : (Jvm.Cond.laysFinal "ChocolateMoulds$Crystals" "ChocolateMoulds$Crystals" "many" "[I") ∈ WALL := wall_of (List.mem_append_left _ (List.mem_of_getElem? (l := tables_1_1) (i := 38) (by decide +kernel))) rfl
theorem wd_1_40 : (Jvm.Cond.superclass "ChocolateMoulds$Crystals" "java/lang/Object") ∈ WALL := wall_of (List.mem_append_left _ (List.mem_of_getElem? (l := tables_1_1) (i := 40) (by decide +kernel))) rfl
theorem wd_1_41 : (Jvm.Cond.arrayClass Jvm.ClassFile.FieldType.int) ∈ WALL := wall_of (List.mem_append_left _ (List.mem_of_getElem? (l := tables_1_1) (i := 41) (by decide +kernel))) rfl
theorem wd_1_42 : (Jvm.Cond.fieldLink "ChocolateMoulds" (11 : Nat) "ChocolateMoulds" "bowls" "[LChocolateMoulds$Bowl;") ∈ WALL := wall_of (List.mem_append_left _ (List.mem_of_getElem? (l := tables_1_1) (i := 42) (by decide +kernel))) rfl
theorem wd_1_43 : (Jvm.Cond.fieldLink "ChocolateMoulds" (17 : Nat) "ChocolateMoulds" "slabs" "[LChocolateMoulds$Slab;") ∈ WALL := wall_of (List.mem_append_left _ (List.mem_of_getElem? (l := tables_1_1) (i := 43) (by decide +kernel))) rfl
theorem wd_1_44 : (Jvm.Cond.fieldLink "ChocolateMoulds" (23 : Nat) "ChocolateMoulds" "boxes" "[LChocolateMoulds$Box;") ∈ WALL := wall_of (List.mem_append_left _ (List.mem_of_getElem? (l := tables_1_1) (i := 44) (by decide +kernel))) rfl
theorem wd_1_45 : (Jvm.Cond.fieldLink "ChocolateMoulds" (52 : Nat) "ChocolateMoulds" "bowlCount" "I") ∈ WALL := wall_of (List.mem_append_left _ (List.mem_of_getElem? (l := tables_1_1) (i := 45) (by decide +kernel))) rfl
theorem wd_1_46 : (Jvm.Cond.fieldLink "ChocolateMoulds" (211 : Nat) "ChocolateMoulds" "slabCount" "I") ∈ WALL := wall_of (List.mem_append_left _ (List.mem_of_getElem? (l := tables_1_1) (i := 46) (by decide +kernel))) rfl
theorem wd_1_47 : (Jvm.Cond.fieldLink "ChocolateMoulds" (151 : Nat) "ChocolateMoulds" "boxCount" "I") ∈ WALL := wall_of (List.mem_append_left _ (List.mem_of_getElem? (l := tables_1_1) (i := 47) (by decide +kernel))) rfl
theorem wd_1_48 : (Jvm.Cond.fieldLink "ChocolateMoulds" (174 : Nat) "ChocolateMoulds" "day" "I") ∈ WALL := wall_of (List.mem_append_left _ (List.mem_of_getElem? (l := tables_1_1) (i := 48) (by decide +kernel))) rfl
theorem wd_1_49 : (Jvm.Cond.fieldLink "ChocolateMoulds" (30 : Nat) "ChocolateMoulds" "firstTrial" "LChocolateMoulds$Crystals;") ∈ WALL := wall_of (List.mem_append_left _ (List.mem_of_getElem? (l := tables_1_1) (i := 49) (by decide +kernel))) rfl
theorem wd_1_50 : (Jvm.Cond.fieldLink "ChocolateMoulds" (34 : Nat) "ChocolateMoulds" "secondTrial" "LChocolateMoulds$Crystals;") ∈ WALL := wall_of (List.mem_append_left _ (List.mem_of_getElem? (l := tables_1_1) (i := 50) (by decide +kernel))) rfl
theorem wd_1_51 : (Jvm.Cond.fieldLink "ChocolateMoulds" (37 : Nat) "ChocolateMoulds" "slabForBox" "[I") ∈ WALL := wall_of (List.mem_append_left _ (List.mem_of_getElem? (l := tables_1_1) (i := 51) (by decide +kernel))) rfl
theorem wd_1_52 : (Jvm.Cond.fieldLink "ChocolateMoulds" (41 : Nat) "ChocolateMoulds" "isPlanned" "[Z") ∈ WALL := wall_of (List.mem_append_left _ (List.mem_of_getElem? (l := tables_1_1) (i := 52) (by decide +kernel))) rfl
theorem wd_1_53 : (Jvm.Cond.laysFinal "ChocolateMoulds" "ChocolateMoulds" "bowls" "[LChocolateMoulds$Bowl;") ∈ WALL := wall_of (List.mem_append_left _ (List.mem_of_getElem? (l := tables_1_1) (i := 53) (by decide +kernel))) rfl
theorem wd_1_55 : (Jvm.Cond.laysFinal "ChocolateMoulds" "ChocolateMoulds" "slabs" "[LChocolateMoulds$Slab;") ∈ WALL := wall_of (List.mem_append_left _ (List.mem_of_getElem? (l := tables_1_1) (i := 55) (by decide +kernel))) rfl
theorem wd_1_57 : (Jvm.Cond.laysFinal "ChocolateMoulds" "ChocolateMoulds" "boxes" "[LChocolateMoulds$Box;") ∈ WALL := wall_of (List.mem_append_left _ (List.mem_of_getElem? (l := tables_1_1) (i := 57) (by decide +kernel))) rfl
theorem wd_1_59 : (Jvm.Cond.lays "ChocolateMoulds" "ChocolateMoulds" "bowlCount" "I") ∈ WALL := wall_of (List.mem_append_left _ (List.mem_of_getElem? (l := tables_1_1) (i := 59) (by decide +kernel))) rfl
theorem wd_1_61 : (Jvm.Cond.lays "ChocolateMoulds" "ChocolateMoulds" "slabCount" "I") ∈ WALL := wall_of (List.mem_append_left _ (List.mem_of_getElem? (l := tables_1_1) (i := 61) (by decide +kernel))) rfl
theorem wd_1_63 : (Jvm.Cond.lays "ChocolateMoulds" "ChocolateMoulds" "boxCount" "I") ∈ WALL := wall_of (List.mem_append_left _ (List.mem_of_getElem? (l := tables_1_1) (i := 63) (by decide +kernel))) rfl
theorem wd_1_65 : (Jvm.Cond.lays "ChocolateMoulds" "ChocolateMoulds" "day" "I") ∈ WALL := wall_of (List.mem_append_left _ (List.mem_of_getElem? (l := tables_1_1) (i := 65) (by decide +kernel))) rfl
theorem wd_1_67 : (Jvm.Cond.laysFinal "ChocolateMoulds" "ChocolateMoulds" "firstTrial" "LChocolateMoulds$Crystals;") ∈ WALL := wall_of (List.mem_append_left _ (List.mem_of_getElem? (l := tables_1_1) (i := 67) (by decide +kernel))) rfl
theorem wd_1_69 : (Jvm.Cond.laysFinal "ChocolateMoulds" "ChocolateMoulds" "secondTrial" "LChocolateMoulds$Crystals;") ∈ WALL := wall_of (List.mem_append_left _ (List.mem_of_getElem? (l := tables_1_1) (i := 69) (by decide +kernel))) rfl
theorem wd_1_71 : (Jvm.Cond.laysFinal "ChocolateMoulds" "ChocolateMoulds" "slabForBox" "[I") ∈ WALL := wall_of (List.mem_append_left _ (List.mem_of_getElem? (l := tables_1_1) (i := 71) (by decide +kernel))) rfl
theorem wd_1_73 : (Jvm.Cond.laysFinal "ChocolateMoulds" "ChocolateMoulds" "isPlanned" "[Z") ∈ WALL := wall_of (List.mem_append_left _ (List.mem_of_getElem? (l := tables_1_1) (i := 73) (by decide +kernel))) rfl
theorem wd_1_75 : (Jvm.Cond.superclass "ChocolateMoulds" "java/lang/Object") ∈ WALL := wall_of (List.mem_append_left _ (List.mem_of_getElem? (l := tables_1_1) (i := 75) (by decide +kernel))) rfl
theorem wd_1_76 : (Jvm.Cond.arrayClass Jvm.ClassFile.FieldType.boolean) ∈ WALL := wall_of (List.mem_append_left _ (List.mem_of_getElem? (l := tables_1_1) (i := 76) (by decide +kernel))) rfl
theorem wd_1_77 : (Jvm.Cond.methodLink "ChocolateMouldsLaw" (97 : Nat) ({ cls := "ChocolateMoulds", name := "polish", desc := "(I)I" } : Jvm.MethodName)) ∈ WALL := wall_of (List.mem_append_left _ (List.mem_of_getElem? (l := tables_1_1) (i := 77) (by decide +kernel))) rfl
theorem wd_1_78 : (Jvm.Cond.instanceMethod ({ cls := "ChocolateMoulds", name := "polish", desc := "(I)I" } : Jvm.MethodName)) ∈ WALL := wall_of (List.mem_append_left _ (List.mem_of_getElem? (l := tables_1_1) (i := 78) (by decide +kernel))) rfl
theorem wd_1_79 : (Jvm.Cond.selects "ChocolateMoulds" ({ cls := "ChocolateMoulds", name := "polish", desc := "(I)I" } : Jvm.MethodName) ({ cls := "ChocolateMoulds", name := "polish", desc := "(I)I" } : Jvm.MethodName)) ∈ WALL := wall_of (List.mem_append_left _ (List.mem_of_getElem? (l := tables_1_1) (i := 79) (by decide +kernel))) rfl
theorem wd_1_80 : (Jvm.Cond.code ({ cls := "ChocolateMoulds", name := "polish", desc := "(I)I" } : Jvm.MethodName) prog_1_method_7_code (3 : Nat) (Option.some Jvm.ClassFile.FieldType.int)) ∈ WALL := wall_of (List.mem_append_left _ (List.mem_of_getElem? (l := tables_1_1) (i := 80) (by decide +kernel))) rfl
theorem wd_1_81 : (Jvm.Cond.methodLink "ChocolateMoulds" (115 : Nat) ({ cls := "ChocolateMoulds", name := "slabAt", desc := "(I)LChocolateMoulds$Slab;" } : Jvm.MethodName)) ∈ WALL := wall_of (List.mem_append_left _ (List.mem_of_getElem? (l := tables_1_1) (i := 81) (by decide +kernel))) rfl
theorem wd_1_83 : (Jvm.Cond.instanceMethod ({ cls := "ChocolateMoulds", name := "slabAt", desc := "(I)LChocolateMoulds$Slab;" } : Jvm.MethodName)) ∈ WALL := wall_of (List.mem_append_left _ (List.mem_of_getElem? (l := tables_1_1) (i := 83) (by decide +kernel))) rfl
theorem wd_1_84 : (Jvm.Cond.code ({ cls := "ChocolateMoulds", name := "slabAt", desc := "(I)LChocolateMoulds$Slab;" } : Jvm.MethodName) prog_1_method_27_code (3 : Nat) (Option.some (Jvm.ClassFile.FieldType.object "ChocolateMoulds$Slab"))) ∈ WALL := wall_of (List.mem_append_left _ (List.mem_of_getElem? (l := tables_1_1) (i := 84) (by decide +kernel))) rfl
theorem wd_1_85 : (Jvm.Cond.methodLink "ChocolateMoulds" (261 : Nat) ({ cls := "ChocolateMoulds", name := "findSlab", desc := "(I)LChocolateMoulds$Slab;" } : Jvm.MethodName)) ∈ WALL := wall_of (List.mem_append_left _ (List.mem_of_getElem? (l := tables_1_1) (i := 85) (by decide +kernel))) rfl
theorem wd_1_87 : (Jvm.Cond.instanceMethod ({ cls := "ChocolateMoulds", name := "findSlab", desc := "(I)LChocolateMoulds$Slab;" } : Jvm.MethodName)) ∈ WALL := wall_of (List.mem_append_left _ (List.mem_of_getElem? (l := tables_1_1) (i := 87) (by decide +kernel))) rfl
theorem wd_1_88 : (Jvm.Cond.code ({ cls := "ChocolateMoulds", name := "findSlab", desc := "(I)LChocolateMoulds$Slab;" } : Jvm.MethodName) prog_1_method_28_code (2 : Nat) (Option.some (Jvm.ClassFile.FieldType.object "ChocolateMoulds$Slab"))) ∈ WALL := wall_of (List.mem_append_left _ (List.mem_of_getElem? (l := tables_1_1) (i := 88) (by decide +kernel))) rfl
theorem wd_1_89 : (Jvm.Cond.classLink "ChocolateMoulds" (131 : Nat) "java/lang/IndexOutOfBoundsException") ∈ WALL := wall_of (List.mem_append_left _ (List.mem_of_getElem? (l := tables_1_1) (i := 89) (by decide +kernel))) rfl
theorem wd_1_90 : (Jvm.Cond.instantiable "java/lang/IndexOutOfBoundsException" (6 : Nat)) ∈ WALL := wall_of (List.mem_append_left _ (List.mem_of_getElem? (l := tables_1_1) (i := 90) (by decide +kernel))) rfl
theorem wd_1_98 : (Jvm.Cond.selects "java/lang/IndexOutOfBoundsException" ({ cls := "java/lang/Throwable", name := "fillInStackTrace", desc := "(I)Ljava/lang/Throwable;" } : Jvm.MethodName) ({ cls := "java/lang/Throwable", name := "fillInStackTrace", desc := "(I)Ljava/lang/Throwable;" } : Jvm.MethodName)) ∈ WALL := wall_of (List.mem_append_left _ (List.mem_of_getElem? (l := tables_1_1) (i := 98) (by decide +kernel))) rfl
theorem wd_1_99 : (Jvm.Cond.selects "java/lang/IndexOutOfBoundsException" ({ cls := "java/lang/Throwable", name := "fillInStackTrace", desc := "()Ljava/lang/Throwable;" } : Jvm.MethodName) ({ cls := "java/lang/Throwable", name := "fillInStackTrace", desc := "()Ljava/lang/Throwable;" } : Jvm.MethodName)) ∈ WALL := wall_of (List.mem_append_left _ (List.mem_of_getElem? (l := tables_1_1) (i := 99) (by decide +kernel))) rfl
theorem wd_1_100 : (Jvm.Cond.lays "java/lang/IndexOutOfBoundsException" "java/lang/Throwable" "cause" "Ljava/lang/Throwable;") ∈ WALL := wall_of (List.mem_append_left _ (List.mem_of_getElem? (l := tables_1_1) (i := 100) (by decide +kernel))) rfl
theorem wd_1_101 : (Jvm.Cond.lays "java/lang/Throwable" "java/lang/Throwable" "cause" "Ljava/lang/Throwable;") ∈ WALL := wall_of (List.mem_append_left _ (List.mem_of_getElem? (l := tables_1_1) (i := 101) (by decide +kernel))) rfl
theorem wd_1_102 : (Jvm.Cond.lays "java/lang/IndexOutOfBoundsException" "java/lang/Throwable" "stackTrace" "[Ljava/lang/StackTraceElement;") ∈ WALL := wall_of (List.mem_append_left _ (List.mem_of_getElem? (l := tables_1_1) (i := 102) (by decide +kernel))) rfl
theorem wd_1_103 : (Jvm.Cond.lays "java/lang/Throwable" "java/lang/Throwable" "stackTrace" "[Ljava/lang/StackTraceElement;") ∈ WALL := wall_of (List.mem_append_left _ (List.mem_of_getElem? (l := tables_1_1) (i := 103) (by decide +kernel))) rfl
theorem wd_1_104 : (Jvm.Cond.lays "java/lang/IndexOutOfBoundsException" "java/lang/Throwable" "suppressedExceptions" "Ljava/util/List;") ∈ WALL := wall_of (List.mem_append_left _ (List.mem_of_getElem? (l := tables_1_1) (i := 104) (by decide +kernel))) rfl
theorem wd_1_105 : (Jvm.Cond.lays "java/lang/Throwable" "java/lang/Throwable" "suppressedExceptions" "Ljava/util/List;") ∈ WALL := wall_of (List.mem_append_left _ (List.mem_of_getElem? (l := tables_1_1) (i := 105) (by decide +kernel))) rfl
theorem wd_1_106 : (Jvm.Cond.lays "java/lang/IndexOutOfBoundsException" "java/lang/Throwable" "detailMessage" "Ljava/lang/String;") ∈ WALL := wall_of (List.mem_append_left _ (List.mem_of_getElem? (l := tables_1_1) (i := 106) (by decide +kernel))) rfl
theorem wd_1_107 : (Jvm.Cond.lays "java/lang/Throwable" "java/lang/Throwable" "detailMessage" "Ljava/lang/String;") ∈ WALL := wall_of (List.mem_append_left _ (List.mem_of_getElem? (l := tables_1_1) (i := 107) (by decide +kernel))) rfl
theorem wd_1_108 : (Jvm.Cond.lays "java/lang/IndexOutOfBoundsException" "java/lang/Throwable" "backtrace" "Ljava/lang/Object;") ∈ WALL := wall_of (List.mem_append_left _ (List.mem_of_getElem? (l := tables_1_1) (i := 108) (by decide +kernel))) rfl
theorem wd_1_109 : (Jvm.Cond.lays "java/lang/Throwable" "java/lang/Throwable" "backtrace" "Ljava/lang/Object;") ∈ WALL := wall_of (List.mem_append_left _ (List.mem_of_getElem? (l := tables_1_1) (i := 109) (by decide +kernel))) rfl
theorem wd_1_110 : (Jvm.Cond.fieldLink "java/lang/Throwable" (198 : Nat) "java/lang/Throwable" "backtrace" "Ljava/lang/Object;") ∈ WALL := wall_of (List.mem_append_left _ (List.mem_of_getElem? (l := tables_1_1) (i := 110) (by decide +kernel))) rfl
theorem wd_1_111 : (Jvm.Cond.superclass "java/lang/Throwable" "java/lang/Object") ∈ WALL := wall_of (List.mem_append_left _ (List.mem_of_getElem? (l := tables_1_1) (i := 111) (by decide +kernel))) rfl
theorem wd_1_112 : (Jvm.Cond.instanceMethod ({ cls := "java/lang/Throwable", name := "<init>", desc := "()V" } : Jvm.MethodName)) ∈ WALL := wall_of (List.mem_append_left _ (List.mem_of_getElem? (l := tables_1_1) (i := 112) (by decide +kernel))) rfl
theorem wd_1_113 : (Jvm.Cond.code ({ cls := "java/lang/Throwable", name := "<init>", desc := "()V" } : Jvm.MethodName) prog_18_method_1_code (1 : Nat) (Option.none : Option Jvm.ClassFile.FieldType)) ∈ WALL := wall_of (List.mem_append_left _ (List.mem_of_getElem? (l := tables_1_1) (i := 113) (by decide +kernel))) rfl
theorem wd_1_114 : (Jvm.Cond.methodLink "java/lang/Throwable" (1 : Nat) ({ cls := "java/lang/Object", name := "<init>", desc := "()V" } : Jvm.MethodName)) ∈ WALL := wall_of (List.mem_append_left _ (List.mem_of_getElem? (l := tables_1_1) (i := 114) (by decide +kernel))) rfl
theorem wd_1_115 : (Jvm.Cond.fieldLink "java/lang/Throwable" (13 : Nat) "java/lang/Throwable" "UNASSIGNED_STACK" "[Ljava/lang/StackTraceElement;") ∈ WALL := wall_of (List.mem_append_left _ (List.mem_of_getElem? (l := tables_1_1) (i := 115) (by decide +kernel))) rfl
theorem wd_1_117 : (Jvm.Cond.fieldLink "java/lang/Throwable" (20 : Nat) "java/lang/Throwable" "SUPPRESSED_SENTINEL" "Ljava/util/List;") ∈ WALL := wall_of (List.mem_append_left _ (List.mem_of_getElem? (l := tables_1_1) (i := 117) (by decide +kernel))) rfl
theorem wd_1_119 : (Jvm.Cond.methodLink "java/lang/Throwable" (27 : Nat) ({ cls := "java/lang/Throwable", name := "fillInStackTrace", desc := "()Ljava/lang/Throwable;" } : Jvm.MethodName)) ∈ WALL := wall_of (List.mem_append_left _ (List.mem_of_getElem? (l := tables_1_1) (i := 119) (by decide +kernel))) rfl
theorem wd_1_120 : (Jvm.Cond.instanceMethod ({ cls := "java/lang/Throwable", name := "fillInStackTrace", desc := "()Ljava/lang/Throwable;" } : Jvm.MethodName)) ∈ WALL := wall_of (List.mem_append_left _ (List.mem_of_getElem? (l := tables_1_1) (i := 120) (by decide +kernel))) rfl
theorem wd_1_121 : (Jvm.Cond.sameMethod "java/lang/Throwable" "java/lang/Throwable" "fillInStackTrace" "()Ljava/lang/Throwable;") ∈ WALL := wall_of (List.mem_append_left _ (List.mem_of_getElem? (l := tables_1_1) (i := 121) (by decide +kernel))) rfl
theorem wd_1_122 : (Jvm.Cond.selects "java/lang/IllegalArgumentException" ({ cls := "java/lang/Throwable", name := "fillInStackTrace", desc := "()Ljava/lang/Throwable;" } : Jvm.MethodName) ({ cls := "java/lang/Throwable", name := "fillInStackTrace", desc := "()Ljava/lang/Throwable;" } : Jvm.MethodName)) ∈ WALL := wall_of (List.mem_append_left _ (List.mem_of_getElem? (l := tables_1_1) (i := 122) (by decide +kernel))) rfl
theorem wd_1_123 : (Jvm.Cond.selects "java/lang/IllegalStateException" ({ cls := "java/lang/Throwable", name := "fillInStackTrace", desc := "()Ljava/lang/Throwable;" } : Jvm.MethodName) ({ cls := "java/lang/Throwable", name := "fillInStackTrace", desc := "()Ljava/lang/Throwable;" } : Jvm.MethodName)) ∈ WALL := wall_of (List.mem_append_left _ (List.mem_of_getElem? (l := tables_1_1) (i := 123) (by decide +kernel))) rfl
theorem wd_1_125 : (Jvm.Cond.methodLink "java/lang/Throwable" (202 : Nat) ({ cls := "java/lang/Throwable", name := "fillInStackTrace", desc := "(I)Ljava/lang/Throwable;" } : Jvm.MethodName)) ∈ WALL := wall_of (List.mem_append_left _ (List.mem_of_getElem? (l := tables_1_1) (i := 125) (by decide +kernel))) rfl
theorem wd_1_127 : (Jvm.Cond.instanceMethod ({ cls := "java/lang/Throwable", name := "fillInStackTrace", desc := "(I)Ljava/lang/Throwable;" } : Jvm.MethodName)) ∈ WALL := wall_of (List.mem_append_left _ (List.mem_of_getElem? (l := tables_1_1) (i := 127) (by decide +kernel))) rfl
theorem wd_1_128 : (Jvm.Cond.instantiable "java/lang/Throwable" (6 : Nat)) ∈ WALL := wall_of (List.mem_append_left _ (List.mem_of_getElem? (l := tables_1_1) (i := 128) (by decide +kernel))) rfl
theorem wd_1_129 : (Jvm.Cond.native ({ cls := "java/lang/Throwable", name := "fillInStackTrace", desc := "(I)Ljava/lang/Throwable;" } : Jvm.MethodName)) ∈ WALL := wall_of (List.mem_append_left _ (List.mem_of_getElem? (l := tables_1_1) (i := 129) (by decide +kernel))) rfl
theorem wd_1_131 : (Jvm.Cond.methodLink "ChocolateMoulds" (135 : Nat) ({ cls := "java/lang/IndexOutOfBoundsException", name := "<init>", desc := "(Ljava/lang/String;)V" } : Jvm.MethodName)) ∈ WALL := wall_of (List.mem_append_left _ (List.mem_of_getElem? (l := tables_1_1) (i := 131) (by decide +kernel))) rfl
theorem wd_1_132 : (Jvm.Cond.instanceMethod ({ cls := "java/lang/IndexOutOfBoundsException", name := "<init>", desc := "(Ljava/lang/String;)V" } : Jvm.MethodName)) ∈ WALL := wall_of (List.mem_append_left _ (List.mem_of_getElem? (l := tables_1_1) (i := 132) (by decide +kernel))) rfl
theorem wd_1_133 : (Jvm.Cond.code ({ cls := "java/lang/IndexOutOfBoundsException", name := "<init>", desc := "(Ljava/lang/String;)V" } : Jvm.MethodName) prog_14_method_2_code (2 : Nat) (Option.none : Option Jvm.ClassFile.FieldType)) ∈ WALL := wall_of (List.mem_append_left _ (List.mem_of_getElem? (l := tables_1_1) (i := 133) (by decide +kernel))) rfl
theorem wd_1_134 : (Jvm.Cond.methodLink "java/lang/IndexOutOfBoundsException" (7 : Nat) ({ cls := "java/lang/RuntimeException", name := "<init>", desc := "(Ljava/lang/String;)V" } : Jvm.MethodName)) ∈ WALL := wall_of (List.mem_append_left _ (List.mem_of_getElem? (l := tables_1_1) (i := 134) (by decide +kernel))) rfl
theorem wd_1_135 : (Jvm.Cond.instanceMethod ({ cls := "java/lang/RuntimeException", name := "<init>", desc := "(Ljava/lang/String;)V" } : Jvm.MethodName)) ∈ WALL := wall_of (List.mem_append_left _ (List.mem_of_getElem? (l := tables_1_1) (i := 135) (by decide +kernel))) rfl
theorem wd_1_136 : (Jvm.Cond.code ({ cls := "java/lang/RuntimeException", name := "<init>", desc := "(Ljava/lang/String;)V" } : Jvm.MethodName) prog_16_method_2_code (2 : Nat) (Option.none : Option Jvm.ClassFile.FieldType)) ∈ WALL := wall_of (List.mem_append_left _ (List.mem_of_getElem? (l := tables_1_1) (i := 136) (by decide +kernel))) rfl
theorem wd_1_137 : (Jvm.Cond.methodLink "java/lang/RuntimeException" (7 : Nat) ({ cls := "java/lang/Exception", name := "<init>", desc := "(Ljava/lang/String;)V" } : Jvm.MethodName)) ∈ WALL := wall_of (List.mem_append_left _ (List.mem_of_getElem? (l := tables_1_1) (i := 137) (by decide +kernel))) rfl
theorem wd_1_138 : (Jvm.Cond.instanceMethod ({ cls := "java/lang/Exception", name := "<init>", desc := "(Ljava/lang/String;)V" } : Jvm.MethodName)) ∈ WALL := wall_of (List.mem_append_left _ (List.mem_of_getElem? (l := tables_1_1) (i := 138) (by decide +kernel))) rfl
theorem wd_1_139 : (Jvm.Cond.code ({ cls := "java/lang/Exception", name := "<init>", desc := "(Ljava/lang/String;)V" } : Jvm.MethodName) prog_11_method_2_code (2 : Nat) (Option.none : Option Jvm.ClassFile.FieldType)) ∈ WALL := wall_of (List.mem_append_left _ (List.mem_of_getElem? (l := tables_1_1) (i := 139) (by decide +kernel))) rfl
theorem wd_1_140 : (Jvm.Cond.methodLink "java/lang/Exception" (7 : Nat) ({ cls := "java/lang/Throwable", name := "<init>", desc := "(Ljava/lang/String;)V" } : Jvm.MethodName)) ∈ WALL := wall_of (List.mem_append_left _ (List.mem_of_getElem? (l := tables_1_1) (i := 140) (by decide +kernel))) rfl
theorem wd_1_141 : (Jvm.Cond.instanceMethod ({ cls := "java/lang/Throwable", name := "<init>", desc := "(Ljava/lang/String;)V" } : Jvm.MethodName)) ∈ WALL := wall_of (List.mem_append_left _ (List.mem_of_getElem? (l := tables_1_1) (i := 141) (by decide +kernel))) rfl
theorem wd_1_142 : (Jvm.Cond.code ({ cls := "java/lang/Throwable", name := "<init>", desc := "(Ljava/lang/String;)V" } : Jvm.MethodName) prog_18_method_2_code (2 : Nat) (Option.none : Option Jvm.ClassFile.FieldType)) ∈ WALL := wall_of (List.mem_append_left _ (List.mem_of_getElem? (l := tables_1_1) (i := 142) (by decide +kernel))) rfl
theorem wd_1_143 : (Jvm.Cond.fieldLink "java/lang/Throwable" (198 : Nat) "java/lang/Throwable" "backtrace" "Ljava/lang/Object;") ∈ WALL := wall_of (List.mem_append_left _ (List.mem_of_getElem? (l := tables_1_1) (i := 143) (by decide +kernel))) rfl
theorem wd_1_144 : (Jvm.Cond.fieldLink "java/lang/Throwable" (31 : Nat) "java/lang/Throwable" "detailMessage" "Ljava/lang/String;") ∈ WALL := wall_of (List.mem_append_left _ (List.mem_of_getElem? (l := tables_1_1) (i := 144) (by decide +kernel))) rfl
theorem wd_1_145 : (Jvm.Cond.fieldLink "java/lang/Throwable" (7 : Nat) "java/lang/Throwable" "cause" "Ljava/lang/Throwable;") ∈ WALL := wall_of (List.mem_append_left _ (List.mem_of_getElem? (l := tables_1_1) (i := 145) (by decide +kernel))) rfl
theorem wd_1_146 : (Jvm.Cond.fieldLink "java/lang/Throwable" (17 : Nat) "java/lang/Throwable" "stackTrace" "[Ljava/lang/StackTraceElement;") ∈ WALL := wall_of (List.mem_append_left _ (List.mem_of_getElem? (l := tables_1_1) (i := 146) (by decide +kernel))) rfl
theorem wd_1_147 : (Jvm.Cond.fieldLink "java/lang/Throwable" (24 : Nat) "java/lang/Throwable" "suppressedExceptions" "Ljava/util/List;") ∈ WALL := wall_of (List.mem_append_left _ (List.mem_of_getElem? (l := tables_1_1) (i := 147) (by decide +kernel))) rfl
theorem wd_1_152 : (Jvm.Cond.lays "java/lang/IndexOutOfBoundsException" "java/lang/Throwable" "depth" "I") ∈ WALL := wall_of (List.mem_append_left _ (List.mem_of_getElem? (l := tables_1_1) (i := 152) (by decide +kernel))) rfl
theorem wd_1_155 : (Jvm.Cond.superclass "java/lang/IndexOutOfBoundsException" "java/lang/RuntimeException") ∈ WALL := wall_of (List.mem_append_left _ (List.mem_of_getElem? (l := tables_1_1) (i := 155) (by decide +kernel))) rfl
theorem wd_1_156 : (Jvm.Cond.arrayClass Jvm.ClassFile.FieldType.byte) ∈ WALL := wall_of (List.mem_append_left _ (List.mem_of_getElem? (l := tables_1_1) (i := 156) (by decide +kernel))) rfl
theorem wd_1_157 : (Jvm.Cond.methodLink "ChocolateMoulds" (119 : Nat) ({ cls := "ChocolateMoulds$Slab", name := "bloomBehindPolish", desc := "()I" } : Jvm.MethodName)) ∈ WALL := wall_of (List.mem_append_left _ (List.mem_of_getElem? (l := tables_1_1) (i := 157) (by decide +kernel))) rfl
theorem wd_1_158 : (Jvm.Cond.instanceMethod ({ cls := "ChocolateMoulds$Slab", name := "bloomBehindPolish", desc := "()I" } : Jvm.MethodName)) ∈ WALL := wall_of (List.mem_append_left _ (List.mem_of_getElem? (l := tables_1_1) (i := 158) (by decide +kernel))) rfl
theorem wd_1_159 : (Jvm.Cond.selects "ChocolateMoulds$Slab" ({ cls := "ChocolateMoulds$Slab", name := "bloomBehindPolish", desc := "()I" } : Jvm.MethodName) ({ cls := "ChocolateMoulds$Slab", name := "bloomBehindPolish", desc := "()I" } : Jvm.MethodName)) ∈ WALL := wall_of (List.mem_append_left _ (List.mem_of_getElem? (l := tables_1_1) (i := 159) (by decide +kernel))) rfl
theorem wd_1_160 : (Jvm.Cond.code ({ cls := "ChocolateMoulds$Slab", name := "bloomBehindPolish", desc := "()I" } : Jvm.MethodName) prog_5_method_5_code (1 : Nat) (Option.some Jvm.ClassFile.FieldType.int)) ∈ WALL := wall_of (List.mem_append_left _ (List.mem_of_getElem? (l := tables_1_1) (i := 160) (by decide +kernel))) rfl
theorem wd_1_161 : (Jvm.Cond.methodLink "ChocolateMoulds$Slab" (28 : Nat) ({ cls := "java/lang/Math", name := "max", desc := "(II)I" } : Jvm.MethodName)) ∈ WALL := wall_of (List.mem_append_left _ (List.mem_of_getElem? (l := tables_1_1) (i := 161) (by decide +kernel))) rfl
theorem wd_1_162 : (Jvm.Cond.static ({ cls := "java/lang/Math", name := "max", desc := "(II)I" } : Jvm.MethodName)) ∈ WALL := wall_of (List.mem_append_left _ (List.mem_of_getElem? (l := tables_1_1) (i := 162) (by decide +kernel))) rfl
theorem wd_1_163 : (Jvm.Cond.code ({ cls := "java/lang/Math", name := "max", desc := "(II)I" } : Jvm.MethodName) prog_15_method_65_code (2 : Nat) (Option.some Jvm.ClassFile.FieldType.int)) ∈ WALL := wall_of (List.mem_append_left _ (List.mem_of_getElem? (l := tables_1_1) (i := 163) (by decide +kernel))) rfl
theorem wd_1_164 : (Jvm.Cond.methodLink "ChocolateMouldsLaw" (136 : Nat) ({ cls := "ChocolateMoulds", name := "told", desc := "(II)I" } : Jvm.MethodName)) ∈ WALL := wall_of (List.mem_append_left _ (List.mem_of_getElem? (l := tables_1_1) (i := 164) (by decide +kernel))) rfl
theorem wd_1_165 : (Jvm.Cond.instanceMethod ({ cls := "ChocolateMoulds", name := "told", desc := "(II)I" } : Jvm.MethodName)) ∈ WALL := wall_of (List.mem_append_left _ (List.mem_of_getElem? (l := tables_1_1) (i := 165) (by decide +kernel))) rfl
theorem wd_1_166 : (Jvm.Cond.selects "ChocolateMoulds" ({ cls := "ChocolateMoulds", name := "told", desc := "(II)I" } : Jvm.MethodName) ({ cls := "ChocolateMoulds", name := "told", desc := "(II)I" } : Jvm.MethodName)) ∈ WALL := wall_of (List.mem_append_left _ (List.mem_of_getElem? (l := tables_1_1) (i := 166) (by decide +kernel))) rfl
theorem wd_1_167 : (Jvm.Cond.code ({ cls := "ChocolateMoulds", name := "told", desc := "(II)I" } : Jvm.MethodName) prog_1_method_13_code (4 : Nat) (Option.some Jvm.ClassFile.FieldType.int)) ∈ WALL := wall_of (List.mem_append_left _ (List.mem_of_getElem? (l := tables_1_1) (i := 167) (by decide +kernel))) rfl
theorem wd_1_168 : (Jvm.Cond.methodLink "ChocolateMoulds" (64 : Nat) ({ cls := "ChocolateMoulds", name := "bowlAt", desc := "(I)LChocolateMoulds$Bowl;" } : Jvm.MethodName)) ∈ WALL := wall_of (List.mem_append_left _ (List.mem_of_getElem? (l := tables_1_1) (i := 168) (by decide +kernel))) rfl
theorem wd_1_170 : (Jvm.Cond.instanceMethod ({ cls := "ChocolateMoulds", name := "bowlAt", desc := "(I)LChocolateMoulds$Bowl;" } : Jvm.MethodName)) ∈ WALL := wall_of (List.mem_append_left _ (List.mem_of_getElem? (l := tables_1_1) (i := 170) (by decide +kernel))) rfl
theorem wd_1_171 : (Jvm.Cond.code ({ cls := "ChocolateMoulds", name := "bowlAt", desc := "(I)LChocolateMoulds$Bowl;" } : Jvm.MethodName) prog_1_method_26_code (3 : Nat) (Option.some (Jvm.ClassFile.FieldType.object "ChocolateMoulds$Bowl"))) ∈ WALL := wall_of (List.mem_append_left _ (List.mem_of_getElem? (l := tables_1_1) (i := 171) (by decide +kernel))) rfl
theorem wd_1_173 : (Jvm.Cond.methodLink "ChocolateMoulds" (180 : Nat) ({ cls := "ChocolateMoulds", name := "checkWhat", desc := "(II)V" } : Jvm.MethodName)) ∈ WALL := wall_of (List.mem_append_left _ (List.mem_of_getElem? (l := tables_1_1) (i := 173) (by decide +kernel))) rfl
theorem wd_1_174 : (Jvm.Cond.static ({ cls := "ChocolateMoulds", name := "checkWhat", desc := "(II)V" } : Jvm.MethodName)) ∈ WALL := wall_of (List.mem_append_left _ (List.mem_of_getElem? (l := tables_1_1) (i := 174) (by decide +kernel))) rfl
theorem wd_1_175 : (Jvm.Cond.code ({ cls := "ChocolateMoulds", name := "checkWhat", desc := "(II)V" } : Jvm.MethodName) prog_1_method_25_code (2 : Nat) (Option.none : Option Jvm.ClassFile.FieldType)) ∈ WALL := wall_of (List.mem_append_left _ (List.mem_of_getElem? (l := tables_1_1) (i := 175) (by decide +kernel))) rfl
theorem wd_1_177 : (Jvm.Cond.methodLink "ChocolateMoulds" (81 : Nat) ({ cls := "ChocolateMoulds$Crystals", name := "temper", desc := "()I" } : Jvm.MethodName)) ∈ WALL := wall_of (List.mem_append_left _ (List.mem_of_getElem? (l := tables_1_1) (i := 177) (by decide +kernel))) rfl
theorem wd_1_178 : (Jvm.Cond.instanceMethod ({ cls := "ChocolateMoulds$Crystals", name := "temper", desc := "()I" } : Jvm.MethodName)) ∈ WALL := wall_of (List.mem_append_left _ (List.mem_of_getElem? (l := tables_1_1) (i := 178) (by decide +kernel))) rfl
theorem wd_1_179 : (Jvm.Cond.selects "ChocolateMoulds$Crystals" ({ cls := "ChocolateMoulds$Crystals", name := "temper", desc := "()I" } : Jvm.MethodName) ({ cls := "ChocolateMoulds$Crystals", name := "temper", desc := "()I" } : Jvm.MethodName)) ∈ WALL := wall_of (List.mem_append_left _ (List.mem_of_getElem? (l := tables_1_1) (i := 179) (by decide +kernel))) rfl
theorem wd_1_180 : (Jvm.Cond.code ({ cls := "ChocolateMoulds$Crystals", name := "temper", desc := "()I" } : Jvm.MethodName) prog_4_method_11_code (2 : Nat) (Option.some Jvm.ClassFile.FieldType.int)) ∈ WALL := wall_of (List.mem_append_left _ (List.mem_of_getElem? (l := tables_1_1) (i := 180) (by decide +kernel))) rfl
theorem wd_1_181 : (Jvm.Cond.methodLink "ChocolateMoulds$Crystals" (37 : Nat) ({ cls := "java/lang/Math", name := "min", desc := "(II)I" } : Jvm.MethodName)) ∈ WALL := wall_of (List.mem_append_left _ (List.mem_of_getElem? (l := tables_1_1) (i := 181) (by decide +kernel))) rfl
theorem wd_1_182 : (Jvm.Cond.static ({ cls := "java/lang/Math", name := "min", desc := "(II)I" } : Jvm.MethodName)) ∈ WALL := wall_of (List.mem_append_left _ (List.mem_of_getElem? (l := tables_1_1) (i := 182) (by decide +kernel))) rfl
theorem wd_1_183 : (Jvm.Cond.code ({ cls := "java/lang/Math", name := "min", desc := "(II)I" } : Jvm.MethodName) prog_15_method_69_code (2 : Nat) (Option.some Jvm.ClassFile.FieldType.int)) ∈ WALL := wall_of (List.mem_append_left _ (List.mem_of_getElem? (l := tables_1_1) (i := 183) (by decide +kernel))) rfl
theorem wd_1_184 : (Jvm.Cond.methodLink "ChocolateMoulds$Crystals" (43 : Nat) ({ cls := "java/lang/Math", name := "max", desc := "(II)I" } : Jvm.MethodName)) ∈ WALL := wall_of (List.mem_append_left _ (List.mem_of_getElem? (l := tables_1_1) (i := 184) (by decide +kernel))) rfl
theorem wd_1_185 : (Jvm.Cond.methodLink "ChocolateMouldsLaw" (142 : Nat) ({ cls := "ChocolateMoulds", name := "about", desc := "(II)I" } : Jvm.MethodName)) ∈ WALL := wall_of (List.mem_append_left _ (List.mem_of_getElem? (l := tables_1_1) (i := 185) (by decide +kernel))) rfl
theorem wd_1_186 : (Jvm.Cond.instanceMethod ({ cls := "ChocolateMoulds", name := "about", desc := "(II)I" } : Jvm.MethodName)) ∈ WALL := wall_of (List.mem_append_left _ (List.mem_of_getElem? (l := tables_1_1) (i := 186) (by decide +kernel))) rfl
theorem wd_1_187 : (Jvm.Cond.selects "ChocolateMoulds" ({ cls := "ChocolateMoulds", name := "about", desc := "(II)I" } : Jvm.MethodName) ({ cls := "ChocolateMoulds", name := "about", desc := "(II)I" } : Jvm.MethodName)) ∈ WALL := wall_of (List.mem_append_left _ (List.mem_of_getElem? (l := tables_1_1) (i := 187) (by decide +kernel))) rfl
theorem wd_1_188 : (Jvm.Cond.code ({ cls := "ChocolateMoulds", name := "about", desc := "(II)I" } : Jvm.MethodName) prog_1_method_14_code (4 : Nat) (Option.some Jvm.ClassFile.FieldType.int)) ∈ WALL := wall_of (List.mem_append_left _ (List.mem_of_getElem? (l := tables_1_1) (i := 188) (by decide +kernel))) rfl
theorem wd_1_189 : (Jvm.Cond.methodLink "ChocolateMoulds" (188 : Nat) ({ cls := "ChocolateMoulds$Slab", name := "squares", desc := "()I" } : Jvm.MethodName)) ∈ WALL := wall_of (List.mem_append_left _ (List.mem_of_getElem? (l := tables_1_1) (i := 189) (by decide +kernel))) rfl
theorem wd_1_190 : (Jvm.Cond.instanceMethod ({ cls := "ChocolateMoulds$Slab", name := "squares", desc := "()I" } : Jvm.MethodName)) ∈ WALL := wall_of (List.mem_append_left _ (List.mem_of_getElem? (l := tables_1_1) (i := 190) (by decide +kernel))) rfl
theorem wd_1_191 : (Jvm.Cond.selects "ChocolateMoulds$Slab" ({ cls := "ChocolateMoulds$Slab", name := "squares", desc := "()I" } : Jvm.MethodName) ({ cls := "ChocolateMoulds$Slab", name := "squares", desc := "()I" } : Jvm.MethodName)) ∈ WALL := wall_of (List.mem_append_left _ (List.mem_of_getElem? (l := tables_1_1) (i := 191) (by decide +kernel))) rfl
theorem wd_1_192 : (Jvm.Cond.code ({ cls := "ChocolateMoulds$Slab", name := "squares", desc := "()I" } : Jvm.MethodName) prog_5_method_2_code (1 : Nat) (Option.some Jvm.ClassFile.FieldType.int)) ∈ WALL := wall_of (List.mem_append_left _ (List.mem_of_getElem? (l := tables_1_1) (i := 192) (by decide +kernel))) rfl
theorem wd_1_193 : (Jvm.Cond.methodLink "ChocolateMoulds" (191 : Nat) ({ cls := "ChocolateMoulds", name := "firstEmptyBoxFor", desc := "(LChocolateMoulds$Slab;)I" } : Jvm.MethodName)) ∈ WALL := wall_of (List.mem_append_left _ (List.mem_of_getElem? (l := tables_1_1) (i := 193) (by decide +kernel))) rfl
theorem wd_1_195 : (Jvm.Cond.instanceMethod ({ cls := "ChocolateMoulds", name := "firstEmptyBoxFor", desc := "(LChocolateMoulds$Slab;)I" } : Jvm.MethodName)) ∈ WALL := wall_of (List.mem_append_left _ (List.mem_of_getElem? (l := tables_1_1) (i := 195) (by decide +kernel))) rfl
theorem wd_1_196 : (Jvm.Cond.code ({ cls := "ChocolateMoulds", name := "firstEmptyBoxFor", desc := "(LChocolateMoulds$Slab;)I" } : Jvm.MethodName) prog_1_method_36_code (4 : Nat) (Option.some Jvm.ClassFile.FieldType.int)) ∈ WALL := wall_of (List.mem_append_left _ (List.mem_of_getElem? (l := tables_1_1) (i := 196) (by decide +kernel))) rfl
theorem wd_1_197 : (Jvm.Cond.methodLink "ChocolateMoulds" (270 : Nat) ({ cls := "ChocolateMoulds$Box", name := "suits", desc := "(LChocolateMoulds$Slab;I)Z" } : Jvm.MethodName)) ∈ WALL := wall_of (List.mem_append_left _ (List.mem_of_getElem? (l := tables_1_1) (i := 197) (by decide +kernel))) rfl
theorem wd_1_198 : (Jvm.Cond.instanceMethod ({ cls := "ChocolateMoulds$Box", name := "suits", desc := "(LChocolateMoulds$Slab;I)Z" } : Jvm.MethodName)) ∈ WALL := wall_of (List.mem_append_left _ (List.mem_of_getElem? (l := tables_1_1) (i := 198) (by decide +kernel))) rfl
theorem wd_1_199 : (Jvm.Cond.selects "ChocolateMoulds$Box" ({ cls := "ChocolateMoulds$Box", name := "suits", desc := "(LChocolateMoulds$Slab;I)Z" } : Jvm.MethodName) ({ cls := "ChocolateMoulds$Box", name := "suits", desc := "(LChocolateMoulds$Slab;I)Z" } : Jvm.MethodName)) ∈ WALL := wall_of (List.mem_append_left _ (List.mem_of_getElem? (l := tables_1_1) (i := 199) (by decide +kernel))) rfl
theorem wd_1_200 : (Jvm.Cond.code ({ cls := "ChocolateMoulds$Box", name := "suits", desc := "(LChocolateMoulds$Slab;I)Z" } : Jvm.MethodName) prog_3_method_2_code (3 : Nat) (Option.some Jvm.ClassFile.FieldType.boolean)) ∈ WALL := wall_of (List.mem_append_left _ (List.mem_of_getElem? (l := tables_1_1) (i := 200) (by decide +kernel))) rfl
theorem wd_1_201 : (Jvm.Cond.methodLink "ChocolateMoulds$Box" (24 : Nat) ({ cls := "ChocolateMoulds$Slab", name := "squares", desc := "()I" } : Jvm.MethodName)) ∈ WALL := wall_of (List.mem_append_left _ (List.mem_of_getElem? (l := tables_1_1) (i := 201) (by decide +kernel))) rfl
theorem wd_1_202 : (Jvm.Cond.methodLink "ChocolateMouldsLaw" (133 : Nat) ({ cls := "ChocolateMoulds", name := "order", desc := "(II)I" } : Jvm.MethodName)) ∈ WALL := wall_of (List.mem_append_left _ (List.mem_of_getElem? (l := tables_1_1) (i := 202) (by decide +kernel))) rfl
theorem wd_1_203 : (Jvm.Cond.instanceMethod ({ cls := "ChocolateMoulds", name := "order", desc := "(II)I" } : Jvm.MethodName)) ∈ WALL := wall_of (List.mem_append_left _ (List.mem_of_getElem? (l := tables_1_1) (i := 203) (by decide +kernel))) rfl
theorem wd_1_204 : (Jvm.Cond.selects "ChocolateMoulds" ({ cls := "ChocolateMoulds", name := "order", desc := "(II)I" } : Jvm.MethodName) ({ cls := "ChocolateMoulds", name := "order", desc := "(II)I" } : Jvm.MethodName)) ∈ WALL := wall_of (List.mem_append_left _ (List.mem_of_getElem? (l := tables_1_1) (i := 204) (by decide +kernel))) rfl
theorem wd_1_205 : (Jvm.Cond.code ({ cls := "ChocolateMoulds", name := "order", desc := "(II)I" } : Jvm.MethodName) prog_1_method_15_code (4 : Nat) (Option.some Jvm.ClassFile.FieldType.int)) ∈ WALL := wall_of (List.mem_append_left _ (List.mem_of_getElem? (l := tables_1_1) (i := 205) (by decide +kernel))) rfl
theorem wd_1_206 : (Jvm.Cond.methodLink "ChocolateMoulds" (194 : Nat) ({ cls := "ChocolateMoulds", name := "boxAt", desc := "(I)LChocolateMoulds$Box;" } : Jvm.MethodName)) ∈ WALL := wall_of (List.mem_append_left _ (List.mem_of_getElem? (l := tables_1_1) (i := 206) (by decide +kernel))) rfl
theorem wd_1_208 : (Jvm.Cond.instanceMethod ({ cls := "ChocolateMoulds", name := "boxAt", desc := "(I)LChocolateMoulds$Box;" } : Jvm.MethodName)) ∈ WALL := wall_of (List.mem_append_left _ (List.mem_of_getElem? (l := tables_1_1) (i := 208) (by decide +kernel))) rfl
theorem wd_1_209 : (Jvm.Cond.code ({ cls := "ChocolateMoulds", name := "boxAt", desc := "(I)LChocolateMoulds$Box;" } : Jvm.MethodName) prog_1_method_29_code (3 : Nat) (Option.some (Jvm.ClassFile.FieldType.object "ChocolateMoulds$Box"))) ∈ WALL := wall_of (List.mem_append_left _ (List.mem_of_getElem? (l := tables_1_1) (i := 209) (by decide +kernel))) rfl
theorem wd_1_211 : (Jvm.Cond.methodLink "ChocolateMouldsLaw" (130 : Nat) ({ cls := "ChocolateMoulds", name := "count", desc := "(I)I" } : Jvm.MethodName)) ∈ WALL := wall_of (List.mem_append_left _ (List.mem_of_getElem? (l := tables_1_1) (i := 211) (by decide +kernel))) rfl
theorem wd_1_212 : (Jvm.Cond.instanceMethod ({ cls := "ChocolateMoulds", name := "count", desc := "(I)I" } : Jvm.MethodName)) ∈ WALL := wall_of (List.mem_append_left _ (List.mem_of_getElem? (l := tables_1_1) (i := 212) (by decide +kernel))) rfl
theorem wd_1_213 : (Jvm.Cond.selects "ChocolateMoulds" ({ cls := "ChocolateMoulds", name := "count", desc := "(I)I" } : Jvm.MethodName) ({ cls := "ChocolateMoulds", name := "count", desc := "(I)I" } : Jvm.MethodName)) ∈ WALL := wall_of (List.mem_append_left _ (List.mem_of_getElem? (l := tables_1_1) (i := 213) (by decide +kernel))) rfl
theorem wd_1_214 : (Jvm.Cond.code ({ cls := "ChocolateMoulds", name := "count", desc := "(I)I" } : Jvm.MethodName) prog_1_method_16_code (2 : Nat) (Option.some Jvm.ClassFile.FieldType.int)) ∈ WALL := wall_of (List.mem_append_left _ (List.mem_of_getElem? (l := tables_1_1) (i := 214) (by decide +kernel))) rfl
theorem wd_1_215 : (Jvm.Cond.methodLink "ChocolateMoulds" (214 : Nat) ({ cls := "ChocolateMoulds", name := "filledBoxes", desc := "()I" } : Jvm.MethodName)) ∈ WALL := wall_of (List.mem_append_left _ (List.mem_of_getElem? (l := tables_1_1) (i := 215) (by decide +kernel))) rfl
theorem wd_1_217 : (Jvm.Cond.instanceMethod ({ cls := "ChocolateMoulds", name := "filledBoxes", desc := "()I" } : Jvm.MethodName)) ∈ WALL := wall_of (List.mem_append_left _ (List.mem_of_getElem? (l := tables_1_1) (i := 217) (by decide +kernel))) rfl
theorem wd_1_218 : (Jvm.Cond.code ({ cls := "ChocolateMoulds", name := "filledBoxes", desc := "()I" } : Jvm.MethodName) prog_1_method_32_code (6 : Nat) (Option.some Jvm.ClassFile.FieldType.int)) ∈ WALL := wall_of (List.mem_append_left _ (List.mem_of_getElem? (l := tables_1_1) (i := 218) (by decide +kernel))) rfl
theorem wd_1_219 : (Jvm.Cond.methodLink "ChocolateMoulds" (217 : Nat) ({ cls := "ChocolateMoulds", name := "gramsOfBowls", desc := "()I" } : Jvm.MethodName)) ∈ WALL := wall_of (List.mem_append_left _ (List.mem_of_getElem? (l := tables_1_1) (i := 219) (by decide +kernel))) rfl
theorem wd_1_221 : (Jvm.Cond.instanceMethod ({ cls := "ChocolateMoulds", name := "gramsOfBowls", desc := "()I" } : Jvm.MethodName)) ∈ WALL := wall_of (List.mem_append_left _ (List.mem_of_getElem? (l := tables_1_1) (i := 221) (by decide +kernel))) rfl
theorem wd_1_222 : (Jvm.Cond.code ({ cls := "ChocolateMoulds", name := "gramsOfBowls", desc := "()I" } : Jvm.MethodName) prog_1_method_33_code (6 : Nat) (Option.some Jvm.ClassFile.FieldType.int)) ∈ WALL := wall_of (List.mem_append_left _ (List.mem_of_getElem? (l := tables_1_1) (i := 222) (by decide +kernel))) rfl
theorem wd_1_223 : (Jvm.Cond.methodLink "ChocolateMoulds" (220 : Nat) ({ cls := "ChocolateMoulds", name := "squaresOfSlabs", desc := "()I" } : Jvm.MethodName)) ∈ WALL := wall_of (List.mem_append_left _ (List.mem_of_getElem? (l := tables_1_1) (i := 223) (by decide +kernel))) rfl
theorem wd_1_225 : (Jvm.Cond.instanceMethod ({ cls := "ChocolateMoulds", name := "squaresOfSlabs", desc := "()I" } : Jvm.MethodName)) ∈ WALL := wall_of (List.mem_append_left _ (List.mem_of_getElem? (l := tables_1_1) (i := 225) (by decide +kernel))) rfl
theorem wd_1_226 : (Jvm.Cond.code ({ cls := "ChocolateMoulds", name := "squaresOfSlabs", desc := "()I" } : Jvm.MethodName) prog_1_method_34_code (6 : Nat) (Option.some Jvm.ClassFile.FieldType.int)) ∈ WALL := wall_of (List.mem_append_left _ (List.mem_of_getElem? (l := tables_1_1) (i := 226) (by decide +kernel))) rfl
theorem wd_1_227 : (Jvm.Cond.methodLink "ChocolateMoulds" (177 : Nat) ({ cls := "ChocolateMoulds", name := "bloomedSlabs", desc := "()I" } : Jvm.MethodName)) ∈ WALL := wall_of (List.mem_append_left _ (List.mem_of_getElem? (l := tables_1_1) (i := 227) (by decide +kernel))) rfl
theorem wd_1_229 : (Jvm.Cond.instanceMethod ({ cls := "ChocolateMoulds", name := "bloomedSlabs", desc := "()I" } : Jvm.MethodName)) ∈ WALL := wall_of (List.mem_append_left _ (List.mem_of_getElem? (l := tables_1_1) (i := 229) (by decide +kernel))) rfl
theorem wd_1_230 : (Jvm.Cond.code ({ cls := "ChocolateMoulds", name := "bloomedSlabs", desc := "()I" } : Jvm.MethodName) prog_1_method_35_code (6 : Nat) (Option.some Jvm.ClassFile.FieldType.int)) ∈ WALL := wall_of (List.mem_append_left _ (List.mem_of_getElem? (l := tables_1_1) (i := 230) (by decide +kernel))) rfl
theorem wd_1_231 : (Jvm.Cond.methodLink "ChocolateMoulds" (229 : Nat) ({ cls := "ChocolateMoulds$Slab", name := "isBloomed", desc := "()Z" } : Jvm.MethodName)) ∈ WALL := wall_of (List.mem_append_left _ (List.mem_of_getElem? (l := tables_1_1) (i := 231) (by decide +kernel))) rfl
theorem wd_1_232 : (Jvm.Cond.instanceMethod ({ cls := "ChocolateMoulds$Slab", name := "isBloomed", desc := "()Z" } : Jvm.MethodName)) ∈ WALL := wall_of (List.mem_append_left _ (List.mem_of_getElem? (l := tables_1_1) (i := 232) (by decide +kernel))) rfl
theorem wd_1_233 : (Jvm.Cond.selects "ChocolateMoulds$Slab" ({ cls := "ChocolateMoulds$Slab", name := "isBloomed", desc := "()Z" } : Jvm.MethodName) ({ cls := "ChocolateMoulds$Slab", name := "isBloomed", desc := "()Z" } : Jvm.MethodName)) ∈ WALL := wall_of (List.mem_append_left _ (List.mem_of_getElem? (l := tables_1_1) (i := 233) (by decide +kernel))) rfl
theorem wd_1_234 : (Jvm.Cond.code ({ cls := "ChocolateMoulds$Slab", name := "isBloomed", desc := "()Z" } : Jvm.MethodName) prog_5_method_4_code (1 : Nat) (Option.some Jvm.ClassFile.FieldType.boolean)) ∈ WALL := wall_of (List.mem_append_left _ (List.mem_of_getElem? (l := tables_1_1) (i := 234) (by decide +kernel))) rfl
theorem wd_1_235 : (Jvm.Cond.methodLink "ChocolateMouldsLaw" (145 : Nat) ({ cls := "ChocolateMouldsLaw$Sim", name := "isSame", desc := "(LChocolateMoulds;)Z" } : Jvm.MethodName)) ∈ WALL := wall_of (List.mem_append_left _ (List.mem_of_getElem? (l := tables_1_1) (i := 235) (by decide +kernel))) rfl
theorem wd_1_236 : (Jvm.Cond.instanceMethod ({ cls := "ChocolateMouldsLaw$Sim", name := "isSame", desc := "(LChocolateMoulds;)Z" } : Jvm.MethodName)) ∈ WALL := wall_of (List.mem_append_left _ (List.mem_of_getElem? (l := tables_1_1) (i := 236) (by decide +kernel))) rfl
theorem wd_1_237 : (Jvm.Cond.selects "ChocolateMouldsLaw$Sim" ({ cls := "ChocolateMouldsLaw$Sim", name := "isSame", desc := "(LChocolateMoulds;)Z" } : Jvm.MethodName) ({ cls := "ChocolateMouldsLaw$Sim", name := "isSame", desc := "(LChocolateMoulds;)Z" } : Jvm.MethodName)) ∈ WALL := wall_of (List.mem_append_left _ (List.mem_of_getElem? (l := tables_1_1) (i := 237) (by decide +kernel))) rfl
theorem wd_1_238 : (Jvm.Cond.code ({ cls := "ChocolateMouldsLaw$Sim", name := "isSame", desc := "(LChocolateMoulds;)Z" } : Jvm.MethodName) prog_8_method_9_code (8 : Nat) (Option.some Jvm.ClassFile.FieldType.boolean)) ∈ WALL := wall_of (List.mem_append_left _ (List.mem_of_getElem? (l := tables_1_1) (i := 238) (by rfl))) rfl
theorem wd_1_239 : (Jvm.Cond.methodLink "ChocolateMouldsLaw$Sim" (49 : Nat) ({ cls := "ChocolateMouldsLaw$Sim", name := "bloomed", desc := "()I" } : Jvm.MethodName)) ∈ WALL := wall_of (List.mem_append_left _ (List.mem_of_getElem? (l := tables_1_1) (i := 239) (by decide +kernel))) rfl
theorem wd_2_0 : (Jvm.Cond.instanceMethod ({ cls := "ChocolateMouldsLaw$Sim", name := "bloomed", desc := "()I" } : Jvm.MethodName)) ∈ WALL := wall_of (List.mem_append_right _ (List.mem_append_left _ (List.mem_of_getElem? (l := tables_1_2) (i := 0) (by decide +kernel)))) rfl
theorem wd_2_1 : (Jvm.Cond.selects "ChocolateMouldsLaw$Sim" ({ cls := "ChocolateMouldsLaw$Sim", name := "bloomed", desc := "()I" } : Jvm.MethodName) ({ cls := "ChocolateMouldsLaw$Sim", name := "bloomed", desc := "()I" } : Jvm.MethodName)) ∈ WALL := wall_of (List.mem_append_right _ (List.mem_append_left _ (List.mem_of_getElem? (l := tables_1_2) (i := 1) (by decide +kernel)))) rfl
theorem wd_2_2 : (Jvm.Cond.code ({ cls := "ChocolateMouldsLaw$Sim", name := "bloomed", desc := "()I" } : Jvm.MethodName) prog_8_method_8_code (6 : Nat) (Option.some Jvm.ClassFile.FieldType.int)) ∈ WALL := wall_of (List.mem_append_right _ (List.mem_append_left _ (List.mem_of_getElem? (l := tables_1_2) (i := 2) (by rfl)))) rfl
theorem wd_2_3 : (Jvm.Cond.methodLink "ChocolateMouldsLaw$Sim" (62 : Nat) ({ cls := "ChocolateMouldsLaw$Bowl", name := "temper", desc := "()I" } : Jvm.MethodName)) ∈ WALL := wall_of (List.mem_append_right _ (List.mem_append_left _ (List.mem_of_getElem? (l := tables_1_2) (i := 3) (by decide +kernel)))) rfl
theorem wd_2_4 : (Jvm.Cond.instanceMethod ({ cls := "ChocolateMouldsLaw$Bowl", name := "temper", desc := "()I" } : Jvm.MethodName)) ∈ WALL := wall_of (List.mem_append_right _ (List.mem_append_left _ (List.mem_of_getElem? (l := tables_1_2) (i := 4) (by decide +kernel)))) rfl
theorem wd_2_5 : (Jvm.Cond.selects "ChocolateMouldsLaw$Bowl" ({ cls := "ChocolateMouldsLaw$Bowl", name := "temper", desc := "()I" } : Jvm.MethodName) ({ cls := "ChocolateMouldsLaw$Bowl", name := "temper", desc := "()I" } : Jvm.MethodName)) ∈ WALL := wall_of (List.mem_append_right _ (List.mem_append_left _ (List.mem_of_getElem? (l := tables_1_2) (i := 5) (by decide +kernel)))) rfl
theorem wd_2_6 : (Jvm.Cond.code ({ cls := "ChocolateMouldsLaw$Bowl", name := "temper", desc := "()I" } : Jvm.MethodName) prog_7_method_4_code (2 : Nat) (Option.some Jvm.ClassFile.FieldType.int)) ∈ WALL := wall_of (List.mem_append_right _ (List.mem_append_left _ (List.mem_of_getElem? (l := tables_1_2) (i := 6) (by rfl)))) rfl
theorem wd_2_7 : (Jvm.Cond.methodLink "ChocolateMouldsLaw$Sim" (65 : Nat) ({ cls := "ChocolateMoulds", name := "told", desc := "(II)I" } : Jvm.MethodName)) ∈ WALL := wall_of (List.mem_append_right _ (List.mem_append_left _ (List.mem_of_getElem? (l := tables_1_2) (i := 7) (by decide +kernel)))) rfl
theorem wd_2_8 : (Jvm.Cond.methodLink "ChocolateMouldsLaw$Sim" (24 : Nat) ({ cls := "ChocolateMouldsLaw$Sim", name := "fits", desc := "([I[I)Z" } : Jvm.MethodName)) ∈ WALL := wall_of (List.mem_append_right _ (List.mem_append_left _ (List.mem_of_getElem? (l := tables_1_2) (i := 8) (by decide +kernel)))) rfl
theorem wd_2_9 : (Jvm.Cond.static ({ cls := "ChocolateMouldsLaw$Sim", name := "fits", desc := "([I[I)Z" } : Jvm.MethodName)) ∈ WALL := wall_of (List.mem_append_right _ (List.mem_append_left _ (List.mem_of_getElem? (l := tables_1_2) (i := 9) (by decide +kernel)))) rfl
theorem wd_2_10 : (Jvm.Cond.code ({ cls := "ChocolateMouldsLaw$Sim", name := "fits", desc := "([I[I)Z" } : Jvm.MethodName) prog_8_method_4_code (2 : Nat) (Option.some Jvm.ClassFile.FieldType.boolean)) ∈ WALL := wall_of (List.mem_append_right _ (List.mem_append_left _ (List.mem_of_getElem? (l := tables_1_2) (i := 10) (by rfl)))) rfl
theorem wd_2_11 : (Jvm.Cond.methodLink "ChocolateMouldsLaw$Sim" (71 : Nat) ({ cls := "ChocolateMoulds", name := "about", desc := "(II)I" } : Jvm.MethodName)) ∈ WALL := wall_of (List.mem_append_right _ (List.mem_append_left _ (List.mem_of_getElem? (l := tables_1_2) (i := 11) (by decide +kernel)))) rfl
theorem wd_2_12 : (Jvm.Cond.methodLink "ChocolateMouldsLaw$Sim" (74 : Nat) ({ cls := "ChocolateMoulds", name := "order", desc := "(II)I" } : Jvm.MethodName)) ∈ WALL := wall_of (List.mem_append_right _ (List.mem_append_left _ (List.mem_of_getElem? (l := tables_1_2) (i := 12) (by decide +kernel)))) rfl
theorem wd_2_13 : (Jvm.Cond.methodLink "ChocolateMouldsLaw$Sim" (77 : Nat) ({ cls := "ChocolateMoulds", name := "count", desc := "(I)I" } : Jvm.MethodName)) ∈ WALL := wall_of (List.mem_append_right _ (List.mem_append_left _ (List.mem_of_getElem? (l := tables_1_2) (i := 13) (by decide +kernel)))) rfl
theorem wd_2_14 : (Jvm.Cond.methodLink "ChocolateMouldsLaw$Sim" (81 : Nat) ({ cls := "ChocolateMoulds", name := "mean", desc := "()D" } : Jvm.MethodName)) ∈ WALL := wall_of (List.mem_append_right _ (List.mem_append_left _ (List.mem_of_getElem? (l := tables_1_2) (i := 14) (by decide +kernel)))) rfl
theorem wd_2_15 : (Jvm.Cond.instanceMethod ({ cls := "ChocolateMoulds", name := "mean", desc := "()D" } : Jvm.MethodName)) ∈ WALL := wall_of (List.mem_append_right _ (List.mem_append_left _ (List.mem_of_getElem? (l := tables_1_2) (i := 15) (by decide +kernel)))) rfl
theorem wd_2_16 : (Jvm.Cond.selects "ChocolateMoulds" ({ cls := "ChocolateMoulds", name := "mean", desc := "()D" } : Jvm.MethodName) ({ cls := "ChocolateMoulds", name := "mean", desc := "()D" } : Jvm.MethodName)) ∈ WALL := wall_of (List.mem_append_right _ (List.mem_append_left _ (List.mem_of_getElem? (l := tables_1_2) (i := 16) (by decide +kernel)))) rfl
theorem wd_2_17 : (Jvm.Cond.code ({ cls := "ChocolateMoulds", name := "mean", desc := "()D" } : Jvm.MethodName) prog_1_method_21_code (6 : Nat) (Option.some Jvm.ClassFile.FieldType.double)) ∈ WALL := wall_of (List.mem_append_right _ (List.mem_append_left _ (List.mem_of_getElem? (l := tables_1_2) (i := 17) (by decide +kernel)))) rfl
theorem wd_2_18 : (Jvm.Cond.methodLink "ChocolateMouldsLaw" (19 : Nat) ({ cls := "ChocolateMouldsLaw", name := "below", desc := "(II)I" } : Jvm.MethodName)) ∈ WALL := wall_of (List.mem_append_right _ (List.mem_append_left _ (List.mem_of_getElem? (l := tables_1_2) (i := 18) (by decide +kernel)))) rfl
theorem wd_2_19 : (Jvm.Cond.static ({ cls := "ChocolateMouldsLaw", name := "below", desc := "(II)I" } : Jvm.MethodName)) ∈ WALL := wall_of (List.mem_append_right _ (List.mem_append_left _ (List.mem_of_getElem? (l := tables_1_2) (i := 19) (by decide +kernel)))) rfl
theorem wd_2_20 : (Jvm.Cond.code ({ cls := "ChocolateMouldsLaw", name := "below", desc := "(II)I" } : Jvm.MethodName) method_2_code (2 : Nat) (Option.some Jvm.ClassFile.FieldType.int)) ∈ WALL := wall_of (List.mem_append_right _ (List.mem_append_left _ (List.mem_of_getElem? (l := tables_1_2) (i := 20) (by rfl)))) rfl
theorem wd_2_21 : (Jvm.Cond.constant "ChocolateMouldsLaw" (7 : Nat) (2147483647 : Int32)) ∈ WALL := wall_of (List.mem_append_right _ (List.mem_append_left _ (List.mem_of_getElem? (l := tables_1_2) (i := 21) (by decide +kernel)))) rfl
theorem wd_2_22 : (Jvm.Cond.methodLink "ChocolateMouldsLaw" (117 : Nat) ({ cls := "ChocolateMouldsLaw", name := "cell", desc := "([II)I" } : Jvm.MethodName)) ∈ WALL := wall_of (List.mem_append_right _ (List.mem_append_left _ (List.mem_of_getElem? (l := tables_1_2) (i := 22) (by decide +kernel)))) rfl
theorem wd_2_23 : (Jvm.Cond.static ({ cls := "ChocolateMouldsLaw", name := "cell", desc := "([II)I" } : Jvm.MethodName)) ∈ WALL := wall_of (List.mem_append_right _ (List.mem_append_left _ (List.mem_of_getElem? (l := tables_1_2) (i := 23) (by decide +kernel)))) rfl
theorem wd_2_24 : (Jvm.Cond.code ({ cls := "ChocolateMouldsLaw", name := "cell", desc := "([II)I" } : Jvm.MethodName) method_3_code (2 : Nat) (Option.some Jvm.ClassFile.FieldType.int)) ∈ WALL := wall_of (List.mem_append_right _ (List.mem_append_left _ (List.mem_of_getElem? (l := tables_1_2) (i := 24) (by rfl)))) rfl
theorem wd_2_25 : (Jvm.Cond.constant "ChocolateMouldsLaw" (8 : Nat) (790386105 : Int32)) ∈ WALL := wall_of (List.mem_append_right _ (List.mem_append_left _ (List.mem_of_getElem? (l := tables_1_2) (i := 25) (by decide +kernel)))) rfl
theorem wd_2_26 : (Jvm.Cond.methodLink "ChocolateMouldsLaw" (121 : Nat) ({ cls := "ChocolateMouldsLaw", name := "act", desc := "(LChocolateMoulds;LChocolateMouldsLaw$Sim;I)Z" } : Jvm.MethodName)) ∈ WALL := wall_of (List.mem_append_right _ (List.mem_append_left _ (List.mem_of_getElem? (l := tables_1_2) (i := 26) (by decide +kernel)))) rfl
theorem wd_2_27 : (Jvm.Cond.static ({ cls := "ChocolateMouldsLaw", name := "act", desc := "(LChocolateMoulds;LChocolateMouldsLaw$Sim;I)Z" } : Jvm.MethodName)) ∈ WALL := wall_of (List.mem_append_right _ (List.mem_append_left _ (List.mem_of_getElem? (l := tables_1_2) (i := 27) (by decide +kernel)))) rfl
theorem wd_2_28 : (Jvm.Cond.code ({ cls := "ChocolateMouldsLaw", name := "act", desc := "(LChocolateMoulds;LChocolateMouldsLaw$Sim;I)Z" } : Jvm.MethodName) method_4_code (14 : Nat) (Option.some Jvm.ClassFile.FieldType.boolean)) ∈ WALL := wall_of (List.mem_append_right _ (List.mem_append_left _ (List.mem_of_getElem? (l := tables_1_2) (i := 28) (by rfl)))) rfl
theorem wd_2_29 : (Jvm.Cond.classLink "ChocolateMouldsLaw" (25 : Nat) "ChocolateMouldsLaw$Bowl") ∈ WALL := wall_of (List.mem_append_right _ (List.mem_append_left _ (List.mem_of_getElem? (l := tables_1_2) (i := 29) (by decide +kernel)))) rfl
theorem wd_2_31 : (Jvm.Cond.instantiable "ChocolateMouldsLaw$Bowl" (3 : Nat)) ∈ WALL := wall_of (List.mem_append_right _ (List.mem_append_left _ (List.mem_of_getElem? (l := tables_1_2) (i := 31) (by decide +kernel)))) rfl
theorem wd_2_33 : (Jvm.Cond.instanceMethod ({ cls := "ChocolateMouldsLaw$Bowl", name := "<init>", desc := "()V" } : Jvm.MethodName)) ∈ WALL := wall_of (List.mem_append_right _ (List.mem_append_left _ (List.mem_of_getElem? (l := tables_1_2) (i := 33) (by decide +kernel)))) rfl
theorem wd_2_34 : (Jvm.Cond.code ({ cls := "ChocolateMouldsLaw$Bowl", name := "<init>", desc := "()V" } : Jvm.MethodName) prog_7_method_1_code (1 : Nat) (Option.none : Option Jvm.ClassFile.FieldType)) ∈ WALL := wall_of (List.mem_append_right _ (List.mem_append_left _ (List.mem_of_getElem? (l := tables_1_2) (i := 34) (by rfl)))) rfl
theorem wd_2_35 : (Jvm.Cond.methodLink "ChocolateMouldsLaw$Bowl" (1 : Nat) ({ cls := "java/lang/Object", name := "<init>", desc := "()V" } : Jvm.MethodName)) ∈ WALL := wall_of (List.mem_append_right _ (List.mem_append_left _ (List.mem_of_getElem? (l := tables_1_2) (i := 35) (by decide +kernel)))) rfl
theorem wd_2_36 : (Jvm.Cond.fieldLink "ChocolateMouldsLaw" (28 : Nat) "ChocolateMouldsLaw$Bowl" "grams" "I") ∈ WALL := wall_of (List.mem_append_right _ (List.mem_append_left _ (List.mem_of_getElem? (l := tables_1_2) (i := 36) (by decide +kernel)))) rfl
theorem wd_2_37 : (Jvm.Cond.fieldLink "ChocolateMouldsLaw$Sim" (53 : Nat) "ChocolateMouldsLaw$Bowl" "grams" "I") ∈ WALL := wall_of (List.mem_append_right _ (List.mem_append_left _ (List.mem_of_getElem? (l := tables_1_2) (i := 37) (by decide +kernel)))) rfl
theorem wd_2_38 : (Jvm.Cond.fieldLink "ChocolateMouldsLaw$Bowl" (7 : Nat) "ChocolateMouldsLaw$Bowl" "warmth" "I") ∈ WALL := wall_of (List.mem_append_right _ (List.mem_append_left _ (List.mem_of_getElem? (l := tables_1_2) (i := 38) (by decide +kernel)))) rfl
theorem wd_2_39 : (Jvm.Cond.fieldLink "ChocolateMouldsLaw" (65 : Nat) "ChocolateMouldsLaw$Bowl" "warmth" "I") ∈ WALL := wall_of (List.mem_append_right _ (List.mem_append_left _ (List.mem_of_getElem? (l := tables_1_2) (i := 39) (by decide +kernel)))) rfl
theorem wd_2_40 : (Jvm.Cond.fieldLink "ChocolateMouldsLaw$Sim" (59 : Nat) "ChocolateMouldsLaw$Bowl" "warmth" "I") ∈ WALL := wall_of (List.mem_append_right _ (List.mem_append_left _ (List.mem_of_getElem? (l := tables_1_2) (i := 40) (by decide +kernel)))) rfl
theorem wd_2_41 : (Jvm.Cond.fieldLink "ChocolateMouldsLaw$Bowl" (13 : Nat) "ChocolateMouldsLaw$Bowl" "its" "[I") ∈ WALL := wall_of (List.mem_append_right _ (List.mem_append_left _ (List.mem_of_getElem? (l := tables_1_2) (i := 41) (by decide +kernel)))) rfl
theorem wd_2_42 : (Jvm.Cond.fieldLink "ChocolateMouldsLaw" (50 : Nat) "ChocolateMouldsLaw$Bowl" "its" "[I") ∈ WALL := wall_of (List.mem_append_right _ (List.mem_append_left _ (List.mem_of_getElem? (l := tables_1_2) (i := 42) (by decide +kernel)))) rfl
theorem wd_2_43 : (Jvm.Cond.fieldLink "ChocolateMouldsLaw$Sim" (56 : Nat) "ChocolateMouldsLaw$Bowl" "its" "[I") ∈ WALL := wall_of (List.mem_append_right _ (List.mem_append_left _ (List.mem_of_getElem? (l := tables_1_2) (i := 43) (by decide +kernel)))) rfl
theorem wd_2_44 : (Jvm.Cond.lays "ChocolateMouldsLaw$Bowl" "ChocolateMouldsLaw$Bowl" "grams" "I") ∈ WALL := wall_of (List.mem_append_right _ (List.mem_append_left _ (List.mem_of_getElem? (l := tables_1_2) (i := 44) (by decide +kernel)))) rfl
theorem wd_2_46 : (Jvm.Cond.lays "ChocolateMouldsLaw$Bowl" "ChocolateMouldsLaw$Bowl" "warmth" "I") ∈ WALL := wall_of (List.mem_append_right _ (List.mem_append_left _ (List.mem_of_getElem? (l := tables_1_2) (i := 46) (by decide +kernel)))) rfl
theorem wd_2_48 : (Jvm.Cond.laysFinal "ChocolateMouldsLaw$Bowl" "ChocolateMouldsLaw$Bowl" "its" "[I") ∈ WALL := wall_of (List.mem_append_right _ (List.mem_append_left _ (List.mem_of_getElem? (l := tables_1_2) (i := 48) (by decide +kernel)))) rfl
theorem wd_2_50 : (Jvm.Cond.superclass "ChocolateMouldsLaw$Bowl" "java/lang/Object") ∈ WALL := wall_of (List.mem_append_right _ (List.mem_append_left _ (List.mem_of_getElem? (l := tables_1_2) (i := 50) (by decide +kernel)))) rfl
theorem wd_2_51 : (Jvm.Cond.methodLink "ChocolateMouldsLaw" (32 : Nat) ({ cls := "ChocolateMoulds", name := "bowl", desc := "(I)I" } : Jvm.MethodName)) ∈ WALL := wall_of (List.mem_append_right _ (List.mem_append_left _ (List.mem_of_getElem? (l := tables_1_2) (i := 51) (by decide +kernel)))) rfl
theorem wd_2_52 : (Jvm.Cond.instanceMethod ({ cls := "ChocolateMoulds", name := "bowl", desc := "(I)I" } : Jvm.MethodName)) ∈ WALL := wall_of (List.mem_append_right _ (List.mem_append_left _ (List.mem_of_getElem? (l := tables_1_2) (i := 52) (by decide +kernel)))) rfl
theorem wd_2_53 : (Jvm.Cond.selects "ChocolateMoulds" ({ cls := "ChocolateMoulds", name := "bowl", desc := "(I)I" } : Jvm.MethodName) ({ cls := "ChocolateMoulds", name := "bowl", desc := "(I)I" } : Jvm.MethodName)) ∈ WALL := wall_of (List.mem_append_right _ (List.mem_append_left _ (List.mem_of_getElem? (l := tables_1_2) (i := 53) (by decide +kernel)))) rfl
theorem wd_2_54 : (Jvm.Cond.code ({ cls := "ChocolateMoulds", name := "bowl", desc := "(I)I" } : Jvm.MethodName) prog_1_method_2_code (3 : Nat) (Option.some Jvm.ClassFile.FieldType.int)) ∈ WALL := wall_of (List.mem_append_right _ (List.mem_append_left _ (List.mem_of_getElem? (l := tables_1_2) (i := 54) (by decide +kernel)))) rfl
theorem wd_2_55 : (Jvm.Cond.classLink "ChocolateMoulds" (45 : Nat) "java/lang/IllegalArgumentException") ∈ WALL := wall_of (List.mem_append_right _ (List.mem_append_left _ (List.mem_of_getElem? (l := tables_1_2) (i := 55) (by decide +kernel)))) rfl
theorem wd_2_56 : (Jvm.Cond.instantiable "java/lang/IllegalArgumentException" (6 : Nat)) ∈ WALL := wall_of (List.mem_append_right _ (List.mem_append_left _ (List.mem_of_getElem? (l := tables_1_2) (i := 56) (by decide +kernel)))) rfl
theorem wd_2_58 : (Jvm.Cond.selects "java/lang/IllegalArgumentException" ({ cls := "java/lang/Throwable", name := "fillInStackTrace", desc := "(I)Ljava/lang/Throwable;" } : Jvm.MethodName) ({ cls := "java/lang/Throwable", name := "fillInStackTrace", desc := "(I)Ljava/lang/Throwable;" } : Jvm.MethodName)) ∈ WALL := wall_of (List.mem_append_right _ (List.mem_append_left _ (List.mem_of_getElem? (l := tables_1_2) (i := 58) (by decide +kernel)))) rfl
theorem wd_2_59 : (Jvm.Cond.lays "java/lang/IllegalArgumentException" "java/lang/Throwable" "cause" "Ljava/lang/Throwable;") ∈ WALL := wall_of (List.mem_append_right _ (List.mem_append_left _ (List.mem_of_getElem? (l := tables_1_2) (i := 59) (by decide +kernel)))) rfl
theorem wd_2_60 : (Jvm.Cond.lays "java/lang/IllegalArgumentException" "java/lang/Throwable" "stackTrace" "[Ljava/lang/StackTraceElement;") ∈ WALL := wall_of (List.mem_append_right _ (List.mem_append_left _ (List.mem_of_getElem? (l := tables_1_2) (i := 60) (by decide +kernel)))) rfl
theorem wd_2_61 : (Jvm.Cond.lays "java/lang/IllegalArgumentException" "java/lang/Throwable" "suppressedExceptions" "Ljava/util/List;") ∈ WALL := wall_of (List.mem_append_right _ (List.mem_append_left _ (List.mem_of_getElem? (l := tables_1_2) (i := 61) (by decide +kernel)))) rfl
theorem wd_2_62 : (Jvm.Cond.lays "java/lang/IllegalArgumentException" "java/lang/Throwable" "detailMessage" "Ljava/lang/String;") ∈ WALL := wall_of (List.mem_append_right _ (List.mem_append_left _ (List.mem_of_getElem? (l := tables_1_2) (i := 62) (by decide +kernel)))) rfl
theorem wd_2_63 : (Jvm.Cond.lays "java/lang/IllegalArgumentException" "java/lang/Throwable" "backtrace" "Ljava/lang/Object;") ∈ WALL := wall_of (List.mem_append_right _ (List.mem_append_left _ (List.mem_of_getElem? (l := tables_1_2) (i := 63) (by decide +kernel)))) rfl
theorem wd_2_65 : (Jvm.Cond.methodLink "ChocolateMoulds" (49 : Nat) ({ cls := "java/lang/IllegalArgumentException", name := "<init>", desc := "(Ljava/lang/String;)V" } : Jvm.MethodName)) ∈ WALL := wall_of (List.mem_append_right _ (List.mem_append_left _ (List.mem_of_getElem? (l := tables_1_2) (i := 65) (by decide +kernel)))) rfl
theorem wd_2_66 : (Jvm.Cond.instanceMethod ({ cls := "java/lang/IllegalArgumentException", name := "<init>", desc := "(Ljava/lang/String;)V" } : Jvm.MethodName)) ∈ WALL := wall_of (List.mem_append_right _ (List.mem_append_left _ (List.mem_of_getElem? (l := tables_1_2) (i := 66) (by decide +kernel)))) rfl
theorem wd_2_67 : (Jvm.Cond.code ({ cls := "java/lang/IllegalArgumentException", name := "<init>", desc := "(Ljava/lang/String;)V" } : Jvm.MethodName) prog_12_method_2_code (2 : Nat) (Option.none : Option Jvm.ClassFile.FieldType)) ∈ WALL := wall_of (List.mem_append_right _ (List.mem_append_left _ (List.mem_of_getElem? (l := tables_1_2) (i := 67) (by decide +kernel)))) rfl
theorem wd_2_68 : (Jvm.Cond.methodLink "java/lang/IllegalArgumentException" (7 : Nat) ({ cls := "java/lang/RuntimeException", name := "<init>", desc := "(Ljava/lang/String;)V" } : Jvm.MethodName)) ∈ WALL := wall_of (List.mem_append_right _ (List.mem_append_left _ (List.mem_of_getElem? (l := tables_1_2) (i := 68) (by decide +kernel)))) rfl
theorem wd_2_69 : (Jvm.Cond.lays "java/lang/IllegalArgumentException" "java/lang/Throwable" "depth" "I") ∈ WALL := wall_of (List.mem_append_right _ (List.mem_append_left _ (List.mem_of_getElem? (l := tables_1_2) (i := 69) (by decide +kernel)))) rfl
theorem wd_2_70 : (Jvm.Cond.superclass "java/lang/IllegalArgumentException" "java/lang/RuntimeException") ∈ WALL := wall_of (List.mem_append_right _ (List.mem_append_left _ (List.mem_of_getElem? (l := tables_1_2) (i := 70) (by decide +kernel)))) rfl
theorem wd_2_71 : (Jvm.Cond.classLink "ChocolateMoulds" (56 : Nat) "java/lang/IllegalStateException") ∈ WALL := wall_of (List.mem_append_right _ (List.mem_append_left _ (List.mem_of_getElem? (l := tables_1_2) (i := 71) (by decide +kernel)))) rfl
theorem wd_2_72 : (Jvm.Cond.instantiable "java/lang/IllegalStateException" (6 : Nat)) ∈ WALL := wall_of (List.mem_append_right _ (List.mem_append_left _ (List.mem_of_getElem? (l := tables_1_2) (i := 72) (by decide +kernel)))) rfl
theorem wd_2_74 : (Jvm.Cond.selects "java/lang/IllegalStateException" ({ cls := "java/lang/Throwable", name := "fillInStackTrace", desc := "(I)Ljava/lang/Throwable;" } : Jvm.MethodName) ({ cls := "java/lang/Throwable", name := "fillInStackTrace", desc := "(I)Ljava/lang/Throwable;" } : Jvm.MethodName)) ∈ WALL := wall_of (List.mem_append_right _ (List.mem_append_left _ (List.mem_of_getElem? (l := tables_1_2) (i := 74) (by decide +kernel)))) rfl
theorem wd_2_75 : (Jvm.Cond.lays "java/lang/IllegalStateException" "java/lang/Throwable" "cause" "Ljava/lang/Throwable;") ∈ WALL := wall_of (List.mem_append_right _ (List.mem_append_left _ (List.mem_of_getElem? (l := tables_1_2) (i := 75) (by decide +kernel)))) rfl
theorem wd_2_76 : (Jvm.Cond.lays "java/lang/IllegalStateException" "java/lang/Throwable" "stackTrace" "[Ljava/lang/StackTraceElement;") ∈ WALL := wall_of (List.mem_append_right _ (List.mem_append_left _ (List.mem_of_getElem? (l := tables_1_2) (i := 76) (by decide +kernel)))) rfl
theorem wd_2_77 : (Jvm.Cond.lays "java/lang/IllegalStateException" "java/lang/Throwable" "suppressedExceptions" "Ljava/util/List;") ∈ WALL := wall_of (List.mem_append_right _ (List.mem_append_left _ (List.mem_of_getElem? (l := tables_1_2) (i := 77) (by decide +kernel)))) rfl
theorem wd_2_78 : (Jvm.Cond.lays "java/lang/IllegalStateException" "java/lang/Throwable" "detailMessage" "Ljava/lang/String;") ∈ WALL := wall_of (List.mem_append_right _ (List.mem_append_left _ (List.mem_of_getElem? (l := tables_1_2) (i := 78) (by decide +kernel)))) rfl
theorem wd_2_79 : (Jvm.Cond.lays "java/lang/IllegalStateException" "java/lang/Throwable" "backtrace" "Ljava/lang/Object;") ∈ WALL := wall_of (List.mem_append_right _ (List.mem_append_left _ (List.mem_of_getElem? (l := tables_1_2) (i := 79) (by decide +kernel)))) rfl
theorem wd_2_81 : (Jvm.Cond.methodLink "ChocolateMoulds" (60 : Nat) ({ cls := "java/lang/IllegalStateException", name := "<init>", desc := "(Ljava/lang/String;)V" } : Jvm.MethodName)) ∈ WALL := wall_of (List.mem_append_right _ (List.mem_append_left _ (List.mem_of_getElem? (l := tables_1_2) (i := 81) (by decide +kernel)))) rfl
theorem wd_2_82 : (Jvm.Cond.instanceMethod ({ cls := "java/lang/IllegalStateException", name := "<init>", desc := "(Ljava/lang/String;)V" } : Jvm.MethodName)) ∈ WALL := wall_of (List.mem_append_right _ (List.mem_append_left _ (List.mem_of_getElem? (l := tables_1_2) (i := 82) (by decide +kernel)))) rfl
theorem wd_2_83 : (Jvm.Cond.code ({ cls := "java/lang/IllegalStateException", name := "<init>", desc := "(Ljava/lang/String;)V" } : Jvm.MethodName) prog_13_method_2_code (2 : Nat) (Option.none : Option Jvm.ClassFile.FieldType)) ∈ WALL := wall_of (List.mem_append_right _ (List.mem_append_left _ (List.mem_of_getElem? (l := tables_1_2) (i := 83) (by decide +kernel)))) rfl
theorem wd_2_84 : (Jvm.Cond.methodLink "java/lang/IllegalStateException" (7 : Nat) ({ cls := "java/lang/RuntimeException", name := "<init>", desc := "(Ljava/lang/String;)V" } : Jvm.MethodName)) ∈ WALL := wall_of (List.mem_append_right _ (List.mem_append_left _ (List.mem_of_getElem? (l := tables_1_2) (i := 84) (by decide +kernel)))) rfl
theorem wd_2_85 : (Jvm.Cond.lays "java/lang/IllegalStateException" "java/lang/Throwable" "depth" "I") ∈ WALL := wall_of (List.mem_append_right _ (List.mem_append_left _ (List.mem_of_getElem? (l := tables_1_2) (i := 85) (by decide +kernel)))) rfl
theorem wd_2_86 : (Jvm.Cond.superclass "java/lang/IllegalStateException" "java/lang/RuntimeException") ∈ WALL := wall_of (List.mem_append_right _ (List.mem_append_left _ (List.mem_of_getElem? (l := tables_1_2) (i := 86) (by decide +kernel)))) rfl
theorem wd_2_87 : (Jvm.Cond.instantiable "ChocolateMoulds$Bowl" (3 : Nat)) ∈ WALL := wall_of (List.mem_append_right _ (List.mem_append_left _ (List.mem_of_getElem? (l := tables_1_2) (i := 87) (by decide +kernel)))) rfl
theorem wd_2_88 : (Jvm.Cond.methodLink "ChocolateMoulds" (61 : Nat) ({ cls := "ChocolateMoulds$Bowl", name := "<init>", desc := "(I)V" } : Jvm.MethodName)) ∈ WALL := wall_of (List.mem_append_right _ (List.mem_append_left _ (List.mem_of_getElem? (l := tables_1_2) (i := 88) (by decide +kernel)))) rfl
theorem wd_2_89 : (Jvm.Cond.instanceMethod ({ cls := "ChocolateMoulds$Bowl", name := "<init>", desc := "(I)V" } : Jvm.MethodName)) ∈ WALL := wall_of (List.mem_append_right _ (List.mem_append_left _ (List.mem_of_getElem? (l := tables_1_2) (i := 89) (by decide +kernel)))) rfl
theorem wd_2_90 : (Jvm.Cond.code ({ cls := "ChocolateMoulds$Bowl", name := "<init>", desc := "(I)V" } : Jvm.MethodName) prog_2_method_1_code (2 : Nat) (Option.none : Option Jvm.ClassFile.FieldType)) ∈ WALL := wall_of (List.mem_append_right _ (List.mem_append_left _ (List.mem_of_getElem? (l := tables_1_2) (i := 90) (by decide +kernel)))) rfl
theorem wd_2_91 : (Jvm.Cond.methodLink "ChocolateMoulds$Bowl" (1 : Nat) ({ cls := "java/lang/Object", name := "<init>", desc := "()V" } : Jvm.MethodName)) ∈ WALL := wall_of (List.mem_append_right _ (List.mem_append_left _ (List.mem_of_getElem? (l := tables_1_2) (i := 91) (by decide +kernel)))) rfl
theorem wd_2_92 : (Jvm.Cond.classLink "ChocolateMoulds$Bowl" (7 : Nat) "ChocolateMoulds$Crystals") ∈ WALL := wall_of (List.mem_append_right _ (List.mem_append_left _ (List.mem_of_getElem? (l := tables_1_2) (i := 92) (by decide +kernel)))) rfl
theorem wd_2_93 : (Jvm.Cond.methodLink "ChocolateMoulds$Bowl" (9 : Nat) ({ cls := "ChocolateMoulds$Crystals", name := "<init>", desc := "()V" } : Jvm.MethodName)) ∈ WALL := wall_of (List.mem_append_right _ (List.mem_append_left _ (List.mem_of_getElem? (l := tables_1_2) (i := 93) (by decide +kernel)))) rfl
theorem wd_2_94 : (Jvm.Cond.fieldLink "ChocolateMoulds$Bowl" (10 : Nat) "ChocolateMoulds$Bowl" "crystals" "LChocolateMoulds$Crystals;") ∈ WALL := wall_of (List.mem_append_right _ (List.mem_append_left _ (List.mem_of_getElem? (l := tables_1_2) (i := 94) (by decide +kernel)))) rfl
theorem wd_2_95 : (Jvm.Cond.fieldLink "ChocolateMoulds" (75 : Nat) "ChocolateMoulds$Bowl" "crystals" "LChocolateMoulds$Crystals;") ∈ WALL := wall_of (List.mem_append_right _ (List.mem_append_left _ (List.mem_of_getElem? (l := tables_1_2) (i := 95) (by decide +kernel)))) rfl
theorem wd_2_96 : (Jvm.Cond.fieldLink "ChocolateMoulds$Bowl" (16 : Nat) "ChocolateMoulds$Bowl" "grams" "I") ∈ WALL := wall_of (List.mem_append_right _ (List.mem_append_left _ (List.mem_of_getElem? (l := tables_1_2) (i := 96) (by decide +kernel)))) rfl
theorem wd_2_97 : (Jvm.Cond.fieldLink "ChocolateMoulds" (93 : Nat) "ChocolateMoulds$Bowl" "grams" "I") ∈ WALL := wall_of (List.mem_append_right _ (List.mem_append_left _ (List.mem_of_getElem? (l := tables_1_2) (i := 97) (by decide +kernel)))) rfl
theorem wd_2_98 : (Jvm.Cond.fieldLink "ChocolateMoulds$Bowl" (20 : Nat) "ChocolateMoulds$Bowl" "warmth" "I") ∈ WALL := wall_of (List.mem_append_right _ (List.mem_append_left _ (List.mem_of_getElem? (l := tables_1_2) (i := 98) (by decide +kernel)))) rfl
theorem wd_2_99 : (Jvm.Cond.fieldLink "ChocolateMoulds" (72 : Nat) "ChocolateMoulds$Bowl" "warmth" "I") ∈ WALL := wall_of (List.mem_append_right _ (List.mem_append_left _ (List.mem_of_getElem? (l := tables_1_2) (i := 99) (by decide +kernel)))) rfl
theorem wd_2_100 : (Jvm.Cond.laysFinal "ChocolateMoulds$Bowl" "ChocolateMoulds$Bowl" "crystals" "LChocolateMoulds$Crystals;") ∈ WALL := wall_of (List.mem_append_right _ (List.mem_append_left _ (List.mem_of_getElem? (l := tables_1_2) (i := 100) (by decide +kernel)))) rfl
theorem wd_2_102 : (Jvm.Cond.lays "ChocolateMoulds$Bowl" "ChocolateMoulds$Bowl" "grams" "I") ∈ WALL := wall_of (List.mem_append_right _ (List.mem_append_left _ (List.mem_of_getElem? (l := tables_1_2) (i := 102) (by decide +kernel)))) rfl
theorem wd_2_104 : (Jvm.Cond.lays "ChocolateMoulds$Bowl" "ChocolateMoulds$Bowl" "warmth" "I") ∈ WALL := wall_of (List.mem_append_right _ (List.mem_append_left _ (List.mem_of_getElem? (l := tables_1_2) (i := 104) (by decide +kernel)))) rfl
theorem wd_2_106 : (Jvm.Cond.superclass "ChocolateMoulds$Bowl" "java/lang/Object") ∈ WALL := wall_of (List.mem_append_right _ (List.mem_append_left _ (List.mem_of_getElem? (l := tables_1_2) (i := 106) (by decide +kernel)))) rfl
theorem wd_2_107 : (Jvm.Cond.methodLink "ChocolateMouldsLaw" (38 : Nat) ({ cls := "ChocolateMoulds", name := "warm", desc := "(III)I" } : Jvm.MethodName)) ∈ WALL := wall_of (List.mem_append_right _ (List.mem_append_left _ (List.mem_of_getElem? (l := tables_1_2) (i := 107) (by decide +kernel)))) rfl
theorem wd_2_108 : (Jvm.Cond.instanceMethod ({ cls := "ChocolateMoulds", name := "warm", desc := "(III)I" } : Jvm.MethodName)) ∈ WALL := wall_of (List.mem_append_right _ (List.mem_append_left _ (List.mem_of_getElem? (l := tables_1_2) (i := 108) (by decide +kernel)))) rfl
theorem wd_2_109 : (Jvm.Cond.selects "ChocolateMoulds" ({ cls := "ChocolateMoulds", name := "warm", desc := "(III)I" } : Jvm.MethodName) ({ cls := "ChocolateMoulds", name := "warm", desc := "(III)I" } : Jvm.MethodName)) ∈ WALL := wall_of (List.mem_append_right _ (List.mem_append_left _ (List.mem_of_getElem? (l := tables_1_2) (i := 109) (by decide +kernel)))) rfl
theorem wd_2_110 : (Jvm.Cond.code ({ cls := "ChocolateMoulds", name := "warm", desc := "(III)I" } : Jvm.MethodName) prog_1_method_3_code (5 : Nat) (Option.some Jvm.ClassFile.FieldType.int)) ∈ WALL := wall_of (List.mem_append_right _ (List.mem_append_left _ (List.mem_of_getElem? (l := tables_1_2) (i := 110) (by decide +kernel)))) rfl
theorem wd_2_111 : (Jvm.Cond.methodLink "ChocolateMoulds" (68 : Nat) ({ cls := "ChocolateMoulds", name := "checkWarming", desc := "(II)V" } : Jvm.MethodName)) ∈ WALL := wall_of (List.mem_append_right _ (List.mem_append_left _ (List.mem_of_getElem? (l := tables_1_2) (i := 111) (by decide +kernel)))) rfl
theorem wd_2_112 : (Jvm.Cond.static ({ cls := "ChocolateMoulds", name := "checkWarming", desc := "(II)V" } : Jvm.MethodName)) ∈ WALL := wall_of (List.mem_append_right _ (List.mem_append_left _ (List.mem_of_getElem? (l := tables_1_2) (i := 112) (by decide +kernel)))) rfl
theorem wd_2_113 : (Jvm.Cond.code ({ cls := "ChocolateMoulds", name := "checkWarming", desc := "(II)V" } : Jvm.MethodName) prog_1_method_23_code (2 : Nat) (Option.none : Option Jvm.ClassFile.FieldType)) ∈ WALL := wall_of (List.mem_append_right _ (List.mem_append_left _ (List.mem_of_getElem? (l := tables_1_2) (i := 113) (by decide +kernel)))) rfl
theorem wd_2_115 : (Jvm.Cond.methodLink "ChocolateMoulds" (78 : Nat) ({ cls := "ChocolateMoulds$Crystals", name := "keepAt", desc := "(II)V" } : Jvm.MethodName)) ∈ WALL := wall_of (List.mem_append_right _ (List.mem_append_left _ (List.mem_of_getElem? (l := tables_1_2) (i := 115) (by decide +kernel)))) rfl
theorem wd_2_116 : (Jvm.Cond.instanceMethod ({ cls := "ChocolateMoulds$Crystals", name := "keepAt", desc := "(II)V" } : Jvm.MethodName)) ∈ WALL := wall_of (List.mem_append_right _ (List.mem_append_left _ (List.mem_of_getElem? (l := tables_1_2) (i := 116) (by decide +kernel)))) rfl
theorem wd_2_117 : (Jvm.Cond.selects "ChocolateMoulds$Crystals" ({ cls := "ChocolateMoulds$Crystals", name := "keepAt", desc := "(II)V" } : Jvm.MethodName) ({ cls := "ChocolateMoulds$Crystals", name := "keepAt", desc := "(II)V" } : Jvm.MethodName)) ∈ WALL := wall_of (List.mem_append_right _ (List.mem_append_left _ (List.mem_of_getElem? (l := tables_1_2) (i := 117) (by decide +kernel)))) rfl
theorem wd_2_118 : (Jvm.Cond.code ({ cls := "ChocolateMoulds$Crystals", name := "keepAt", desc := "(II)V" } : Jvm.MethodName) prog_4_method_4_code (4 : Nat) (Option.none : Option Jvm.ClassFile.FieldType)) ∈ WALL := wall_of (List.mem_append_right _ (List.mem_append_left _ (List.mem_of_getElem? (l := tables_1_2) (i := 118) (by decide +kernel)))) rfl
theorem wd_2_119 : (Jvm.Cond.methodLink "ChocolateMoulds$Crystals" (15 : Nat) ({ cls := "ChocolateMoulds$Crystals", name := "halveWhatMelts", desc := "(I)V" } : Jvm.MethodName)) ∈ WALL := wall_of (List.mem_append_right _ (List.mem_append_left _ (List.mem_of_getElem? (l := tables_1_2) (i := 119) (by decide +kernel)))) rfl
theorem wd_2_120 : (Jvm.Cond.instanceMethod ({ cls := "ChocolateMoulds$Crystals", name := "halveWhatMelts", desc := "(I)V" } : Jvm.MethodName)) ∈ WALL := wall_of (List.mem_append_right _ (List.mem_append_left _ (List.mem_of_getElem? (l := tables_1_2) (i := 120) (by decide +kernel)))) rfl
theorem wd_2_121 : (Jvm.Cond.selects "ChocolateMoulds$Crystals" ({ cls := "ChocolateMoulds$Crystals", name := "halveWhatMelts", desc := "(I)V" } : Jvm.MethodName) ({ cls := "ChocolateMoulds$Crystals", name := "halveWhatMelts", desc := "(I)V" } : Jvm.MethodName)) ∈ WALL := wall_of (List.mem_append_right _ (List.mem_append_left _ (List.mem_of_getElem? (l := tables_1_2) (i := 121) (by decide +kernel)))) rfl
theorem wd_2_122 : (Jvm.Cond.code ({ cls := "ChocolateMoulds$Crystals", name := "halveWhatMelts", desc := "(I)V" } : Jvm.MethodName) prog_4_method_5_code (3 : Nat) (Option.none : Option Jvm.ClassFile.FieldType)) ∈ WALL := wall_of (List.mem_append_right _ (List.mem_append_left _ (List.mem_of_getElem? (l := tables_1_2) (i := 122) (by decide +kernel)))) rfl
theorem wd_2_123 : (Jvm.Cond.methodLink "ChocolateMoulds$Crystals" (22 : Nat) ({ cls := "ChocolateMoulds$Crystals", name := "meltingPoint", desc := "(I)I" } : Jvm.MethodName)) ∈ WALL := wall_of (List.mem_append_right _ (List.mem_append_left _ (List.mem_of_getElem? (l := tables_1_2) (i := 123) (by decide +kernel)))) rfl
theorem wd_2_124 : (Jvm.Cond.static ({ cls := "ChocolateMoulds$Crystals", name := "meltingPoint", desc := "(I)I" } : Jvm.MethodName)) ∈ WALL := wall_of (List.mem_append_right _ (List.mem_append_left _ (List.mem_of_getElem? (l := tables_1_2) (i := 124) (by decide +kernel)))) rfl
theorem wd_2_125 : (Jvm.Cond.code ({ cls := "ChocolateMoulds$Crystals", name := "meltingPoint", desc := "(I)I" } : Jvm.MethodName) prog_4_method_7_code (1 : Nat) (Option.some Jvm.ClassFile.FieldType.int)) ∈ WALL := wall_of (List.mem_append_right _ (List.mem_append_left _ (List.mem_of_getElem? (l := tables_1_2) (i := 125) (by decide +kernel)))) rfl
theorem wd_2_126 : (Jvm.Cond.methodLink "ChocolateMoulds$Crystals" (19 : Nat) ({ cls := "ChocolateMoulds$Crystals", name := "letGrow", desc := "(I)V" } : Jvm.MethodName)) ∈ WALL := wall_of (List.mem_append_right _ (List.mem_append_left _ (List.mem_of_getElem? (l := tables_1_2) (i := 126) (by decide +kernel)))) rfl
theorem wd_2_127 : (Jvm.Cond.instanceMethod ({ cls := "ChocolateMoulds$Crystals", name := "letGrow", desc := "(I)V" } : Jvm.MethodName)) ∈ WALL := wall_of (List.mem_append_right _ (List.mem_append_left _ (List.mem_of_getElem? (l := tables_1_2) (i := 127) (by decide +kernel)))) rfl
theorem wd_2_128 : (Jvm.Cond.selects "ChocolateMoulds$Crystals" ({ cls := "ChocolateMoulds$Crystals", name := "letGrow", desc := "(I)V" } : Jvm.MethodName) ({ cls := "ChocolateMoulds$Crystals", name := "letGrow", desc := "(I)V" } : Jvm.MethodName)) ∈ WALL := wall_of (List.mem_append_right _ (List.mem_append_left _ (List.mem_of_getElem? (l := tables_1_2) (i := 128) (by decide +kernel)))) rfl
theorem wd_2_129 : (Jvm.Cond.code ({ cls := "ChocolateMoulds$Crystals", name := "letGrow", desc := "(I)V" } : Jvm.MethodName) prog_4_method_6_code (3 : Nat) (Option.none : Option Jvm.ClassFile.FieldType)) ∈ WALL := wall_of (List.mem_append_right _ (List.mem_append_left _ (List.mem_of_getElem? (l := tables_1_2) (i := 129) (by decide +kernel)))) rfl
theorem wd_2_130 : (Jvm.Cond.methodLink "ChocolateMoulds$Crystals" (26 : Nat) ({ cls := "ChocolateMoulds$Crystals", name := "growingSort", desc := "(I)I" } : Jvm.MethodName)) ∈ WALL := wall_of (List.mem_append_right _ (List.mem_append_left _ (List.mem_of_getElem? (l := tables_1_2) (i := 130) (by decide +kernel)))) rfl
theorem wd_2_131 : (Jvm.Cond.static ({ cls := "ChocolateMoulds$Crystals", name := "growingSort", desc := "(I)I" } : Jvm.MethodName)) ∈ WALL := wall_of (List.mem_append_right _ (List.mem_append_left _ (List.mem_of_getElem? (l := tables_1_2) (i := 131) (by decide +kernel)))) rfl
theorem wd_2_132 : (Jvm.Cond.code ({ cls := "ChocolateMoulds$Crystals", name := "growingSort", desc := "(I)I" } : Jvm.MethodName) prog_4_method_8_code (2 : Nat) (Option.some Jvm.ClassFile.FieldType.int)) ∈ WALL := wall_of (List.mem_append_right _ (List.mem_append_left _ (List.mem_of_getElem? (l := tables_1_2) (i := 132) (by decide +kernel)))) rfl
theorem wd_2_133 : (Jvm.Cond.methodLink "ChocolateMoulds$Crystals" (29 : Nat) ({ cls := "ChocolateMoulds$Crystals", name := "increase", desc := "(II)V" } : Jvm.MethodName)) ∈ WALL := wall_of (List.mem_append_right _ (List.mem_append_left _ (List.mem_of_getElem? (l := tables_1_2) (i := 133) (by decide +kernel)))) rfl
theorem wd_2_134 : (Jvm.Cond.instanceMethod ({ cls := "ChocolateMoulds$Crystals", name := "increase", desc := "(II)V" } : Jvm.MethodName)) ∈ WALL := wall_of (List.mem_append_right _ (List.mem_append_left _ (List.mem_of_getElem? (l := tables_1_2) (i := 134) (by decide +kernel)))) rfl
theorem wd_2_135 : (Jvm.Cond.selects "ChocolateMoulds$Crystals" ({ cls := "ChocolateMoulds$Crystals", name := "increase", desc := "(II)V" } : Jvm.MethodName) ({ cls := "ChocolateMoulds$Crystals", name := "increase", desc := "(II)V" } : Jvm.MethodName)) ∈ WALL := wall_of (List.mem_append_right _ (List.mem_append_left _ (List.mem_of_getElem? (l := tables_1_2) (i := 135) (by decide +kernel)))) rfl
theorem wd_2_136 : (Jvm.Cond.code ({ cls := "ChocolateMoulds$Crystals", name := "increase", desc := "(II)V" } : Jvm.MethodName) prog_4_method_9_code (3 : Nat) (Option.none : Option Jvm.ClassFile.FieldType)) ∈ WALL := wall_of (List.mem_append_right _ (List.mem_append_left _ (List.mem_of_getElem? (l := tables_1_2) (i := 136) (by decide +kernel)))) rfl
theorem wd_2_137 : (Jvm.Cond.methodLink "ChocolateMoulds$Crystals" (33 : Nat) ({ cls := "ChocolateMoulds$Crystals", name := "total", desc := "()I" } : Jvm.MethodName)) ∈ WALL := wall_of (List.mem_append_right _ (List.mem_append_left _ (List.mem_of_getElem? (l := tables_1_2) (i := 137) (by decide +kernel)))) rfl
theorem wd_2_138 : (Jvm.Cond.instanceMethod ({ cls := "ChocolateMoulds$Crystals", name := "total", desc := "()I" } : Jvm.MethodName)) ∈ WALL := wall_of (List.mem_append_right _ (List.mem_append_left _ (List.mem_of_getElem? (l := tables_1_2) (i := 138) (by decide +kernel)))) rfl
theorem wd_2_139 : (Jvm.Cond.selects "ChocolateMoulds$Crystals" ({ cls := "ChocolateMoulds$Crystals", name := "total", desc := "()I" } : Jvm.MethodName) ({ cls := "ChocolateMoulds$Crystals", name := "total", desc := "()I" } : Jvm.MethodName)) ∈ WALL := wall_of (List.mem_append_right _ (List.mem_append_left _ (List.mem_of_getElem? (l := tables_1_2) (i := 139) (by decide +kernel)))) rfl
theorem wd_2_140 : (Jvm.Cond.code ({ cls := "ChocolateMoulds$Crystals", name := "total", desc := "()I" } : Jvm.MethodName) prog_4_method_10_code (3 : Nat) (Option.some Jvm.ClassFile.FieldType.int)) ∈ WALL := wall_of (List.mem_append_right _ (List.mem_append_left _ (List.mem_of_getElem? (l := tables_1_2) (i := 140) (by decide +kernel)))) rfl
theorem wd_2_141 : (Jvm.Cond.methodLink "ChocolateMouldsLaw" (42 : Nat) ({ cls := "ChocolateMouldsLaw$Bowl", name := "kept", desc := "(II)LChocolateMouldsLaw$Bowl;" } : Jvm.MethodName)) ∈ WALL := wall_of (List.mem_append_right _ (List.mem_append_left _ (List.mem_of_getElem? (l := tables_1_2) (i := 141) (by decide +kernel)))) rfl
theorem wd_2_142 : (Jvm.Cond.instanceMethod ({ cls := "ChocolateMouldsLaw$Bowl", name := "kept", desc := "(II)LChocolateMouldsLaw$Bowl;" } : Jvm.MethodName)) ∈ WALL := wall_of (List.mem_append_right _ (List.mem_append_left _ (List.mem_of_getElem? (l := tables_1_2) (i := 142) (by decide +kernel)))) rfl
theorem wd_2_143 : (Jvm.Cond.selects "ChocolateMouldsLaw$Bowl" ({ cls := "ChocolateMouldsLaw$Bowl", name := "kept", desc := "(II)LChocolateMouldsLaw$Bowl;" } : Jvm.MethodName) ({ cls := "ChocolateMouldsLaw$Bowl", name := "kept", desc := "(II)LChocolateMouldsLaw$Bowl;" } : Jvm.MethodName)) ∈ WALL := wall_of (List.mem_append_right _ (List.mem_append_left _ (List.mem_of_getElem? (l := tables_1_2) (i := 143) (by decide +kernel)))) rfl
theorem wd_2_144 : (Jvm.Cond.code ({ cls := "ChocolateMouldsLaw$Bowl", name := "kept", desc := "(II)LChocolateMouldsLaw$Bowl;" } : Jvm.MethodName) prog_7_method_5_code (7 : Nat) (Option.some (Jvm.ClassFile.FieldType.object "ChocolateMouldsLaw$Bowl"))) ∈ WALL := wall_of (List.mem_append_right _ (List.mem_append_left _ (List.mem_of_getElem? (l := tables_1_2) (i := 144) (by rfl)))) rfl
theorem wd_2_145 : (Jvm.Cond.methodLink "ChocolateMouldsLaw$Bowl" (21 : Nat) ({ cls := "ChocolateMouldsLaw$Bowl", name := "all", desc := "()I" } : Jvm.MethodName)) ∈ WALL := wall_of (List.mem_append_right _ (List.mem_append_left _ (List.mem_of_getElem? (l := tables_1_2) (i := 145) (by decide +kernel)))) rfl
theorem wd_2_146 : (Jvm.Cond.instanceMethod ({ cls := "ChocolateMouldsLaw$Bowl", name := "all", desc := "()I" } : Jvm.MethodName)) ∈ WALL := wall_of (List.mem_append_right _ (List.mem_append_left _ (List.mem_of_getElem? (l := tables_1_2) (i := 146) (by decide +kernel)))) rfl
theorem wd_2_147 : (Jvm.Cond.selects "ChocolateMouldsLaw$Bowl" ({ cls := "ChocolateMouldsLaw$Bowl", name := "all", desc := "()I" } : Jvm.MethodName) ({ cls := "ChocolateMouldsLaw$Bowl", name := "all", desc := "()I" } : Jvm.MethodName)) ∈ WALL := wall_of (List.mem_append_right _ (List.mem_append_left _ (List.mem_of_getElem? (l := tables_1_2) (i := 147) (by decide +kernel)))) rfl
theorem wd_2_148 : (Jvm.Cond.code ({ cls := "ChocolateMouldsLaw$Bowl", name := "all", desc := "()I" } : Jvm.MethodName) prog_7_method_3_code (1 : Nat) (Option.some Jvm.ClassFile.FieldType.int)) ∈ WALL := wall_of (List.mem_append_right _ (List.mem_append_left _ (List.mem_of_getElem? (l := tables_1_2) (i := 148) (by rfl)))) rfl
theorem wd_2_149 : (Jvm.Cond.methodLink "ChocolateMouldsLaw$Bowl" (25 : Nat) ({ cls := "java/lang/Math", name := "min", desc := "(II)I" } : Jvm.MethodName)) ∈ WALL := wall_of (List.mem_append_right _ (List.mem_append_left _ (List.mem_of_getElem? (l := tables_1_2) (i := 149) (by decide +kernel)))) rfl
theorem wd_2_150 : (Jvm.Cond.methodLink "ChocolateMouldsLaw$Bowl" (31 : Nat) ({ cls := "java/lang/Math", name := "max", desc := "(II)I" } : Jvm.MethodName)) ∈ WALL := wall_of (List.mem_append_right _ (List.mem_append_left _ (List.mem_of_getElem? (l := tables_1_2) (i := 150) (by decide +kernel)))) rfl
theorem wd_2_151 : (Jvm.Cond.methodLink "ChocolateMouldsLaw" (46 : Nat) ({ cls := "ChocolateMouldsLaw$Bowl", name := "temper", desc := "()I" } : Jvm.MethodName)) ∈ WALL := wall_of (List.mem_append_right _ (List.mem_append_left _ (List.mem_of_getElem? (l := tables_1_2) (i := 151) (by decide +kernel)))) rfl
theorem wd_2_152 : (Jvm.Cond.methodLink "ChocolateMouldsLaw" (54 : Nat) ({ cls := "ChocolateMouldsLaw$Bowl", name := "all", desc := "()I" } : Jvm.MethodName)) ∈ WALL := wall_of (List.mem_append_right _ (List.mem_append_left _ (List.mem_of_getElem? (l := tables_1_2) (i := 152) (by decide +kernel)))) rfl
theorem wd_2_153 : (Jvm.Cond.methodLink "ChocolateMouldsLaw" (57 : Nat) ({ cls := "java/lang/Math", name := "min", desc := "(II)I" } : Jvm.MethodName)) ∈ WALL := wall_of (List.mem_append_right _ (List.mem_append_left _ (List.mem_of_getElem? (l := tables_1_2) (i := 153) (by decide +kernel)))) rfl
theorem wd_2_154 : (Jvm.Cond.methodLink "ChocolateMouldsLaw" (62 : Nat) ({ cls := "ChocolateMoulds", name := "seed", desc := "(II)I" } : Jvm.MethodName)) ∈ WALL := wall_of (List.mem_append_right _ (List.mem_append_left _ (List.mem_of_getElem? (l := tables_1_2) (i := 154) (by decide +kernel)))) rfl
theorem wd_2_155 : (Jvm.Cond.instanceMethod ({ cls := "ChocolateMoulds", name := "seed", desc := "(II)I" } : Jvm.MethodName)) ∈ WALL := wall_of (List.mem_append_right _ (List.mem_append_left _ (List.mem_of_getElem? (l := tables_1_2) (i := 155) (by decide +kernel)))) rfl
theorem wd_2_156 : (Jvm.Cond.selects "ChocolateMoulds" ({ cls := "ChocolateMoulds", name := "seed", desc := "(II)I" } : Jvm.MethodName) ({ cls := "ChocolateMoulds", name := "seed", desc := "(II)I" } : Jvm.MethodName)) ∈ WALL := wall_of (List.mem_append_right _ (List.mem_append_left _ (List.mem_of_getElem? (l := tables_1_2) (i := 156) (by decide +kernel)))) rfl
theorem wd_2_157 : (Jvm.Cond.code ({ cls := "ChocolateMoulds", name := "seed", desc := "(II)I" } : Jvm.MethodName) prog_1_method_4_code (4 : Nat) (Option.some Jvm.ClassFile.FieldType.int)) ∈ WALL := wall_of (List.mem_append_right _ (List.mem_append_left _ (List.mem_of_getElem? (l := tables_1_2) (i := 157) (by decide +kernel)))) rfl
theorem wd_2_159 : (Jvm.Cond.methodLink "ChocolateMoulds" (87 : Nat) ({ cls := "ChocolateMoulds$Crystals", name := "increase", desc := "(II)V" } : Jvm.MethodName)) ∈ WALL := wall_of (List.mem_append_right _ (List.mem_append_left _ (List.mem_of_getElem? (l := tables_1_2) (i := 159) (by decide +kernel)))) rfl
theorem wd_2_160 : (Jvm.Cond.methodLink "ChocolateMouldsLaw" (68 : Nat) ({ cls := "ChocolateMoulds", name := "pour", desc := "(II)I" } : Jvm.MethodName)) ∈ WALL := wall_of (List.mem_append_right _ (List.mem_append_left _ (List.mem_of_getElem? (l := tables_1_2) (i := 160) (by decide +kernel)))) rfl
theorem wd_2_161 : (Jvm.Cond.instanceMethod ({ cls := "ChocolateMoulds", name := "pour", desc := "(II)I" } : Jvm.MethodName)) ∈ WALL := wall_of (List.mem_append_right _ (List.mem_append_left _ (List.mem_of_getElem? (l := tables_1_2) (i := 161) (by decide +kernel)))) rfl
theorem wd_2_162 : (Jvm.Cond.selects "ChocolateMoulds" ({ cls := "ChocolateMoulds", name := "pour", desc := "(II)I" } : Jvm.MethodName) ({ cls := "ChocolateMoulds", name := "pour", desc := "(II)I" } : Jvm.MethodName)) ∈ WALL := wall_of (List.mem_append_right _ (List.mem_append_left _ (List.mem_of_getElem? (l := tables_1_2) (i := 162) (by decide +kernel)))) rfl
theorem wd_2_163 : (Jvm.Cond.code ({ cls := "ChocolateMoulds", name := "pour", desc := "(II)I" } : Jvm.MethodName) prog_1_method_5_code (6 : Nat) (Option.some Jvm.ClassFile.FieldType.int)) ∈ WALL := wall_of (List.mem_append_right _ (List.mem_append_left _ (List.mem_of_getElem? (l := tables_1_2) (i := 163) (by decide +kernel)))) rfl
theorem wd_2_165 : (Jvm.Cond.methodLink "ChocolateMoulds" (98 : Nat) ({ cls := "ChocolateMoulds$Bowl", name := "takeIn", desc := "(LChocolateMoulds$Bowl;)V" } : Jvm.MethodName)) ∈ WALL := wall_of (List.mem_append_right _ (List.mem_append_left _ (List.mem_of_getElem? (l := tables_1_2) (i := 165) (by decide +kernel)))) rfl
theorem wd_2_166 : (Jvm.Cond.instanceMethod ({ cls := "ChocolateMoulds$Bowl", name := "takeIn", desc := "(LChocolateMoulds$Bowl;)V" } : Jvm.MethodName)) ∈ WALL := wall_of (List.mem_append_right _ (List.mem_append_left _ (List.mem_of_getElem? (l := tables_1_2) (i := 166) (by decide +kernel)))) rfl
theorem wd_2_167 : (Jvm.Cond.selects "ChocolateMoulds$Bowl" ({ cls := "ChocolateMoulds$Bowl", name := "takeIn", desc := "(LChocolateMoulds$Bowl;)V" } : Jvm.MethodName) ({ cls := "ChocolateMoulds$Bowl", name := "takeIn", desc := "(LChocolateMoulds$Bowl;)V" } : Jvm.MethodName)) ∈ WALL := wall_of (List.mem_append_right _ (List.mem_append_left _ (List.mem_of_getElem? (l := tables_1_2) (i := 167) (by decide +kernel)))) rfl
theorem wd_2_168 : (Jvm.Cond.code ({ cls := "ChocolateMoulds$Bowl", name := "takeIn", desc := "(LChocolateMoulds$Bowl;)V" } : Jvm.MethodName) prog_2_method_2_code (3 : Nat) (Option.none : Option Jvm.ClassFile.FieldType)) ∈ WALL := wall_of (List.mem_append_right _ (List.mem_append_left _ (List.mem_of_getElem? (l := tables_1_2) (i := 168) (by decide +kernel)))) rfl
theorem wd_2_169 : (Jvm.Cond.methodLink "ChocolateMoulds$Bowl" (27 : Nat) ({ cls := "ChocolateMoulds$Bowl", name := "mixed", desc := "(III)I" } : Jvm.MethodName)) ∈ WALL := wall_of (List.mem_append_right _ (List.mem_append_left _ (List.mem_of_getElem? (l := tables_1_2) (i := 169) (by decide +kernel)))) rfl
theorem wd_2_170 : (Jvm.Cond.instanceMethod ({ cls := "ChocolateMoulds$Bowl", name := "mixed", desc := "(III)I" } : Jvm.MethodName)) ∈ WALL := wall_of (List.mem_append_right _ (List.mem_append_left _ (List.mem_of_getElem? (l := tables_1_2) (i := 170) (by decide +kernel)))) rfl
theorem wd_2_171 : (Jvm.Cond.selects "ChocolateMoulds$Bowl" ({ cls := "ChocolateMoulds$Bowl", name := "mixed", desc := "(III)I" } : Jvm.MethodName) ({ cls := "ChocolateMoulds$Bowl", name := "mixed", desc := "(III)I" } : Jvm.MethodName)) ∈ WALL := wall_of (List.mem_append_right _ (List.mem_append_left _ (List.mem_of_getElem? (l := tables_1_2) (i := 171) (by decide +kernel)))) rfl
theorem wd_2_172 : (Jvm.Cond.code ({ cls := "ChocolateMoulds$Bowl", name := "mixed", desc := "(III)I" } : Jvm.MethodName) prog_2_method_3_code (5 : Nat) (Option.some Jvm.ClassFile.FieldType.int)) ∈ WALL := wall_of (List.mem_append_right _ (List.mem_append_left _ (List.mem_of_getElem? (l := tables_1_2) (i := 172) (by decide +kernel)))) rfl
theorem wd_2_173 : (Jvm.Cond.methodLink "ChocolateMoulds$Bowl" (31 : Nat) ({ cls := "ChocolateMoulds$Crystals", name := "vanish", desc := "()V" } : Jvm.MethodName)) ∈ WALL := wall_of (List.mem_append_right _ (List.mem_append_left _ (List.mem_of_getElem? (l := tables_1_2) (i := 173) (by decide +kernel)))) rfl
theorem wd_2_174 : (Jvm.Cond.instanceMethod ({ cls := "ChocolateMoulds$Crystals", name := "vanish", desc := "()V" } : Jvm.MethodName)) ∈ WALL := wall_of (List.mem_append_right _ (List.mem_append_left _ (List.mem_of_getElem? (l := tables_1_2) (i := 174) (by decide +kernel)))) rfl
theorem wd_2_175 : (Jvm.Cond.selects "ChocolateMoulds$Crystals" ({ cls := "ChocolateMoulds$Crystals", name := "vanish", desc := "()V" } : Jvm.MethodName) ({ cls := "ChocolateMoulds$Crystals", name := "vanish", desc := "()V" } : Jvm.MethodName)) ∈ WALL := wall_of (List.mem_append_right _ (List.mem_append_left _ (List.mem_of_getElem? (l := tables_1_2) (i := 175) (by decide +kernel)))) rfl
theorem wd_2_176 : (Jvm.Cond.code ({ cls := "ChocolateMoulds$Crystals", name := "vanish", desc := "()V" } : Jvm.MethodName) prog_4_method_3_code (2 : Nat) (Option.none : Option Jvm.ClassFile.FieldType)) ∈ WALL := wall_of (List.mem_append_right _ (List.mem_append_left _ (List.mem_of_getElem? (l := tables_1_2) (i := 176) (by decide +kernel)))) rfl
theorem wd_2_177 : (Jvm.Cond.methodLink "ChocolateMouldsLaw" (71 : Nat) ({ cls := "ChocolateMouldsLaw$Sim", name := "with", desc := "([[I[I)[[I" } : Jvm.MethodName)) ∈ WALL := wall_of (List.mem_append_right _ (List.mem_append_left _ (List.mem_of_getElem? (l := tables_1_2) (i := 177) (by decide +kernel)))) rfl
theorem wd_2_178 : (Jvm.Cond.static ({ cls := "ChocolateMouldsLaw$Sim", name := "with", desc := "([[I[I)[[I" } : Jvm.MethodName)) ∈ WALL := wall_of (List.mem_append_right _ (List.mem_append_left _ (List.mem_of_getElem? (l := tables_1_2) (i := 178) (by decide +kernel)))) rfl
theorem wd_2_179 : (Jvm.Cond.code ({ cls := "ChocolateMouldsLaw$Sim", name := "with", desc := "([[I[I)[[I" } : Jvm.MethodName) prog_8_method_2_code (4 : Nat) (Option.some (Jvm.ClassFile.FieldType.array (Jvm.ClassFile.FieldType.array Jvm.ClassFile.FieldType.int)))) ∈ WALL := wall_of (List.mem_append_right _ (List.mem_append_left _ (List.mem_of_getElem? (l := tables_1_2) (i := 179) (by rfl)))) rfl
theorem wd_2_180 : (Jvm.Cond.classLink "ChocolateMouldsLaw$Sim" (15 : Nat) "[I") ∈ WALL := wall_of (List.mem_append_right _ (List.mem_append_left _ (List.mem_of_getElem? (l := tables_1_2) (i := 180) (by decide +kernel)))) rfl
theorem wd_2_182 : (Jvm.Cond.methodLink "ChocolateMouldsLaw" (75 : Nat) ({ cls := "ChocolateMoulds", name := "cast", desc := "(III)I" } : Jvm.MethodName)) ∈ WALL := wall_of (List.mem_append_right _ (List.mem_append_left _ (List.mem_of_getElem? (l := tables_1_2) (i := 182) (by decide +kernel)))) rfl
theorem wd_2_183 : (Jvm.Cond.instanceMethod ({ cls := "ChocolateMoulds", name := "cast", desc := "(III)I" } : Jvm.MethodName)) ∈ WALL := wall_of (List.mem_append_right _ (List.mem_append_left _ (List.mem_of_getElem? (l := tables_1_2) (i := 183) (by decide +kernel)))) rfl
theorem wd_2_184 : (Jvm.Cond.selects "ChocolateMoulds" ({ cls := "ChocolateMoulds", name := "cast", desc := "(III)I" } : Jvm.MethodName) ({ cls := "ChocolateMoulds", name := "cast", desc := "(III)I" } : Jvm.MethodName)) ∈ WALL := wall_of (List.mem_append_right _ (List.mem_append_left _ (List.mem_of_getElem? (l := tables_1_2) (i := 184) (by decide +kernel)))) rfl
theorem wd_2_185 : (Jvm.Cond.code ({ cls := "ChocolateMoulds", name := "cast", desc := "(III)I" } : Jvm.MethodName) prog_1_method_6_code (7 : Nat) (Option.some Jvm.ClassFile.FieldType.int)) ∈ WALL := wall_of (List.mem_append_right _ (List.mem_append_left _ (List.mem_of_getElem? (l := tables_1_2) (i := 185) (by decide +kernel)))) rfl
theorem wd_2_187 : (Jvm.Cond.instantiable "ChocolateMoulds$Slab" (5 : Nat)) ∈ WALL := wall_of (List.mem_append_right _ (List.mem_append_left _ (List.mem_of_getElem? (l := tables_1_2) (i := 187) (by decide +kernel)))) rfl
theorem wd_2_188 : (Jvm.Cond.methodLink "ChocolateMoulds" (104 : Nat) ({ cls := "ChocolateMoulds$Slab", name := "<init>", desc := "(III)V" } : Jvm.MethodName)) ∈ WALL := wall_of (List.mem_append_right _ (List.mem_append_left _ (List.mem_of_getElem? (l := tables_1_2) (i := 188) (by decide +kernel)))) rfl
theorem wd_2_189 : (Jvm.Cond.instanceMethod ({ cls := "ChocolateMoulds$Slab", name := "<init>", desc := "(III)V" } : Jvm.MethodName)) ∈ WALL := wall_of (List.mem_append_right _ (List.mem_append_left _ (List.mem_of_getElem? (l := tables_1_2) (i := 189) (by decide +kernel)))) rfl
theorem wd_2_190 : (Jvm.Cond.code ({ cls := "ChocolateMoulds$Slab", name := "<init>", desc := "(III)V" } : Jvm.MethodName) prog_5_method_1_code (4 : Nat) (Option.none : Option Jvm.ClassFile.FieldType)) ∈ WALL := wall_of (List.mem_append_right _ (List.mem_append_left _ (List.mem_of_getElem? (l := tables_1_2) (i := 190) (by decide +kernel)))) rfl
theorem wd_2_191 : (Jvm.Cond.methodLink "ChocolateMoulds$Slab" (3 : Nat) ({ cls := "java/lang/Object", name := "<init>", desc := "()V" } : Jvm.MethodName)) ∈ WALL := wall_of (List.mem_append_right _ (List.mem_append_left _ (List.mem_of_getElem? (l := tables_1_2) (i := 191) (by decide +kernel)))) rfl
theorem wd_2_192 : (Jvm.Cond.fieldLink "ChocolateMoulds$Slab" (18 : Nat) "ChocolateMoulds$Slab" "temper" "I") ∈ WALL := wall_of (List.mem_append_right _ (List.mem_append_left _ (List.mem_of_getElem? (l := tables_1_2) (i := 192) (by decide +kernel)))) rfl
theorem wd_2_193 : (Jvm.Cond.fieldLink "ChocolateMoulds$Box" (29 : Nat) "ChocolateMoulds$Slab" "temper" "I") ∈ WALL := wall_of (List.mem_append_right _ (List.mem_append_left _ (List.mem_of_getElem? (l := tables_1_2) (i := 193) (by decide +kernel)))) rfl
theorem wd_2_194 : (Jvm.Cond.fieldLink "ChocolateMoulds" (183 : Nat) "ChocolateMoulds$Slab" "temper" "I") ∈ WALL := wall_of (List.mem_append_right _ (List.mem_append_left _ (List.mem_of_getElem? (l := tables_1_2) (i := 194) (by decide +kernel)))) rfl
theorem wd_2_195 : (Jvm.Cond.fieldLink "ChocolateMoulds$Slab" (9 : Nat) "ChocolateMoulds$Slab" "columns" "I") ∈ WALL := wall_of (List.mem_append_right _ (List.mem_append_left _ (List.mem_of_getElem? (l := tables_1_2) (i := 195) (by decide +kernel)))) rfl
theorem wd_2_196 : (Jvm.Cond.fieldLink "ChocolateMoulds" (128 : Nat) "ChocolateMoulds$Slab" "columns" "I") ∈ WALL := wall_of (List.mem_append_right _ (List.mem_append_left _ (List.mem_of_getElem? (l := tables_1_2) (i := 196) (by decide +kernel)))) rfl
theorem wd_2_197 : (Jvm.Cond.fieldLink "ChocolateMoulds$Slab" (15 : Nat) "ChocolateMoulds$Slab" "rows" "I") ∈ WALL := wall_of (List.mem_append_right _ (List.mem_append_left _ (List.mem_of_getElem? (l := tables_1_2) (i := 197) (by decide +kernel)))) rfl
theorem wd_2_198 : (Jvm.Cond.fieldLink "ChocolateMoulds" (125 : Nat) "ChocolateMoulds$Slab" "rows" "I") ∈ WALL := wall_of (List.mem_append_right _ (List.mem_append_left _ (List.mem_of_getElem? (l := tables_1_2) (i := 198) (by decide +kernel)))) rfl
theorem wd_2_199 : (Jvm.Cond.fieldLink "ChocolateMoulds$Box" (34 : Nat) "ChocolateMoulds$Slab" "bloom" "I") ∈ WALL := wall_of (List.mem_append_right _ (List.mem_append_left _ (List.mem_of_getElem? (l := tables_1_2) (i := 199) (by decide +kernel)))) rfl
theorem wd_2_200 : (Jvm.Cond.fieldLink "ChocolateMoulds$Slab" (25 : Nat) "ChocolateMoulds$Slab" "bloom" "I") ∈ WALL := wall_of (List.mem_append_right _ (List.mem_append_left _ (List.mem_of_getElem? (l := tables_1_2) (i := 200) (by decide +kernel)))) rfl
theorem wd_2_201 : (Jvm.Cond.fieldLink "ChocolateMoulds" (122 : Nat) "ChocolateMoulds$Slab" "bloom" "I") ∈ WALL := wall_of (List.mem_append_right _ (List.mem_append_left _ (List.mem_of_getElem? (l := tables_1_2) (i := 201) (by decide +kernel)))) rfl
theorem wd_2_202 : (Jvm.Cond.fieldLink "ChocolateMoulds$Slab" (41 : Nat) "ChocolateMoulds$Slab" "age" "I") ∈ WALL := wall_of (List.mem_append_right _ (List.mem_append_left _ (List.mem_of_getElem? (l := tables_1_2) (i := 202) (by decide +kernel)))) rfl
theorem wd_2_203 : (Jvm.Cond.fieldLink "ChocolateMoulds" (185 : Nat) "ChocolateMoulds$Slab" "age" "I") ∈ WALL := wall_of (List.mem_append_right _ (List.mem_append_left _ (List.mem_of_getElem? (l := tables_1_2) (i := 203) (by decide +kernel)))) rfl
theorem wd_2_204 : (Jvm.Cond.laysFinal "ChocolateMoulds$Slab" "ChocolateMoulds$Slab" "temper" "I") ∈ WALL := wall_of (List.mem_append_right _ (List.mem_append_left _ (List.mem_of_getElem? (l := tables_1_2) (i := 204) (by decide +kernel)))) rfl
theorem wd_2_206 : (Jvm.Cond.lays "ChocolateMoulds$Slab" "ChocolateMoulds$Slab" "columns" "I") ∈ WALL := wall_of (List.mem_append_right _ (List.mem_append_left _ (List.mem_of_getElem? (l := tables_1_2) (i := 206) (by decide +kernel)))) rfl
theorem wd_2_208 : (Jvm.Cond.lays "ChocolateMoulds$Slab" "ChocolateMoulds$Slab" "rows" "I") ∈ WALL := wall_of (List.mem_append_right _ (List.mem_append_left _ (List.mem_of_getElem? (l := tables_1_2) (i := 208) (by decide +kernel)))) rfl
theorem wd_2_210 : (Jvm.Cond.lays "ChocolateMoulds$Slab" "ChocolateMoulds$Slab" "bloom" "I") ∈ WALL := wall_of (List.mem_append_right _ (List.mem_append_left _ (List.mem_of_getElem? (l := tables_1_2) (i := 210) (by decide +kernel)))) rfl
theorem wd_2_212 : (Jvm.Cond.lays "ChocolateMoulds$Slab" "ChocolateMoulds$Slab" "age" "I") ∈ WALL := wall_of (List.mem_append_right _ (List.mem_append_left _ (List.mem_of_getElem? (l := tables_1_2) (i := 212) (by decide +kernel)))) rfl
theorem wd_2_214 : (Jvm.Cond.superclass "ChocolateMoulds$Slab" "java/lang/Object") ∈ WALL := wall_of (List.mem_append_right _ (List.mem_append_left _ (List.mem_of_getElem? (l := tables_1_2) (i := 214) (by decide +kernel)))) rfl
theorem wd_2_215 : (Jvm.Cond.methodLink "ChocolateMoulds" (107 : Nat) ({ cls := "ChocolateMoulds$Slab", name := "grams", desc := "()I" } : Jvm.MethodName)) ∈ WALL := wall_of (List.mem_append_right _ (List.mem_append_left _ (List.mem_of_getElem? (l := tables_1_2) (i := 215) (by decide +kernel)))) rfl
theorem wd_2_216 : (Jvm.Cond.instanceMethod ({ cls := "ChocolateMoulds$Slab", name := "grams", desc := "()I" } : Jvm.MethodName)) ∈ WALL := wall_of (List.mem_append_right _ (List.mem_append_left _ (List.mem_of_getElem? (l := tables_1_2) (i := 216) (by decide +kernel)))) rfl
theorem wd_2_217 : (Jvm.Cond.selects "ChocolateMoulds$Slab" ({ cls := "ChocolateMoulds$Slab", name := "grams", desc := "()I" } : Jvm.MethodName) ({ cls := "ChocolateMoulds$Slab", name := "grams", desc := "()I" } : Jvm.MethodName)) ∈ WALL := wall_of (List.mem_append_right _ (List.mem_append_left _ (List.mem_of_getElem? (l := tables_1_2) (i := 217) (by decide +kernel)))) rfl
theorem wd_2_218 : (Jvm.Cond.code ({ cls := "ChocolateMoulds$Slab", name := "grams", desc := "()I" } : Jvm.MethodName) prog_5_method_3_code (1 : Nat) (Option.some Jvm.ClassFile.FieldType.int)) ∈ WALL := wall_of (List.mem_append_right _ (List.mem_append_left _ (List.mem_of_getElem? (l := tables_1_2) (i := 218) (by decide +kernel)))) rfl
theorem wd_2_219 : (Jvm.Cond.methodLink "ChocolateMoulds$Slab" (21 : Nat) ({ cls := "ChocolateMoulds$Slab", name := "squares", desc := "()I" } : Jvm.MethodName)) ∈ WALL := wall_of (List.mem_append_right _ (List.mem_append_left _ (List.mem_of_getElem? (l := tables_1_2) (i := 219) (by decide +kernel)))) rfl
theorem wd_2_221 : (Jvm.Cond.methodLink "ChocolateMoulds" (111 : Nat) ({ cls := "ChocolateMoulds", name := "addSlab", desc := "(LChocolateMoulds$Slab;)I" } : Jvm.MethodName)) ∈ WALL := wall_of (List.mem_append_right _ (List.mem_append_left _ (List.mem_of_getElem? (l := tables_1_2) (i := 221) (by decide +kernel)))) rfl
theorem wd_2_223 : (Jvm.Cond.instanceMethod ({ cls := "ChocolateMoulds", name := "addSlab", desc := "(LChocolateMoulds$Slab;)I" } : Jvm.MethodName)) ∈ WALL := wall_of (List.mem_append_right _ (List.mem_append_left _ (List.mem_of_getElem? (l := tables_1_2) (i := 223) (by decide +kernel)))) rfl
theorem wd_2_224 : (Jvm.Cond.code ({ cls := "ChocolateMoulds", name := "addSlab", desc := "(LChocolateMoulds$Slab;)I" } : Jvm.MethodName) prog_1_method_30_code (3 : Nat) (Option.some Jvm.ClassFile.FieldType.int)) ∈ WALL := wall_of (List.mem_append_right _ (List.mem_append_left _ (List.mem_of_getElem? (l := tables_1_2) (i := 224) (by decide +kernel)))) rfl
theorem wd_2_226 : (Jvm.Cond.methodLink "ChocolateMouldsLaw" (81 : Nat) ({ cls := "ChocolateMoulds", name := "box", desc := "(II)I" } : Jvm.MethodName)) ∈ WALL := wall_of (List.mem_append_right _ (List.mem_append_left _ (List.mem_of_getElem? (l := tables_1_2) (i := 226) (by decide +kernel)))) rfl
theorem wd_2_227 : (Jvm.Cond.instanceMethod ({ cls := "ChocolateMoulds", name := "box", desc := "(II)I" } : Jvm.MethodName)) ∈ WALL := wall_of (List.mem_append_right _ (List.mem_append_left _ (List.mem_of_getElem? (l := tables_1_2) (i := 227) (by decide +kernel)))) rfl
theorem wd_2_228 : (Jvm.Cond.selects "ChocolateMoulds" ({ cls := "ChocolateMoulds", name := "box", desc := "(II)I" } : Jvm.MethodName) ({ cls := "ChocolateMoulds", name := "box", desc := "(II)I" } : Jvm.MethodName)) ∈ WALL := wall_of (List.mem_append_right _ (List.mem_append_left _ (List.mem_of_getElem? (l := tables_1_2) (i := 228) (by decide +kernel)))) rfl
theorem wd_2_229 : (Jvm.Cond.code ({ cls := "ChocolateMoulds", name := "box", desc := "(II)I" } : Jvm.MethodName) prog_1_method_10_code (4 : Nat) (Option.some Jvm.ClassFile.FieldType.int)) ∈ WALL := wall_of (List.mem_append_right _ (List.mem_append_left _ (List.mem_of_getElem? (l := tables_1_2) (i := 229) (by decide +kernel)))) rfl
theorem wd_2_232 : (Jvm.Cond.instantiable "ChocolateMoulds$Box" (5 : Nat)) ∈ WALL := wall_of (List.mem_append_right _ (List.mem_append_left _ (List.mem_of_getElem? (l := tables_1_2) (i := 232) (by decide +kernel)))) rfl
theorem wd_2_233 : (Jvm.Cond.methodLink "ChocolateMoulds" (156 : Nat) ({ cls := "ChocolateMoulds$Box", name := "<init>", desc := "(II)V" } : Jvm.MethodName)) ∈ WALL := wall_of (List.mem_append_right _ (List.mem_append_left _ (List.mem_of_getElem? (l := tables_1_2) (i := 233) (by decide +kernel)))) rfl
theorem wd_2_234 : (Jvm.Cond.instanceMethod ({ cls := "ChocolateMoulds$Box", name := "<init>", desc := "(II)V" } : Jvm.MethodName)) ∈ WALL := wall_of (List.mem_append_right _ (List.mem_append_left _ (List.mem_of_getElem? (l := tables_1_2) (i := 234) (by decide +kernel)))) rfl
theorem wd_2_235 : (Jvm.Cond.code ({ cls := "ChocolateMoulds$Box", name := "<init>", desc := "(II)V" } : Jvm.MethodName) prog_3_method_1_code (3 : Nat) (Option.none : Option Jvm.ClassFile.FieldType)) ∈ WALL := wall_of (List.mem_append_right _ (List.mem_append_left _ (List.mem_of_getElem? (l := tables_1_2) (i := 235) (by decide +kernel)))) rfl
theorem wd_2_236 : (Jvm.Cond.methodLink "ChocolateMoulds$Box" (3 : Nat) ({ cls := "java/lang/Object", name := "<init>", desc := "()V" } : Jvm.MethodName)) ∈ WALL := wall_of (List.mem_append_right _ (List.mem_append_left _ (List.mem_of_getElem? (l := tables_1_2) (i := 236) (by decide +kernel)))) rfl
theorem wd_2_237 : (Jvm.Cond.fieldLink "ChocolateMoulds$Box" (9 : Nat) "ChocolateMoulds$Box" "squares" "I") ∈ WALL := wall_of (List.mem_append_right _ (List.mem_append_left _ (List.mem_of_getElem? (l := tables_1_2) (i := 237) (by decide +kernel)))) rfl
theorem wd_2_238 : (Jvm.Cond.fieldLink "ChocolateMoulds" (198 : Nat) "ChocolateMoulds$Box" "squares" "I") ∈ WALL := wall_of (List.mem_append_right _ (List.mem_append_left _ (List.mem_of_getElem? (l := tables_1_2) (i := 238) (by decide +kernel)))) rfl
theorem wd_2_239 : (Jvm.Cond.fieldLink "ChocolateMoulds$Box" (15 : Nat) "ChocolateMoulds$Box" "temper" "I") ∈ WALL := wall_of (List.mem_append_right _ (List.mem_append_left _ (List.mem_of_getElem? (l := tables_1_2) (i := 239) (by decide +kernel)))) rfl
theorem wd_3_0 : (Jvm.Cond.fieldLink "ChocolateMoulds" (200 : Nat) "ChocolateMoulds$Box" "temper" "I") ∈ WALL := wall_of (List.mem_append_right _ (List.mem_append_right _ (List.mem_of_getElem? (l := tables_1_3) (i := 0) (by decide +kernel)))) rfl
theorem wd_3_1 : (Jvm.Cond.fieldLink "ChocolateMoulds$Box" (30 : Nat) "ChocolateMoulds$Box" "isFilled" "Z") ∈ WALL := wall_of (List.mem_append_right _ (List.mem_append_right _ (List.mem_of_getElem? (l := tables_1_3) (i := 1) (by decide +kernel)))) rfl
theorem wd_3_2 : (Jvm.Cond.fieldLink "ChocolateMoulds" (201 : Nat) "ChocolateMoulds$Box" "isFilled" "Z") ∈ WALL := wall_of (List.mem_append_right _ (List.mem_append_right _ (List.mem_of_getElem? (l := tables_1_3) (i := 2) (by decide +kernel)))) rfl
theorem wd_3_3 : (Jvm.Cond.fieldLink "ChocolateMoulds$Box" (18 : Nat) "ChocolateMoulds$Box" "slabTemper" "I") ∈ WALL := wall_of (List.mem_append_right _ (List.mem_append_right _ (List.mem_of_getElem? (l := tables_1_3) (i := 3) (by decide +kernel)))) rfl
theorem wd_3_4 : (Jvm.Cond.fieldLink "ChocolateMoulds" (205 : Nat) "ChocolateMoulds$Box" "slabTemper" "I") ∈ WALL := wall_of (List.mem_append_right _ (List.mem_append_right _ (List.mem_of_getElem? (l := tables_1_3) (i := 4) (by decide +kernel)))) rfl
theorem wd_3_5 : (Jvm.Cond.fieldLink "ChocolateMoulds$Box" (21 : Nat) "ChocolateMoulds$Box" "slabBloom" "I") ∈ WALL := wall_of (List.mem_append_right _ (List.mem_append_right _ (List.mem_of_getElem? (l := tables_1_3) (i := 5) (by decide +kernel)))) rfl
theorem wd_3_6 : (Jvm.Cond.fieldLink "ChocolateMoulds" (208 : Nat) "ChocolateMoulds$Box" "slabBloom" "I") ∈ WALL := wall_of (List.mem_append_right _ (List.mem_append_right _ (List.mem_of_getElem? (l := tables_1_3) (i := 6) (by decide +kernel)))) rfl
theorem wd_3_7 : (Jvm.Cond.laysFinal "ChocolateMoulds$Box" "ChocolateMoulds$Box" "squares" "I") ∈ WALL := wall_of (List.mem_append_right _ (List.mem_append_right _ (List.mem_of_getElem? (l := tables_1_3) (i := 7) (by decide +kernel)))) rfl
theorem wd_3_9 : (Jvm.Cond.laysFinal "ChocolateMoulds$Box" "ChocolateMoulds$Box" "temper" "I") ∈ WALL := wall_of (List.mem_append_right _ (List.mem_append_right _ (List.mem_of_getElem? (l := tables_1_3) (i := 9) (by decide +kernel)))) rfl
theorem wd_3_11 : (Jvm.Cond.lays "ChocolateMoulds$Box" "ChocolateMoulds$Box" "isFilled" "Z") ∈ WALL := wall_of (List.mem_append_right _ (List.mem_append_right _ (List.mem_of_getElem? (l := tables_1_3) (i := 11) (by decide +kernel)))) rfl
theorem wd_3_13 : (Jvm.Cond.lays "ChocolateMoulds$Box" "ChocolateMoulds$Box" "slabTemper" "I") ∈ WALL := wall_of (List.mem_append_right _ (List.mem_append_right _ (List.mem_of_getElem? (l := tables_1_3) (i := 13) (by decide +kernel)))) rfl
theorem wd_3_15 : (Jvm.Cond.lays "ChocolateMoulds$Box" "ChocolateMoulds$Box" "slabBloom" "I") ∈ WALL := wall_of (List.mem_append_right _ (List.mem_append_right _ (List.mem_of_getElem? (l := tables_1_3) (i := 15) (by decide +kernel)))) rfl
theorem wd_3_17 : (Jvm.Cond.superclass "ChocolateMoulds$Box" "java/lang/Object") ∈ WALL := wall_of (List.mem_append_right _ (List.mem_append_right _ (List.mem_of_getElem? (l := tables_1_3) (i := 17) (by decide +kernel)))) rfl
theorem wd_3_18 : (Jvm.Cond.methodLink "ChocolateMouldsLaw" (84 : Nat) ({ cls := "ChocolateMoulds", name := "fill", desc := "()I" } : Jvm.MethodName)) ∈ WALL := wall_of (List.mem_append_right _ (List.mem_append_right _ (List.mem_of_getElem? (l := tables_1_3) (i := 18) (by decide +kernel)))) rfl
theorem wd_3_19 : (Jvm.Cond.instanceMethod ({ cls := "ChocolateMoulds", name := "fill", desc := "()I" } : Jvm.MethodName)) ∈ WALL := wall_of (List.mem_append_right _ (List.mem_append_right _ (List.mem_of_getElem? (l := tables_1_3) (i := 19) (by decide +kernel)))) rfl
theorem wd_3_20 : (Jvm.Cond.selects "ChocolateMoulds" ({ cls := "ChocolateMoulds", name := "fill", desc := "()I" } : Jvm.MethodName) ({ cls := "ChocolateMoulds", name := "fill", desc := "()I" } : Jvm.MethodName)) ∈ WALL := wall_of (List.mem_append_right _ (List.mem_append_right _ (List.mem_of_getElem? (l := tables_1_3) (i := 20) (by decide +kernel)))) rfl
theorem wd_3_21 : (Jvm.Cond.code ({ cls := "ChocolateMoulds", name := "fill", desc := "()I" } : Jvm.MethodName) prog_1_method_11_code (3 : Nat) (Option.some Jvm.ClassFile.FieldType.int)) ∈ WALL := wall_of (List.mem_append_right _ (List.mem_append_right _ (List.mem_of_getElem? (l := tables_1_3) (i := 21) (by decide +kernel)))) rfl
theorem wd_3_22 : (Jvm.Cond.methodLink "ChocolateMoulds" (158 : Nat) ({ cls := "ChocolateMoulds", name := "planFilling", desc := "(I)I" } : Jvm.MethodName)) ∈ WALL := wall_of (List.mem_append_right _ (List.mem_append_right _ (List.mem_of_getElem? (l := tables_1_3) (i := 22) (by decide +kernel)))) rfl
theorem wd_3_24 : (Jvm.Cond.instanceMethod ({ cls := "ChocolateMoulds", name := "planFilling", desc := "(I)I" } : Jvm.MethodName)) ∈ WALL := wall_of (List.mem_append_right _ (List.mem_append_right _ (List.mem_of_getElem? (l := tables_1_3) (i := 24) (by decide +kernel)))) rfl
theorem wd_3_25 : (Jvm.Cond.code ({ cls := "ChocolateMoulds", name := "planFilling", desc := "(I)I" } : Jvm.MethodName) prog_1_method_37_code (5 : Nat) (Option.some Jvm.ClassFile.FieldType.int)) ∈ WALL := wall_of (List.mem_append_right _ (List.mem_append_right _ (List.mem_of_getElem? (l := tables_1_3) (i := 25) (by decide +kernel)))) rfl
theorem wd_3_26 : (Jvm.Cond.methodLink "ChocolateMoulds" (274 : Nat) ({ cls := "ChocolateMoulds", name := "planSlab", desc := "(LChocolateMoulds$Box;I)I" } : Jvm.MethodName)) ∈ WALL := wall_of (List.mem_append_right _ (List.mem_append_right _ (List.mem_of_getElem? (l := tables_1_3) (i := 26) (by decide +kernel)))) rfl
theorem wd_3_28 : (Jvm.Cond.instanceMethod ({ cls := "ChocolateMoulds", name := "planSlab", desc := "(LChocolateMoulds$Box;I)I" } : Jvm.MethodName)) ∈ WALL := wall_of (List.mem_append_right _ (List.mem_append_right _ (List.mem_of_getElem? (l := tables_1_3) (i := 28) (by decide +kernel)))) rfl
theorem wd_3_29 : (Jvm.Cond.code ({ cls := "ChocolateMoulds", name := "planSlab", desc := "(LChocolateMoulds$Box;I)I" } : Jvm.MethodName) prog_1_method_38_code (6 : Nat) (Option.some Jvm.ClassFile.FieldType.int)) ∈ WALL := wall_of (List.mem_append_right _ (List.mem_append_right _ (List.mem_of_getElem? (l := tables_1_3) (i := 29) (by decide +kernel)))) rfl
theorem wd_3_30 : (Jvm.Cond.methodLink "ChocolateMoulds" (162 : Nat) ({ cls := "ChocolateMoulds", name := "moveIntoBox", desc := "(ILChocolateMoulds$Box;)V" } : Jvm.MethodName)) ∈ WALL := wall_of (List.mem_append_right _ (List.mem_append_right _ (List.mem_of_getElem? (l := tables_1_3) (i := 30) (by decide +kernel)))) rfl
theorem wd_3_32 : (Jvm.Cond.instanceMethod ({ cls := "ChocolateMoulds", name := "moveIntoBox", desc := "(ILChocolateMoulds$Box;)V" } : Jvm.MethodName)) ∈ WALL := wall_of (List.mem_append_right _ (List.mem_append_right _ (List.mem_of_getElem? (l := tables_1_3) (i := 32) (by decide +kernel)))) rfl
theorem wd_3_33 : (Jvm.Cond.code ({ cls := "ChocolateMoulds", name := "moveIntoBox", desc := "(ILChocolateMoulds$Box;)V" } : Jvm.MethodName) prog_1_method_39_code (4 : Nat) (Option.none : Option Jvm.ClassFile.FieldType)) ∈ WALL := wall_of (List.mem_append_right _ (List.mem_append_right _ (List.mem_of_getElem? (l := tables_1_3) (i := 33) (by decide +kernel)))) rfl
theorem wd_3_34 : (Jvm.Cond.methodLink "ChocolateMoulds" (278 : Nat) ({ cls := "ChocolateMoulds$Box", name := "take", desc := "(LChocolateMoulds$Slab;)V" } : Jvm.MethodName)) ∈ WALL := wall_of (List.mem_append_right _ (List.mem_append_right _ (List.mem_of_getElem? (l := tables_1_3) (i := 34) (by decide +kernel)))) rfl
theorem wd_3_35 : (Jvm.Cond.instanceMethod ({ cls := "ChocolateMoulds$Box", name := "take", desc := "(LChocolateMoulds$Slab;)V" } : Jvm.MethodName)) ∈ WALL := wall_of (List.mem_append_right _ (List.mem_append_right _ (List.mem_of_getElem? (l := tables_1_3) (i := 35) (by decide +kernel)))) rfl
theorem wd_3_36 : (Jvm.Cond.selects "ChocolateMoulds$Box" ({ cls := "ChocolateMoulds$Box", name := "take", desc := "(LChocolateMoulds$Slab;)V" } : Jvm.MethodName) ({ cls := "ChocolateMoulds$Box", name := "take", desc := "(LChocolateMoulds$Slab;)V" } : Jvm.MethodName)) ∈ WALL := wall_of (List.mem_append_right _ (List.mem_append_right _ (List.mem_of_getElem? (l := tables_1_3) (i := 36) (by decide +kernel)))) rfl
theorem wd_3_37 : (Jvm.Cond.code ({ cls := "ChocolateMoulds$Box", name := "take", desc := "(LChocolateMoulds$Slab;)V" } : Jvm.MethodName) prog_3_method_3_code (2 : Nat) (Option.none : Option Jvm.ClassFile.FieldType)) ∈ WALL := wall_of (List.mem_append_right _ (List.mem_append_right _ (List.mem_of_getElem? (l := tables_1_3) (i := 37) (by decide +kernel)))) rfl
theorem wd_3_38 : (Jvm.Cond.methodLink "ChocolateMoulds" (146 : Nat) ({ cls := "ChocolateMoulds", name := "closeGaps", desc := "()V" } : Jvm.MethodName)) ∈ WALL := wall_of (List.mem_append_right _ (List.mem_append_right _ (List.mem_of_getElem? (l := tables_1_3) (i := 38) (by decide +kernel)))) rfl
theorem wd_3_40 : (Jvm.Cond.instanceMethod ({ cls := "ChocolateMoulds", name := "closeGaps", desc := "()V" } : Jvm.MethodName)) ∈ WALL := wall_of (List.mem_append_right _ (List.mem_append_right _ (List.mem_of_getElem? (l := tables_1_3) (i := 40) (by decide +kernel)))) rfl
theorem wd_3_41 : (Jvm.Cond.code ({ cls := "ChocolateMoulds", name := "closeGaps", desc := "()V" } : Jvm.MethodName) prog_1_method_31_code (4 : Nat) (Option.none : Option Jvm.ClassFile.FieldType)) ∈ WALL := wall_of (List.mem_append_right _ (List.mem_append_right _ (List.mem_of_getElem? (l := tables_1_3) (i := 41) (by decide +kernel)))) rfl
theorem wd_3_42 : (Jvm.Cond.methodLink "ChocolateMouldsLaw" (87 : Nat) ({ cls := "ChocolateMouldsLaw$Sim", name := "fill", desc := "()I" } : Jvm.MethodName)) ∈ WALL := wall_of (List.mem_append_right _ (List.mem_append_right _ (List.mem_of_getElem? (l := tables_1_3) (i := 42) (by decide +kernel)))) rfl
theorem wd_3_43 : (Jvm.Cond.instanceMethod ({ cls := "ChocolateMouldsLaw$Sim", name := "fill", desc := "()I" } : Jvm.MethodName)) ∈ WALL := wall_of (List.mem_append_right _ (List.mem_append_right _ (List.mem_of_getElem? (l := tables_1_3) (i := 43) (by decide +kernel)))) rfl
theorem wd_3_44 : (Jvm.Cond.selects "ChocolateMouldsLaw$Sim" ({ cls := "ChocolateMouldsLaw$Sim", name := "fill", desc := "()I" } : Jvm.MethodName) ({ cls := "ChocolateMouldsLaw$Sim", name := "fill", desc := "()I" } : Jvm.MethodName)) ∈ WALL := wall_of (List.mem_append_right _ (List.mem_append_right _ (List.mem_of_getElem? (l := tables_1_3) (i := 44) (by decide +kernel)))) rfl
theorem wd_3_45 : (Jvm.Cond.code ({ cls := "ChocolateMouldsLaw$Sim", name := "fill", desc := "()I" } : Jvm.MethodName) prog_8_method_5_code (7 : Nat) (Option.some Jvm.ClassFile.FieldType.int)) ∈ WALL := wall_of (List.mem_append_right _ (List.mem_append_right _ (List.mem_of_getElem? (l := tables_1_3) (i := 45) (by rfl)))) rfl
theorem wd_3_46 : (Jvm.Cond.methodLink "ChocolateMouldsLaw$Sim" (28 : Nat) ({ cls := "ChocolateMouldsLaw$Sim", name := "without", desc := "([[II)[[I" } : Jvm.MethodName)) ∈ WALL := wall_of (List.mem_append_right _ (List.mem_append_right _ (List.mem_of_getElem? (l := tables_1_3) (i := 46) (by decide +kernel)))) rfl
theorem wd_3_47 : (Jvm.Cond.static ({ cls := "ChocolateMouldsLaw$Sim", name := "without", desc := "([[II)[[I" } : Jvm.MethodName)) ∈ WALL := wall_of (List.mem_append_right _ (List.mem_append_right _ (List.mem_of_getElem? (l := tables_1_3) (i := 47) (by decide +kernel)))) rfl
theorem wd_3_48 : (Jvm.Cond.code ({ cls := "ChocolateMouldsLaw$Sim", name := "without", desc := "([[II)[[I" } : Jvm.MethodName) prog_8_method_3_code (4 : Nat) (Option.some (Jvm.ClassFile.FieldType.array (Jvm.ClassFile.FieldType.array Jvm.ClassFile.FieldType.int)))) ∈ WALL := wall_of (List.mem_append_right _ (List.mem_append_right _ (List.mem_of_getElem? (l := tables_1_3) (i := 48) (by rfl)))) rfl
theorem wd_3_49 : (Jvm.Cond.methodLink "ChocolateMouldsLaw" (88 : Nat) ({ cls := "ChocolateMouldsLaw$Sim", name := "pass", desc := "(I)V" } : Jvm.MethodName)) ∈ WALL := wall_of (List.mem_append_right _ (List.mem_append_right _ (List.mem_of_getElem? (l := tables_1_3) (i := 49) (by decide +kernel)))) rfl
theorem wd_3_50 : (Jvm.Cond.instanceMethod ({ cls := "ChocolateMouldsLaw$Sim", name := "pass", desc := "(I)V" } : Jvm.MethodName)) ∈ WALL := wall_of (List.mem_append_right _ (List.mem_append_right _ (List.mem_of_getElem? (l := tables_1_3) (i := 50) (by decide +kernel)))) rfl
theorem wd_3_51 : (Jvm.Cond.selects "ChocolateMouldsLaw$Sim" ({ cls := "ChocolateMouldsLaw$Sim", name := "pass", desc := "(I)V" } : Jvm.MethodName) ({ cls := "ChocolateMouldsLaw$Sim", name := "pass", desc := "(I)V" } : Jvm.MethodName)) ∈ WALL := wall_of (List.mem_append_right _ (List.mem_append_right _ (List.mem_of_getElem? (l := tables_1_3) (i := 51) (by decide +kernel)))) rfl
theorem wd_3_52 : (Jvm.Cond.code ({ cls := "ChocolateMouldsLaw$Sim", name := "pass", desc := "(I)V" } : Jvm.MethodName) prog_8_method_7_code (7 : Nat) (Option.none : Option Jvm.ClassFile.FieldType)) ∈ WALL := wall_of (List.mem_append_right _ (List.mem_append_right _ (List.mem_of_getElem? (l := tables_1_3) (i := 52) (by rfl)))) rfl
theorem wd_3_53 : (Jvm.Cond.methodLink "ChocolateMouldsLaw" (92 : Nat) ({ cls := "ChocolateMoulds", name := "pass", desc := "(II)I" } : Jvm.MethodName)) ∈ WALL := wall_of (List.mem_append_right _ (List.mem_append_right _ (List.mem_of_getElem? (l := tables_1_3) (i := 53) (by decide +kernel)))) rfl
theorem wd_3_54 : (Jvm.Cond.instanceMethod ({ cls := "ChocolateMoulds", name := "pass", desc := "(II)I" } : Jvm.MethodName)) ∈ WALL := wall_of (List.mem_append_right _ (List.mem_append_right _ (List.mem_of_getElem? (l := tables_1_3) (i := 54) (by decide +kernel)))) rfl
theorem wd_3_55 : (Jvm.Cond.selects "ChocolateMoulds" ({ cls := "ChocolateMoulds", name := "pass", desc := "(II)I" } : Jvm.MethodName) ({ cls := "ChocolateMoulds", name := "pass", desc := "(II)I" } : Jvm.MethodName)) ∈ WALL := wall_of (List.mem_append_right _ (List.mem_append_right _ (List.mem_of_getElem? (l := tables_1_3) (i := 55) (by decide +kernel)))) rfl
theorem wd_3_56 : (Jvm.Cond.code ({ cls := "ChocolateMoulds", name := "pass", desc := "(II)I" } : Jvm.MethodName) prog_1_method_12_code (7 : Nat) (Option.some Jvm.ClassFile.FieldType.int)) ∈ WALL := wall_of (List.mem_append_right _ (List.mem_append_right _ (List.mem_of_getElem? (l := tables_1_3) (i := 56) (by decide +kernel)))) rfl
theorem wd_3_57 : (Jvm.Cond.methodLink "ChocolateMoulds" (166 : Nat) ({ cls := "ChocolateMoulds", name := "checkRoom", desc := "(I)V" } : Jvm.MethodName)) ∈ WALL := wall_of (List.mem_append_right _ (List.mem_append_right _ (List.mem_of_getElem? (l := tables_1_3) (i := 57) (by decide +kernel)))) rfl
theorem wd_3_58 : (Jvm.Cond.static ({ cls := "ChocolateMoulds", name := "checkRoom", desc := "(I)V" } : Jvm.MethodName)) ∈ WALL := wall_of (List.mem_append_right _ (List.mem_append_right _ (List.mem_of_getElem? (l := tables_1_3) (i := 58) (by decide +kernel)))) rfl
theorem wd_3_59 : (Jvm.Cond.code ({ cls := "ChocolateMoulds", name := "checkRoom", desc := "(I)V" } : Jvm.MethodName) prog_1_method_24_code (1 : Nat) (Option.none : Option Jvm.ClassFile.FieldType)) ∈ WALL := wall_of (List.mem_append_right _ (List.mem_append_right _ (List.mem_of_getElem? (l := tables_1_3) (i := 59) (by decide +kernel)))) rfl
theorem wd_3_62 : (Jvm.Cond.methodLink "ChocolateMoulds" (171 : Nat) ({ cls := "ChocolateMoulds$Slab", name := "standFor", desc := "(II)V" } : Jvm.MethodName)) ∈ WALL := wall_of (List.mem_append_right _ (List.mem_append_right _ (List.mem_of_getElem? (l := tables_1_3) (i := 62) (by decide +kernel)))) rfl
theorem wd_3_63 : (Jvm.Cond.instanceMethod ({ cls := "ChocolateMoulds$Slab", name := "standFor", desc := "(II)V" } : Jvm.MethodName)) ∈ WALL := wall_of (List.mem_append_right _ (List.mem_append_right _ (List.mem_of_getElem? (l := tables_1_3) (i := 63) (by decide +kernel)))) rfl
theorem wd_3_64 : (Jvm.Cond.selects "ChocolateMoulds$Slab" ({ cls := "ChocolateMoulds$Slab", name := "standFor", desc := "(II)V" } : Jvm.MethodName) ({ cls := "ChocolateMoulds$Slab", name := "standFor", desc := "(II)V" } : Jvm.MethodName)) ∈ WALL := wall_of (List.mem_append_right _ (List.mem_append_right _ (List.mem_of_getElem? (l := tables_1_3) (i := 64) (by decide +kernel)))) rfl
theorem wd_3_65 : (Jvm.Cond.code ({ cls := "ChocolateMoulds$Slab", name := "standFor", desc := "(II)V" } : Jvm.MethodName) prog_5_method_7_code (3 : Nat) (Option.none : Option Jvm.ClassFile.FieldType)) ∈ WALL := wall_of (List.mem_append_right _ (List.mem_append_right _ (List.mem_of_getElem? (l := tables_1_3) (i := 65) (by decide +kernel)))) rfl
theorem wd_3_66 : (Jvm.Cond.methodLink "ChocolateMoulds$Slab" (34 : Nat) ({ cls := "ChocolateMoulds$Slab", name := "bloomOfADay", desc := "(I)I" } : Jvm.MethodName)) ∈ WALL := wall_of (List.mem_append_right _ (List.mem_append_right _ (List.mem_of_getElem? (l := tables_1_3) (i := 66) (by decide +kernel)))) rfl
theorem wd_3_67 : (Jvm.Cond.instanceMethod ({ cls := "ChocolateMoulds$Slab", name := "bloomOfADay", desc := "(I)I" } : Jvm.MethodName)) ∈ WALL := wall_of (List.mem_append_right _ (List.mem_append_right _ (List.mem_of_getElem? (l := tables_1_3) (i := 67) (by decide +kernel)))) rfl
theorem wd_3_68 : (Jvm.Cond.selects "ChocolateMoulds$Slab" ({ cls := "ChocolateMoulds$Slab", name := "bloomOfADay", desc := "(I)I" } : Jvm.MethodName) ({ cls := "ChocolateMoulds$Slab", name := "bloomOfADay", desc := "(I)I" } : Jvm.MethodName)) ∈ WALL := wall_of (List.mem_append_right _ (List.mem_append_right _ (List.mem_of_getElem? (l := tables_1_3) (i := 68) (by decide +kernel)))) rfl
theorem wd_3_69 : (Jvm.Cond.code ({ cls := "ChocolateMoulds$Slab", name := "bloomOfADay", desc := "(I)I" } : Jvm.MethodName) prog_5_method_6_code (2 : Nat) (Option.some Jvm.ClassFile.FieldType.int)) ∈ WALL := wall_of (List.mem_append_right _ (List.mem_append_right _ (List.mem_of_getElem? (l := tables_1_3) (i := 69) (by decide +kernel)))) rfl
theorem wd_3_70 : (Jvm.Cond.methodLink "ChocolateMoulds$Slab" (38 : Nat) ({ cls := "java/lang/Math", name := "min", desc := "(II)I" } : Jvm.MethodName)) ∈ WALL := wall_of (List.mem_append_right _ (List.mem_append_right _ (List.mem_of_getElem? (l := tables_1_3) (i := 70) (by decide +kernel)))) rfl
theorem wd_3_71 : (Jvm.Cond.methodLink "ChocolateMouldsLaw" (94 : Nat) ({ cls := "ChocolateMouldsLaw$Sim", name := "bloomed", desc := "()I" } : Jvm.MethodName)) ∈ WALL := wall_of (List.mem_append_right _ (List.mem_append_right _ (List.mem_of_getElem? (l := tables_1_3) (i := 71) (by decide +kernel)))) rfl
theorem wd_3_72 : (Jvm.Cond.methodLink "ChocolateMouldsLaw" (100 : Nat) ({ cls := "ChocolateMouldsLaw$Sim", name := "without", desc := "([[II)[[I" } : Jvm.MethodName)) ∈ WALL := wall_of (List.mem_append_right _ (List.mem_append_right _ (List.mem_of_getElem? (l := tables_1_3) (i := 72) (by decide +kernel)))) rfl
theorem wd_3_73 : (Jvm.Cond.methodLink "ChocolateMouldsLaw" (104 : Nat) ({ cls := "ChocolateMoulds", name := "melt", desc := "(II)I" } : Jvm.MethodName)) ∈ WALL := wall_of (List.mem_append_right _ (List.mem_append_right _ (List.mem_of_getElem? (l := tables_1_3) (i := 73) (by decide +kernel)))) rfl
theorem wd_3_74 : (Jvm.Cond.instanceMethod ({ cls := "ChocolateMoulds", name := "melt", desc := "(II)I" } : Jvm.MethodName)) ∈ WALL := wall_of (List.mem_append_right _ (List.mem_append_right _ (List.mem_of_getElem? (l := tables_1_3) (i := 74) (by decide +kernel)))) rfl
theorem wd_3_75 : (Jvm.Cond.selects "ChocolateMoulds" ({ cls := "ChocolateMoulds", name := "melt", desc := "(II)I" } : Jvm.MethodName) ({ cls := "ChocolateMoulds", name := "melt", desc := "(II)I" } : Jvm.MethodName)) ∈ WALL := wall_of (List.mem_append_right _ (List.mem_append_right _ (List.mem_of_getElem? (l := tables_1_3) (i := 75) (by decide +kernel)))) rfl
theorem wd_3_76 : (Jvm.Cond.code ({ cls := "ChocolateMoulds", name := "melt", desc := "(II)I" } : Jvm.MethodName) prog_1_method_9_code (5 : Nat) (Option.some Jvm.ClassFile.FieldType.int)) ∈ WALL := wall_of (List.mem_append_right _ (List.mem_append_right _ (List.mem_of_getElem? (l := tables_1_3) (i := 76) (by decide +kernel)))) rfl
theorem wd_3_78 : (Jvm.Cond.methodLink "ChocolateMouldsLaw" (107 : Nat) ({ cls := "[I", name := "clone", desc := "()Ljava/lang/Object;" } : Jvm.MethodName)) ∈ WALL := wall_of (List.mem_append_right _ (List.mem_append_right _ (List.mem_of_getElem? (l := tables_1_3) (i := 78) (by decide +kernel)))) rfl
theorem wd_3_79 : (Jvm.Cond.sameMethod "[I" "java/lang/Object" "clone" "()Ljava/lang/Object;") ∈ WALL := wall_of (List.mem_append_right _ (List.mem_append_right _ (List.mem_of_getElem? (l := tables_1_3) (i := 79) (by decide +kernel)))) rfl
theorem wd_3_80 : (Jvm.Cond.native ({ cls := "java/lang/Object", name := "clone", desc := "()Ljava/lang/Object;" } : Jvm.MethodName)) ∈ WALL := wall_of (List.mem_append_right _ (List.mem_append_right _ (List.mem_of_getElem? (l := tables_1_3) (i := 80) (by decide +kernel)))) rfl
theorem wd_3_81 : (Jvm.Cond.instanceMethod ({ cls := "java/lang/Object", name := "clone", desc := "()Ljava/lang/Object;" } : Jvm.MethodName)) ∈ WALL := wall_of (List.mem_append_right _ (List.mem_append_right _ (List.mem_of_getElem? (l := tables_1_3) (i := 81) (by decide +kernel)))) rfl
theorem wd_3_82 : (Jvm.Cond.selects "[I" ({ cls := "[I", name := "clone", desc := "()Ljava/lang/Object;" } : Jvm.MethodName) ({ cls := "java/lang/Object", name := "clone", desc := "()Ljava/lang/Object;" } : Jvm.MethodName)) ∈ WALL := wall_of (List.mem_append_right _ (List.mem_append_right _ (List.mem_of_getElem? (l := tables_1_3) (i := 82) (by decide +kernel)))) rfl
theorem wd_3_84 : (Jvm.Cond.classLink "ChocolateMouldsLaw" (108 : Nat) "[I") ∈ WALL := wall_of (List.mem_append_right _ (List.mem_append_right _ (List.mem_of_getElem? (l := tables_1_3) (i := 84) (by decide +kernel)))) rfl
theorem wd_3_85 : (Jvm.Cond.methodLink "ChocolateMouldsLaw" (112 : Nat) ({ cls := "ChocolateMoulds", name := "split", desc := "(IIZ)I" } : Jvm.MethodName)) ∈ WALL := wall_of (List.mem_append_right _ (List.mem_append_right _ (List.mem_of_getElem? (l := tables_1_3) (i := 85) (by decide +kernel)))) rfl
theorem wd_3_86 : (Jvm.Cond.instanceMethod ({ cls := "ChocolateMoulds", name := "split", desc := "(IIZ)I" } : Jvm.MethodName)) ∈ WALL := wall_of (List.mem_append_right _ (List.mem_append_right _ (List.mem_of_getElem? (l := tables_1_3) (i := 86) (by decide +kernel)))) rfl
theorem wd_3_87 : (Jvm.Cond.selects "ChocolateMoulds" ({ cls := "ChocolateMoulds", name := "split", desc := "(IIZ)I" } : Jvm.MethodName) ({ cls := "ChocolateMoulds", name := "split", desc := "(IIZ)I" } : Jvm.MethodName)) ∈ WALL := wall_of (List.mem_append_right _ (List.mem_append_right _ (List.mem_of_getElem? (l := tables_1_3) (i := 87) (by decide +kernel)))) rfl
theorem wd_3_88 : (Jvm.Cond.code ({ cls := "ChocolateMoulds", name := "split", desc := "(IIZ)I" } : Jvm.MethodName) prog_1_method_8_code (7 : Nat) (Option.some Jvm.ClassFile.FieldType.int)) ∈ WALL := wall_of (List.mem_append_right _ (List.mem_append_right _ (List.mem_of_getElem? (l := tables_1_3) (i := 88) (by decide +kernel)))) rfl
theorem wd_3_90 : (Jvm.Cond.methodLink "ChocolateMoulds" (136 : Nat) ({ cls := "ChocolateMoulds$Slab", name := "partBehind", desc := "(IZ)LChocolateMoulds$Slab;" } : Jvm.MethodName)) ∈ WALL := wall_of (List.mem_append_right _ (List.mem_append_right _ (List.mem_of_getElem? (l := tables_1_3) (i := 90) (by decide +kernel)))) rfl
theorem wd_3_91 : (Jvm.Cond.instanceMethod ({ cls := "ChocolateMoulds$Slab", name := "partBehind", desc := "(IZ)LChocolateMoulds$Slab;" } : Jvm.MethodName)) ∈ WALL := wall_of (List.mem_append_right _ (List.mem_append_right _ (List.mem_of_getElem? (l := tables_1_3) (i := 91) (by decide +kernel)))) rfl
theorem wd_3_92 : (Jvm.Cond.selects "ChocolateMoulds$Slab" ({ cls := "ChocolateMoulds$Slab", name := "partBehind", desc := "(IZ)LChocolateMoulds$Slab;" } : Jvm.MethodName) ({ cls := "ChocolateMoulds$Slab", name := "partBehind", desc := "(IZ)LChocolateMoulds$Slab;" } : Jvm.MethodName)) ∈ WALL := wall_of (List.mem_append_right _ (List.mem_append_right _ (List.mem_of_getElem? (l := tables_1_3) (i := 92) (by decide +kernel)))) rfl
theorem wd_3_93 : (Jvm.Cond.code ({ cls := "ChocolateMoulds$Slab", name := "partBehind", desc := "(IZ)LChocolateMoulds$Slab;" } : Jvm.MethodName) prog_5_method_8_code (4 : Nat) (Option.some (Jvm.ClassFile.FieldType.object "ChocolateMoulds$Slab"))) ∈ WALL := wall_of (List.mem_append_right _ (List.mem_append_right _ (List.mem_of_getElem? (l := tables_1_3) (i := 93) (by decide +kernel)))) rfl
theorem wd_3_94 : (Jvm.Cond.classLink "ChocolateMoulds$Slab" (10 : Nat) "ChocolateMoulds$Slab") ∈ WALL := wall_of (List.mem_append_right _ (List.mem_append_right _ (List.mem_of_getElem? (l := tables_1_3) (i := 94) (by decide +kernel)))) rfl
theorem wd_3_95 : (Jvm.Cond.methodLink "ChocolateMoulds$Slab" (44 : Nat) ({ cls := "ChocolateMoulds$Slab", name := "<init>", desc := "(III)V" } : Jvm.MethodName)) ∈ WALL := wall_of (List.mem_append_right _ (List.mem_append_right _ (List.mem_of_getElem? (l := tables_1_3) (i := 95) (by decide +kernel)))) rfl
theorem wd_3_96 : (Jvm.Cond.methodLink "ChocolateMoulds" (140 : Nat) ({ cls := "ChocolateMoulds$Slab", name := "cutDownTo", desc := "(IZ)V" } : Jvm.MethodName)) ∈ WALL := wall_of (List.mem_append_right _ (List.mem_append_right _ (List.mem_of_getElem? (l := tables_1_3) (i := 96) (by decide +kernel)))) rfl
theorem wd_3_97 : (Jvm.Cond.instanceMethod ({ cls := "ChocolateMoulds$Slab", name := "cutDownTo", desc := "(IZ)V" } : Jvm.MethodName)) ∈ WALL := wall_of (List.mem_append_right _ (List.mem_append_right _ (List.mem_of_getElem? (l := tables_1_3) (i := 97) (by decide +kernel)))) rfl
theorem wd_3_98 : (Jvm.Cond.selects "ChocolateMoulds$Slab" ({ cls := "ChocolateMoulds$Slab", name := "cutDownTo", desc := "(IZ)V" } : Jvm.MethodName) ({ cls := "ChocolateMoulds$Slab", name := "cutDownTo", desc := "(IZ)V" } : Jvm.MethodName)) ∈ WALL := wall_of (List.mem_append_right _ (List.mem_append_right _ (List.mem_of_getElem? (l := tables_1_3) (i := 98) (by decide +kernel)))) rfl
theorem wd_3_99 : (Jvm.Cond.code ({ cls := "ChocolateMoulds$Slab", name := "cutDownTo", desc := "(IZ)V" } : Jvm.MethodName) prog_5_method_9_code (3 : Nat) (Option.none : Option Jvm.ClassFile.FieldType)) ∈ WALL := wall_of (List.mem_append_right _ (List.mem_append_right _ (List.mem_of_getElem? (l := tables_1_3) (i := 99) (by decide +kernel)))) rfl
theorem wd_3_100 : (Jvm.Cond.methodLink "ChocolateMouldsLaw" (126 : Nat) ({ cls := "ChocolateMouldsLaw", name := "build", desc := "(LChocolateMoulds;[I)LChocolateMouldsLaw$Sim;" } : Jvm.MethodName)) ∈ WALL := wall_of (List.mem_append_right _ (List.mem_append_right _ (List.mem_of_getElem? (l := tables_1_3) (i := 100) (by decide +kernel)))) rfl
theorem wd_3_101 : (Jvm.Cond.static ({ cls := "ChocolateMouldsLaw", name := "build", desc := "(LChocolateMoulds;[I)LChocolateMouldsLaw$Sim;" } : Jvm.MethodName)) ∈ WALL := wall_of (List.mem_append_right _ (List.mem_append_right _ (List.mem_of_getElem? (l := tables_1_3) (i := 101) (by decide +kernel)))) rfl
theorem wd_3_102 : (Jvm.Cond.code ({ cls := "ChocolateMouldsLaw", name := "build", desc := "(LChocolateMoulds;[I)LChocolateMouldsLaw$Sim;" } : Jvm.MethodName) method_5_code (5 : Nat) (Option.some (Jvm.ClassFile.FieldType.object "ChocolateMouldsLaw$Sim"))) ∈ WALL := wall_of (List.mem_append_right _ (List.mem_append_right _ (List.mem_of_getElem? (l := tables_1_3) (i := 102) (by rfl)))) rfl
theorem wd_3_103 : (Jvm.Cond.classLink "ChocolateMouldsLaw" (10 : Nat) "ChocolateMouldsLaw$Sim") ∈ WALL := wall_of (List.mem_append_right _ (List.mem_append_right _ (List.mem_of_getElem? (l := tables_1_3) (i := 103) (by decide +kernel)))) rfl
theorem wd_3_104 : (Jvm.Cond.instantiable "ChocolateMouldsLaw$Sim" (4 : Nat)) ∈ WALL := wall_of (List.mem_append_right _ (List.mem_append_right _ (List.mem_of_getElem? (l := tables_1_3) (i := 104) (by decide +kernel)))) rfl
theorem wd_3_106 : (Jvm.Cond.instanceMethod ({ cls := "ChocolateMouldsLaw$Sim", name := "<init>", desc := "()V" } : Jvm.MethodName)) ∈ WALL := wall_of (List.mem_append_right _ (List.mem_append_right _ (List.mem_of_getElem? (l := tables_1_3) (i := 106) (by decide +kernel)))) rfl
theorem wd_3_107 : (Jvm.Cond.code ({ cls := "ChocolateMouldsLaw$Sim", name := "<init>", desc := "()V" } : Jvm.MethodName) prog_8_method_1_code (1 : Nat) (Option.none : Option Jvm.ClassFile.FieldType)) ∈ WALL := wall_of (List.mem_append_right _ (List.mem_append_right _ (List.mem_of_getElem? (l := tables_1_3) (i := 107) (by rfl)))) rfl
theorem wd_3_108 : (Jvm.Cond.methodLink "ChocolateMouldsLaw$Sim" (1 : Nat) ({ cls := "java/lang/Object", name := "<init>", desc := "()V" } : Jvm.MethodName)) ∈ WALL := wall_of (List.mem_append_right _ (List.mem_append_right _ (List.mem_of_getElem? (l := tables_1_3) (i := 108) (by decide +kernel)))) rfl
theorem wd_3_109 : (Jvm.Cond.classLink "ChocolateMouldsLaw$Sim" (7 : Nat) "ChocolateMouldsLaw$Bowl") ∈ WALL := wall_of (List.mem_append_right _ (List.mem_append_right _ (List.mem_of_getElem? (l := tables_1_3) (i := 109) (by decide +kernel)))) rfl
theorem wd_3_110 : (Jvm.Cond.fieldLink "ChocolateMouldsLaw$Sim" (33 : Nat) "ChocolateMouldsLaw$Sim" "day" "I") ∈ WALL := wall_of (List.mem_append_right _ (List.mem_append_right _ (List.mem_of_getElem? (l := tables_1_3) (i := 110) (by decide +kernel)))) rfl
theorem wd_3_111 : (Jvm.Cond.fieldLink "ChocolateMouldsLaw$Sim" (9 : Nat) "ChocolateMouldsLaw$Sim" "bowls" "[LChocolateMouldsLaw$Bowl;") ∈ WALL := wall_of (List.mem_append_right _ (List.mem_append_right _ (List.mem_of_getElem? (l := tables_1_3) (i := 111) (by decide +kernel)))) rfl
theorem wd_3_112 : (Jvm.Cond.fieldLink "ChocolateMouldsLaw" (9 : Nat) "ChocolateMouldsLaw$Sim" "bowls" "[LChocolateMouldsLaw$Bowl;") ∈ WALL := wall_of (List.mem_append_right _ (List.mem_append_right _ (List.mem_of_getElem? (l := tables_1_3) (i := 112) (by decide +kernel)))) rfl
theorem wd_3_113 : (Jvm.Cond.fieldLink "ChocolateMouldsLaw$Sim" (17 : Nat) "ChocolateMouldsLaw$Sim" "slabs" "[[I") ∈ WALL := wall_of (List.mem_append_right _ (List.mem_append_right _ (List.mem_of_getElem? (l := tables_1_3) (i := 113) (by decide +kernel)))) rfl
theorem wd_3_114 : (Jvm.Cond.fieldLink "ChocolateMouldsLaw" (15 : Nat) "ChocolateMouldsLaw$Sim" "slabs" "[[I") ∈ WALL := wall_of (List.mem_append_right _ (List.mem_append_right _ (List.mem_of_getElem? (l := tables_1_3) (i := 114) (by decide +kernel)))) rfl
theorem wd_3_115 : (Jvm.Cond.fieldLink "ChocolateMouldsLaw$Sim" (21 : Nat) "ChocolateMouldsLaw$Sim" "boxes" "[[I") ∈ WALL := wall_of (List.mem_append_right _ (List.mem_append_right _ (List.mem_of_getElem? (l := tables_1_3) (i := 115) (by decide +kernel)))) rfl
theorem wd_3_116 : (Jvm.Cond.fieldLink "ChocolateMouldsLaw" (78 : Nat) "ChocolateMouldsLaw$Sim" "boxes" "[[I") ∈ WALL := wall_of (List.mem_append_right _ (List.mem_append_right _ (List.mem_of_getElem? (l := tables_1_3) (i := 116) (by decide +kernel)))) rfl
theorem wd_3_117 : (Jvm.Cond.lays "ChocolateMouldsLaw$Sim" "ChocolateMouldsLaw$Sim" "day" "I") ∈ WALL := wall_of (List.mem_append_right _ (List.mem_append_right _ (List.mem_of_getElem? (l := tables_1_3) (i := 117) (by decide +kernel)))) rfl
theorem wd_3_119 : (Jvm.Cond.lays "ChocolateMouldsLaw$Sim" "ChocolateMouldsLaw$Sim" "bowls" "[LChocolateMouldsLaw$Bowl;") ∈ WALL := wall_of (List.mem_append_right _ (List.mem_append_right _ (List.mem_of_getElem? (l := tables_1_3) (i := 119) (by decide +kernel)))) rfl
theorem wd_3_121 : (Jvm.Cond.lays "ChocolateMouldsLaw$Sim" "ChocolateMouldsLaw$Sim" "slabs" "[[I") ∈ WALL := wall_of (List.mem_append_right _ (List.mem_append_right _ (List.mem_of_getElem? (l := tables_1_3) (i := 121) (by decide +kernel)))) rfl
theorem wd_3_123 : (Jvm.Cond.lays "ChocolateMouldsLaw$Sim" "ChocolateMouldsLaw$Sim" "boxes" "[[I") ∈ WALL := wall_of (List.mem_append_right _ (List.mem_append_right _ (List.mem_of_getElem? (l := tables_1_3) (i := 123) (by decide +kernel)))) rfl
theorem wd_3_125 : (Jvm.Cond.superclass "ChocolateMouldsLaw$Sim" "java/lang/Object") ∈ WALL := wall_of (List.mem_append_right _ (List.mem_append_right _ (List.mem_of_getElem? (l := tables_1_3) (i := 125) (by decide +kernel)))) rfl
theorem wd_3_126 : (Jvm.Cond.methodLink "ChocolateMouldsLaw" (139 : Nat) ({ cls := "java/lang/Math", name := "max", desc := "(II)I" } : Jvm.MethodName)) ∈ WALL := wall_of (List.mem_append_right _ (List.mem_append_right _ (List.mem_of_getElem? (l := tables_1_3) (i := 126) (by decide +kernel)))) rfl
theorem wd_3_127 : (Jvm.Cond.sameMethod "java/lang/Throwable" "java/lang/Throwable" "fillInStackTrace" "(I)Ljava/lang/Throwable;") ∈ WALL := wall_of (List.mem_append_right _ (List.mem_append_right _ (List.mem_of_getElem? (l := tables_1_3) (i := 127) (by decide +kernel)))) rfl
theorem wd_s_0 : Cond.selects "ChocolateMoulds" ⟨"ChocolateMoulds", "slabAt", "(I)LChocolateMoulds$Slab;"⟩ ⟨"ChocolateMoulds", "slabAt", "(I)LChocolateMoulds$Slab;"⟩ ∈ WALL := wall_sel (List.mem_of_getElem? (l := k2_sels lw_privs) (i := 0) (by decide +kernel)) rfl
theorem wd_s_1 : Cond.selects "ChocolateMoulds" ⟨"ChocolateMoulds", "findSlab", "(I)LChocolateMoulds$Slab;"⟩ ⟨"ChocolateMoulds", "findSlab", "(I)LChocolateMoulds$Slab;"⟩ ∈ WALL := wall_sel (List.mem_of_getElem? (l := k2_sels lw_privs) (i := 1) (by decide +kernel)) rfl
theorem wd_s_2 : Cond.selects "java/lang/Throwable" ⟨"java/lang/Throwable", "fillInStackTrace", "(I)Ljava/lang/Throwable;"⟩ ⟨"java/lang/Throwable", "fillInStackTrace", "(I)Ljava/lang/Throwable;"⟩ ∈ WALL := wall_sel (List.mem_of_getElem? (l := k2_sels lw_privs) (i := 2) (by decide +kernel)) rfl
theorem wd_s_3 : Cond.selects "ChocolateMoulds" ⟨"ChocolateMoulds", "bowlAt", "(I)LChocolateMoulds$Bowl;"⟩ ⟨"ChocolateMoulds", "bowlAt", "(I)LChocolateMoulds$Bowl;"⟩ ∈ WALL := wall_sel (List.mem_of_getElem? (l := k2_sels lw_privs) (i := 3) (by decide +kernel)) rfl
theorem wd_s_4 : Cond.selects "ChocolateMoulds" ⟨"ChocolateMoulds", "firstEmptyBoxFor", "(LChocolateMoulds$Slab;)I"⟩ ⟨"ChocolateMoulds", "firstEmptyBoxFor", "(LChocolateMoulds$Slab;)I"⟩ ∈ WALL := wall_sel (List.mem_of_getElem? (l := k2_sels lw_privs) (i := 4) (by decide +kernel)) rfl
theorem wd_s_5 : Cond.selects "ChocolateMoulds" ⟨"ChocolateMoulds", "boxAt", "(I)LChocolateMoulds$Box;"⟩ ⟨"ChocolateMoulds", "boxAt", "(I)LChocolateMoulds$Box;"⟩ ∈ WALL := wall_sel (List.mem_of_getElem? (l := k2_sels lw_privs) (i := 5) (by decide +kernel)) rfl
theorem wd_s_6 : Cond.selects "ChocolateMoulds" ⟨"ChocolateMoulds", "filledBoxes", "()I"⟩ ⟨"ChocolateMoulds", "filledBoxes", "()I"⟩ ∈ WALL := wall_sel (List.mem_of_getElem? (l := k2_sels lw_privs) (i := 6) (by decide +kernel)) rfl
theorem wd_s_7 : Cond.selects "ChocolateMoulds" ⟨"ChocolateMoulds", "gramsOfBowls", "()I"⟩ ⟨"ChocolateMoulds", "gramsOfBowls", "()I"⟩ ∈ WALL := wall_sel (List.mem_of_getElem? (l := k2_sels lw_privs) (i := 7) (by decide +kernel)) rfl
theorem wd_s_8 : Cond.selects "ChocolateMoulds" ⟨"ChocolateMoulds", "squaresOfSlabs", "()I"⟩ ⟨"ChocolateMoulds", "squaresOfSlabs", "()I"⟩ ∈ WALL := wall_sel (List.mem_of_getElem? (l := k2_sels lw_privs) (i := 8) (by decide +kernel)) rfl
theorem wd_s_9 : Cond.selects "ChocolateMoulds" ⟨"ChocolateMoulds", "bloomedSlabs", "()I"⟩ ⟨"ChocolateMoulds", "bloomedSlabs", "()I"⟩ ∈ WALL := wall_sel (List.mem_of_getElem? (l := k2_sels lw_privs) (i := 9) (by decide +kernel)) rfl
theorem wd_s_10 : Cond.selects "ChocolateMoulds" ⟨"ChocolateMoulds", "addSlab", "(LChocolateMoulds$Slab;)I"⟩ ⟨"ChocolateMoulds", "addSlab", "(LChocolateMoulds$Slab;)I"⟩ ∈ WALL := wall_sel (List.mem_of_getElem? (l := k2_sels lw_privs) (i := 10) (by decide +kernel)) rfl
theorem wd_s_11 : Cond.selects "ChocolateMoulds" ⟨"ChocolateMoulds", "planFilling", "(I)I"⟩ ⟨"ChocolateMoulds", "planFilling", "(I)I"⟩ ∈ WALL := wall_sel (List.mem_of_getElem? (l := k2_sels lw_privs) (i := 11) (by decide +kernel)) rfl
theorem wd_s_12 : Cond.selects "ChocolateMoulds" ⟨"ChocolateMoulds", "planSlab", "(LChocolateMoulds$Box;I)I"⟩ ⟨"ChocolateMoulds", "planSlab", "(LChocolateMoulds$Box;I)I"⟩ ∈ WALL := wall_sel (List.mem_of_getElem? (l := k2_sels lw_privs) (i := 12) (by decide +kernel)) rfl
theorem wd_s_13 : Cond.selects "ChocolateMoulds" ⟨"ChocolateMoulds", "moveIntoBox", "(ILChocolateMoulds$Box;)V"⟩ ⟨"ChocolateMoulds", "moveIntoBox", "(ILChocolateMoulds$Box;)V"⟩ ∈ WALL := wall_sel (List.mem_of_getElem? (l := k2_sels lw_privs) (i := 13) (by decide +kernel)) rfl
theorem wd_s_14 : Cond.selects "ChocolateMoulds" ⟨"ChocolateMoulds", "closeGaps", "()V"⟩ ⟨"ChocolateMoulds", "closeGaps", "()V"⟩ ∈ WALL := wall_sel (List.mem_of_getElem? (l := k2_sels lw_privs) (i := 14) (by decide +kernel)) rfl
def dm_nst : List (String × Nat × MethodName × String) := [("ChocolateMouldsLaw", 27, ⟨"ChocolateMouldsLaw$Bowl", "<init>", "()V"⟩, "ChocolateMouldsLaw"), ("ChocolateMouldsLaw", 116, ⟨"ChocolateMouldsLaw$Sim", "<init>", "()V"⟩, "ChocolateMouldsLaw")]
def dm_strs : List (String × Nat × String) := [("ChocolateMoulds", 264, "no such slab"), ("ChocolateMoulds", 259, "no such bowl"), ("ChocolateMoulds", 257, "nothing is told by this number"), ("ChocolateMoulds", 266, "no such box"), ("ChocolateMoulds", 47, "grams are 0 to 2000"), ("ChocolateMoulds", 58, "there are 5 bowls"), ("ChocolateMoulds", 253, "a warmth is 15 to 50, turns are 1 to 40"), ("ChocolateMoulds", 85, "seed is 1 to 30 crystals"), ("ChocolateMoulds", 96, "two bowls of 1 to 2000 grams together are wanted"), ("ChocolateMoulds", 102, "columns and rows are 1 to 6"), ("ChocolateMoulds", 109, "the bowl has not so many grams"), ("ChocolateMoulds", 268, "there are 8 slabs"), ("ChocolateMoulds", 149, "squares are 1 to 36, a temper is 0 to 100"), ("ChocolateMoulds", 154, "there are 6 boxes"), ("ChocolateMoulds", 255, "a room is 10 to 40 degrees warm"), ("ChocolateMoulds", 169, "days are 1 to 60"), ("ChocolateMoulds", 144, "the bowl would have more than 2000 grams"), ("ChocolateMoulds", 133, "no such groove")]
def dm_cas : List (String × String) := [("java/lang/IndexOutOfBoundsException", "java/lang/IndexOutOfBoundsException"), ("java/lang/IllegalArgumentException", "java/lang/IllegalArgumentException"), ("java/lang/IllegalStateException", "java/lang/IllegalStateException"), ("[I", "java/lang/Cloneable")]
def dm_ncs : List (String × String) := [("java/lang/IndexOutOfBoundsException", "java/lang/IllegalArgumentException"), ("java/lang/IndexOutOfBoundsException", "java/lang/IllegalStateException"), ("java/lang/IndexOutOfBoundsException", "[I"), ("java/lang/IllegalArgumentException", "java/lang/IndexOutOfBoundsException"), ("java/lang/IllegalArgumentException", "java/lang/IllegalStateException"), ("java/lang/IllegalArgumentException", "[I"), ("java/lang/IllegalStateException", "java/lang/IndexOutOfBoundsException"), ("java/lang/IllegalStateException", "java/lang/IllegalArgumentException"), ("java/lang/IllegalStateException", "[I"), ("[I", "java/lang/IndexOutOfBoundsException"), ("[I", "java/lang/IllegalArgumentException"), ("[I", "java/lang/IllegalStateException")]
def dm_dcl : List MethodName := [⟨"java/lang/RuntimeException", "<init>", "(Ljava/lang/String;)V"⟩, ⟨"java/lang/Exception", "<init>", "(Ljava/lang/String;)V"⟩, ⟨"java/lang/Throwable", "<init>", "(Ljava/lang/String;)V"⟩]
def dm_arr : List String := ["ChocolateMoulds$Bowl", "ChocolateMoulds$Slab", "ChocolateMoulds$Box", "ChocolateMouldsLaw$Bowl"]
end
section
/-! THE ABSTRACT HEAP: typed values, cells, a heap as a function from addresses; one word dm_W for 'from here the method goes on well' -/
abbrev DV : Type := Int32 ⊕ (Option Nat ⊕ (Int64 ⊕ UInt64))
abbrev DI (x : Int32) : DV := .inl x
abbrev DR (r : Option Nat) : DV := .inr (.inl r)
abbrev DL (x : Int64) : DV := .inr (.inr (.inl x))
abbrev DD (x : UInt64) : DV := .inr (.inr (.inr x))
def dm_v (v : DV) : Value := match v with
  | .inl x => .int x
  | .inr (.inl r) => va_rf r
  | .inr (.inr (.inl x)) => .long x
  | .inr (.inr (.inr x)) => .double x
def dm_cat (v : DV) : Nat := match v with
  | .inl _ => 1
  | .inr (.inl _) => 1
  | .inr (.inr _) => 2
theorem dm_cat_ok (v : DV) : (dm_v v).category = dm_cat v := by
  rcases v with x | (_ | a) | x | x <;> rfl
theorem dm_cat_sum (l : List DV) : ((l.map dm_v).map fun v => v.category).sum = (l.map dm_cat).sum := by
  induction l with
  | nil => rfl
  | cons a l ih => simp only [List.map_cons, List.sum_cons, ih, dm_cat_ok]
abbrev DCel : Type := (Nat × vp_A) ⊕ (Nat × List DV)
abbrev DHp : Type := Nat → Option DCel
abbrev DSt : Type := Nat × DHp
def dm_cel (dA : Nat → ClassId) (c : DCel) : va_E := match c with
  | .inl x => .inl (dA x.1, x.2)
  | .inr o => .inr (o.1, o.2.map dm_v)
def dm_tys (dA : Nat → ClassId) : List (ClassId × FieldType) := [(dA 0, .int), (dA 1, .boolean), (dA 2, .object "ChocolateMoulds$Bowl"), (dA 3, .object "ChocolateMoulds$Slab"), (dA 4, .object "ChocolateMoulds$Box"), (dA 5, .object "ChocolateMouldsLaw$Bowl"), (dA 6, .array .int)]
def dm_R (D : va_G) (dA : Nat → ClassId) (h : DHp) (H : Heap) : Prop := ∀ a e, h a = some e → va_at D vwCl (a, dm_cel dA e) H
def dm_A (st : DSt) : Nat → Prop := fun q => (∃ e, st.2 q = some e) ∨ st.1 ≤ q
def dm_S (D : va_G) (dA : Nat → ClassId) (A0 : Nat → Prop) (H0 : Heap) (st : DSt) (H : Heap) (locs : List Loc) : Prop :=
  dm_R D dA st.2 H ∧ H.size = st.1 ∧ (∀ q e, st.2 q = some e → A0 q) ∧ va_S A0 H0 H locs
/-- arrays of arrays of ints, and the private constructors of nest mates -/
def dm_AOA (U : State) : Prop := (Cond.arrayOver (.array .int)).before #[] U = true
theorem dm_AOA_spec {args : Array Value} {first s : State} {o : Option Outcome} {idx : List Nat} {t : FieldType} (h : (Cond.arrayOver (.array t)).holds args first o s idx = true) :
    ∃ comp c k, s.vm.findClass (FieldType.array t).toString = some comp ∧ (s.vm.classes.findIdx? fun x => match x.kind with | .array component _ => component == comp | _ => false) = some c ∧ s.vm.classes[c]? = some k ∧ k.kind = .array comp (.array t) ∧ s.vm.findClass ("[" ++ (FieldType.array t).toString) = some c := by
  simp only [Cond.holds, Cond.value, beq_iff_eq] at h
  cases hc : s.vm.findClass (FieldType.array t).toString with
  | none => simp [hc] at h
  | some comp =>
    simp only [hc, Option.bind_some, Option.bind_eq_some_iff, Option.map_eq_some_iff] at h
    obtain ⟨c, hi, k, hk, hb⟩ := h
    obtain ⟨hlt, hp, -⟩ := Array.findIdx?_eq_some_iff_getElem.mp hi
    have hkk : s.vm.classes[c] = k := (Array.getElem?_eq_some_iff.mp hk).2
    rw [hkk] at hp
    cases hkind : k.kind with
    | array component ty =>
      rw [hkind] at hb hp
      simp at hb hp
      exact ⟨comp, c, k, rfl, hi, hk, by rw [hkind, hp, hb.1], hb.2⟩
    | _ => rw [hkind] at hb; simp at hb
theorem dm_AOA.moved {u U : State} (hvm : u.vm.Alike U.vm) (h : dm_AOA u) : dm_AOA U := by
  obtain ⟨comp, c, k, h1, h2, h3, h4, h5⟩ := dm_AOA_spec h
  obtain ⟨k', hk', he⟩ := hvm.2.2 _ _ h3
  have hi : (U.vm.classes.findIdx? fun (x : Class) => match x.kind with | .array component _ => component == comp | _ => false) = some c := by
    rw [← va_idx_bare]
    first | rw [hvm.bare_eq] | rw [← hvm.bare_eq]
    rw [va_idx_bare]
    exact h2
  have hkind : k'.kind = .array comp (.array .int) := by rw [he]; exact h4
  have f1 : U.vm.findClass (FieldType.array .int).toString = some comp := by rw [hvm.findClass]; exact h1
  have f2 : U.vm.findClass ("[" ++ (FieldType.array .int).toString) = some c := by rw [hvm.findClass]; exact h5
  unfold dm_AOA Cond.before Cond.holds
  simp only [Cond.value]
  rw [f1, Option.bind_some]
  refine (congrArg (fun o : Option Nat => (o.bind (fun c => (U.vm.classes[c]?).map fun (k : Class) => match k.kind with | .array _ ty => decide (ty = FieldType.array .int) && decide (U.vm.findClass ("[" ++ (FieldType.array .int).toString) = some c) | _ => false) == some true)) hi).trans ?_
  simp [hk', hkind, f2]
def dm_Ev2 (U : State) : Prop := (∀ q ∈ dm_nst, va_Nw (.methodLinkNest q.1 q.2.1 q.2.2.1 q.2.2.2) U) ∧ dm_AOA U
theorem dm_Ev2.warm {s U : State} (hW : s.WarmedH U.vm) (h : dm_Ev2 s) : dm_Ev2 U := ⟨fun q hq => (h.1 q hq).warmM hW, h.2.moved hW.alike⟩
/-- what a throw needs of the start beyond the words: Throwable's two statics, the texts, what can be cast, arrays of objects -/
def dm_Ev (A0 : Nat → Prop) (U : State) (H : Heap) : Prop :=
  vx_Zq Bundle.tN "UNASSIGNED_STACK" Bundle.steD A0 U H ∧ vx_Zq Bundle.tN "SUPPRESSED_SENTINEL" Bundle.listD A0 U H ∧ (∀ q ∈ dm_strs, ∃ sa, vk_R q.1 q.2.1 q.2.2 sa U) ∧ (∀ q ∈ dm_cas, va_Nw (.castable q.1 q.2) U) ∧ (∀ y ∈ dm_dcl, va_Nw (.declares y) U) ∧ dm_Ev2 U ∧ (∀ q ∈ dm_arr, va_AO q U)
theorem dm_Nw.warmD {y : MethodName} {s U : State} (hW : s.WarmedH U.vm) (hZ : va_Nw (.declares y) s) : va_Nw (.declares y) U := va_tabs rfl (rfl : (s.setVm U.vm).vm = U.vm) (by rw [Cond.declares_setVm hW.alike]; exact hZ)
theorem dm_Ev.warm {A0 A1 : Nat → Prop} {s U : State} {H0 H : Heap} {locs : List Loc} (h : dm_Ev A0 s H0) (hW : s.WarmedH U.vm) (hS : va_S A0 H0 H locs) (hA : ∀ q, A1 q → A0 q) : dm_Ev A1 U H := by
  obtain ⟨h1, h2, h3, h4, hd, h5, h6⟩ := h
  refine ⟨((h1.kept hS.2.1).narrow hA).moved hW.alike, ((h2.kept hS.2.1).narrow hA).moved hW.alike, fun q hq => ?_, fun w hw => (h4 w hw).warmC hW, fun w hw => dm_Nw.warmD hW (hd w hw), h5.warm hW, fun q hq => (h6 q hq).moved hW.alike⟩
  obtain ⟨sa, h⟩ := h3 q hq
  exact ⟨sa, h.warm hW⟩
theorem dm_Ev.same {A0 : Nat → Prop} {U V : State} {H : Heap} (h : dm_Ev A0 U H) (hv : V.vm = U.vm) : dm_Ev A0 V H := by
  have hA : U.vm.Alike V.vm := by rw [hv]; exact Vm.Alike.refl _
  have hW : U.WarmedH V.vm := by rw [hv]; exact State.WarmedH.refl U
  obtain ⟨h1, h2, h3, h4, hd, h5, h6⟩ := h
  refine ⟨h1.moved hA, h2.moved hA, fun q hq => ?_, fun w hw => (h4 w hw).warmC hW, fun w hw => dm_Nw.warmD hW (hd w hw), h5.warm hW, fun q hq => (h6 q hq).moved hA⟩
  obtain ⟨sa, h⟩ := h3 q hq
  exact ⟨sa, h.same hv⟩
/-- all that stays during a walk -/
abbrev DY : Type := (Program × Launch × Env × Room × State) × (MethodId × Array Value × List Frame × Method × Code) × (va_G × (Nat → ClassId) × (Nat → Prop) × Nat × (State → Prop))
def dm_lv (lv : List (Nat × DV)) : List (Nat × Value) := lv.map fun q => (q.1, dm_v q.2)
def dm_W (Y : DY) (cs ss : Nat) (st : DSt) (pc : Nat) (lv : List (Nat × DV)) (stk : List DV) : Prop :=
  match Y with
  | ((p, l, e, R, s), (m, args, below, meth, c), (D, dA, A0, nL, Q)) =>
    ∀ (H : Heap) (locs : List Loc) (ls : Array Slot), dm_S D dA A0 s.heap st H locs → lv_has ls nL (dm_lv lv) → W p l e R s m args below meth c H locs cs ss Q (F0 m pc ls (stk.map dm_v))
def dm_C (Y : DY) (cc : ByteArray) (own : String) (rm : Room) : Prop :=
  match Y with
  | ((p, l, _, R, s), (m, args, _, _, c), (D, dA, A0, nL, _)) =>
    p.tables.exec = Jvm.exec ∧ c.code = cc ∧ c.maxLocals = nL ∧ s.vm.findClass own = some m.cls ∧ (∀ w ∈ WALL, w.before args s = true) ∧ va_K D vwCl (dm_tys dA) s ∧ (∀ q, s.heap.size ≤ q → A0 q) ∧ R = rm ∧ l.stackTraces = false ∧ dm_Ev A0 s s.heap
/-! contracts -/
def dm_Pc (D : va_G) (dA : Nat → ClassId) (avs : List DV) (st : DSt) : Array Value → State → Prop := va_Pc (avs.map dm_v) (fun U => dm_R D dA st.2 U.heap ∧ U.heap.size = st.1 ∧ va_K D vwCl (dm_tys dA) U ∧ dm_Ev (dm_A st) U U.heap)
def dm_B (D : va_G) (dA : Nat → ClassId) (A : Nat → Prop) (u : DSt) (t : State) : Prop := dm_R D dA u.2 t.heap ∧ t.heap.size = u.1 ∧ ∀ q e, u.2 q = some e → A q
def dm_Qc (Fin : Option DV → DSt → Prop) (D : va_G) (dA : Nat → ClassId) (A : Nat → Prop) : Array Value → State → Outcome → State → Prop := fun _ st oc t =>
  (∃ (rv : Option DV) (u : DSt), oc = .returned (rv.map dm_v) ∧ Fin rv u ∧ dm_B D dA A u t) ∧ va_F A st t
def dm_XC (FinX : String → DHp → Prop) (D : va_G) (dA : Nat → ClassId) (A : Nat → Prop) : String → State → State → Prop := fun E st t =>
  (∃ h : DHp, FinX E h ∧ dm_R D dA h t.heap ∧ ∀ q e, h q = some e → A q) ∧ va_F A st t
/-- a contract: from st, with these arguments, the method returns rv and leaves st1 -/
def dm_K1 (y : MethodName) (cy : ByteArray) (maxL : Nat) (ret : Option FieldType) (rmy : Room) (mc ms : Nat) (avs : List DV) (st : DSt) (rv : Option DV) (st1 : DSt) : Prop :=
  ∀ (l : Launch) (D : va_G) (dA : Nat → ClassId), l.stackTraces = false → Met l y (Cond.code y cy maxL ret :: WALL) rmy (dm_Pc D dA avs st) (dm_Qc (fun rv' u => rv' = rv ∧ u = st1) D dA (dm_A st)) mc ms (dm_A st)
abbrev DRes : Type := (String × DHp) ⊕ (Option DV × DSt)
/-- a contract of a method that returns or throws -/
def dm_K2 (y : MethodName) (cy : ByteArray) (maxL : Nat) (ret : Option FieldType) (rmy : Room) (mc ms : Nat) (avs : List DV) (st : DSt) (r : DRes) : Prop :=
  ∀ (l : Launch) (D : va_G) (dA : Nat → ClassId), l.stackTraces = false → vx_Met l y (Cond.code y cy maxL ret :: WALL) rmy (dm_Pc D dA avs st) (dm_Qc (fun rv u => r = .inr (rv, u)) D dA (dm_A st)) (dm_XC (fun E h => r = .inl (E, h)) D dA (dm_A st)) mc ms (dm_A st)
/-- the end of a method -/
def dm_E1 (Y : DY) (rt : Option FieldType) (mc ms : Nat) (Fin : Option DV → DSt → Prop) : Prop :=
  match Y with
  | ((_, _, _, _, s), (_, args, below, meth, _), (D, dA, A0, _, Q)) =>
    meth.sig.returnType = rt ∧ meth.locks = false ∧ ∀ t, MQ below (dm_Qc Fin D dA A0) args s mc ms A0 t → Q t
def dm_E2 (Y : DY) (mc ms : Nat) (FinX : String → DHp → Prop) : Prop :=
  match Y with
  | ((_, _, _, _, s), (_, args, below, meth, c), (D, dA, A0, _, Q)) =>
    meth.locks = false ∧ (∀ x ∈ c.exceptionTable.toList, False) ∧ ∃ Qc, ∀ t, vx_MQ below Qc (dm_XC FinX D dA A0) args s mc ms A0 t → Q t
theorem dm_mono {p : Program} {l : Launch} {e : Env} {R : Room} {s : State} {m : MethodId} {args : Array Value} {below : List Frame} {meth : Method} {c : Code} {H : Heap} {locs : List Loc} {cells slots : Nat} {Q Q' : State → Prop} {g : JFrame} (h : ∀ t, Q t → Q' t) (k : W p l e R s m args below meth c H locs cells slots Q g) : W p l e R s m args below meth c H locs cells slots Q' g := fun T hT X => by
  obtain ⟨t, a, b⟩ := k T hT X
  exact ⟨t, a, h t b⟩
theorem dm_R.mono {D : va_G} {dA : Nat → ClassId} {h : DHp} {H H1 : Heap} (hR : dm_R D dA h H) (hq : ∀ q : Nat, q < H.size → H1[q]? = H[q]?) : dm_R D dA h H1 := fun a e he => (hR a e he).kept (hq a (hR a e he).lt)
theorem dm_R.put {D : va_G} {dA : Nat → ClassId} {h : DHp} {H H1 : Heap} {a : Nat} {e : DCel} (hR : dm_R D dA h H) (hq : ∀ q : Nat, q ≠ a → H1[q]? = H[q]?) (hn : va_at D vwCl (a, dm_cel dA e) H1) : dm_R D dA (va_up h a (some e)) H1 := fun b e' he => by
  by_cases hb : b = a
  · subst hb
    simp only [va_up, if_true] at he
    cases he
    exact hn
  · simp only [va_up, if_neg hb] at he
    exact (hR b e' he).kept (hq b hb)
theorem dm_R.new {D : va_G} {dA : Nat → ClassId} {h : DHp} {H H1 : Heap} {e : DCel} (hR : dm_R D dA h H) (hq : ∀ q : Nat, q < H.size → H1[q]? = H[q]?) (hn : va_at D vwCl (H.size, dm_cel dA e) H1) : dm_R D dA (va_up h H.size (some e)) H1 := fun b e' he => by
  by_cases hb : b = H.size
  · subst hb
    simp only [va_up, if_true] at he
    cases he
    exact hn
  · simp only [va_up, if_neg hb] at he
    exact (hR b e' he).kept (hq b (hR b e' he).lt)
theorem dm_up_dom {h : DHp} {a : Nat} {e : DCel} {A0 : Nat → Prop} (hd : ∀ q e, h q = some e → A0 q) (ha : A0 a) : ∀ q e', va_up h a (some e) q = some e' → A0 q := fun q e' he => by
  by_cases hb : q = a
  · rw [hb]; exact ha
  · simp only [va_up, if_neg hb] at he
    exact hd q e' he
/-! pure steps over the abstract heap -/
def oB {α β : Type} (o : Option α) (k : α → Option β) : Option β := match o with
  | none => none
  | some a => k a
theorem ob {α β : Type} {o : Option α} {k : α → Option β} {r : β} (h : oB o k = some r) : ∃ a, o = some a ∧ k a = some r := by
  cases o with
  | none => cases h
  | some a => exact ⟨a, rfl, h⟩
/-- a call that may throw: the throw goes on -/
def xB {α β : Type} (o : Option ((String × DHp) ⊕ α)) (k : α → Option ((String × DHp) ⊕ β)) : Option ((String × DHp) ⊕ β) := match o with
  | none => none
  | some (.inl e) => some (.inl e)
  | some (.inr a) => k a
theorem xb {α β : Type} {o : Option ((String × DHp) ⊕ α)} {k : α → Option ((String × DHp) ⊕ β)} {r : (String × DHp) ⊕ β} (h : xB o k = some r) : (∃ e, o = some (.inl e) ∧ r = .inl e) ∨ ∃ a, o = some (.inr a) ∧ k a = some r := by
  rcases o with _ | e | a
  · cases h
  · exact Or.inl ⟨e, rfl, (Option.some.inj h).symm⟩
  · exact Or.inr ⟨a, rfl, h⟩
/-- a call that must not throw here -/
def nX {α : Type} (o : Option ((String × DHp) ⊕ α)) : Option α := match o with
  | some (.inr a) => some a
  | _ => none
theorem nx {α : Type} {o : Option ((String × DHp) ⊕ α)} {a : α} (h : nX o = some a) : o = some (.inr a) := by
  rcases o with _ | e | b
  · cases h
  · cases h
  · cases h; rfl
theorem oi_t {α : Type} {c : Prop} [Decidable c] {a b : α} {r : α} (hc : c) (h : (if c then a else b) = r) : a = r := by rw [if_pos hc] at h; exact h
theorem oi_f {α : Type} {c : Prop} [Decidable c] {a b : α} {r : α} (hc : ¬ c) (h : (if c then a else b) = r) : b = r := by rw [if_neg hc] at h; exact h
def gO (st : DSt) (r : Option Nat) (ci : Nat) : Option (Nat × List DV) := match r with
  | none => none
  | some a => match st.2 a with
    | some (.inr (c, fs)) => if c = ci then some (a, fs) else none
    | _ => none
theorem gO_spec {st : DSt} {r : Option Nat} {ci : Nat} {x : Nat × List DV} (h : gO st r ci = some x) : r = some x.1 ∧ st.2 x.1 = some (.inr (ci, x.2)) := by
  unfold gO at h
  split at h
  · cases h
  · split at h
    · rename_i hst
      split at h
      · rename_i hc
        cases h
        subst hc
        exact ⟨rfl, hst⟩
      · cases h
    · cases h
def asI (v : DV) : Option Int32 := match v with
  | .inl x => some x
  | _ => none
def asR (v : DV) : Option (Option Nat) := match v with
  | .inr (.inl r) => some r
  | _ => none
theorem asI_spec {v : DV} {x : Int32} (h : asI v = some x) : v = DI x := by
  rcases v with y | y | y | y <;> first | (cases h; rfl) | cases h
theorem asR_spec {v : DV} {x : Option Nat} (h : asR v = some x) : v = DR x := by
  rcases v with y | y | y | y <;> first | (cases h; rfl) | cases h
def gV (st : DSt) (r : Option Nat) (ci k : Nat) : Option DV := oB (gO st r ci) fun q => q.2[k]?
def gI (st : DSt) (r : Option Nat) (ci k : Nat) : Option Int32 := oB (gV st r ci k) asI
def gR (st : DSt) (r : Option Nat) (ci k : Nat) : Option (Option Nat) := oB (gV st r ci k) asR
def pV (st : DSt) (r : Option Nat) (ci k : Nat) (v : DV) : Option DSt := oB (gO st r ci) fun q => if k < q.2.length then some (st.1, va_up st.2 q.1 (some (.inr (ci, q.2.set k v)))) else none
/-- the receiver of a call: an object of that class -/
def oR (st : DSt) (r : Option Nat) (ci : Nat) : Option Nat := oB (gO st r ci) fun q => some q.1
/-- an array's cell: address, length, contents -/
def gA (st : DSt) (r : Option Nat) (kd : Nat) : Option (Nat × vp_A) := match r with
  | none => none
  | some a => match st.2 a with
    | some (.inl (c, x)) => if c = kd then some (a, x) else none
    | _ => none
theorem gA_spec {st : DSt} {r : Option Nat} {kd : Nat} {x : Nat × vp_A} (h : gA st r kd = some x) : r = some x.1 ∧ st.2 x.1 = some (.inl (kd, x.2)) := by
  unfold gA at h
  split at h
  · cases h
  · split at h
    · rename_i hst
      split at h
      · rename_i hc
        cases h
        subst hc
        exact ⟨rfl, hst⟩
      · cases h
    · cases h
def gAI (st : DSt) (r : Option Nat) (kd : Nat) : Option (Nat × Nat × (Nat → Int32)) := oB (gA st r kd) fun q => match q.2.2 with
  | .inl f => some (q.1, q.2.1, f)
  | _ => none
def gAR (st : DSt) (r : Option Nat) (kd : Nat) : Option (Nat × Nat × (Nat → Option Nat)) := oB (gA st r kd) fun q => match q.2.2 with
  | .inr (.inr (.inr (.inr f))) => some (q.1, q.2.1, f)
  | _ => none
def gAL (st : DSt) (r : Option Nat) (kd : Nat) : Option (Nat × Nat × (Nat → Int64)) := oB (gA st r kd) fun q => match q.2.2 with
  | .inr (.inl f) => some (q.1, q.2.1, f)
  | _ => none
theorem gAI_spec {st : DSt} {r : Option Nat} {kd : Nat} {x : Nat × Nat × (Nat → Int32)} (h : gAI st r kd = some x) : r = some x.1 ∧ st.2 x.1 = some (.inl (kd, (x.2.1, .inl x.2.2))) := by
  obtain ⟨⟨a, n, z⟩, h1, h2⟩ := ob h
  obtain ⟨h3, h4⟩ := gA_spec h1
  rcases z with f | f | f | f | f <;> first | (cases h2; exact ⟨h3, h4⟩) | cases h2
theorem gAR_spec {st : DSt} {r : Option Nat} {kd : Nat} {x : Nat × Nat × (Nat → Option Nat)} (h : gAR st r kd = some x) : r = some x.1 ∧ st.2 x.1 = some (.inl (kd, (x.2.1, .inr (.inr (.inr (.inr x.2.2)))))) := by
  obtain ⟨⟨a, n, z⟩, h1, h2⟩ := ob h
  obtain ⟨h3, h4⟩ := gA_spec h1
  rcases z with f | f | f | f | f <;> first | (cases h2; exact ⟨h3, h4⟩) | cases h2
theorem gAL_spec {st : DSt} {r : Option Nat} {kd : Nat} {x : Nat × Nat × (Nat → Int64)} (h : gAL st r kd = some x) : r = some x.1 ∧ st.2 x.1 = some (.inl (kd, (x.2.1, .inr (.inl x.2.2)))) := by
  obtain ⟨⟨a, n, z⟩, h1, h2⟩ := ob h
  obtain ⟨h3, h4⟩ := gA_spec h1
  rcases z with f | f | f | f | f <;> first | (cases h2; exact ⟨h3, h4⟩) | cases h2
def inA (i : Int32) (n : Nat) : Bool := !(decide (i < 0)) && decide (i.toNatClampNeg < n)
theorem inA_in {i : Int32} {n : Nat} (h : inA i n = true) : vp_in i n := by
  unfold inA at h
  simp only [Bool.and_eq_true, Bool.not_eq_true', decide_eq_false_iff_not, decide_eq_true_eq] at h
  rintro (q | q)
  · exact h.1 q
  · omega
def aI (st : DSt) (r : Option Nat) (kd : Nat) (i : Int32) : Option Int32 := oB (gAI st r kd) fun q => if inA i q.2.1 = true then some (q.2.2 i.toNatClampNeg) else none
def aR (st : DSt) (r : Option Nat) (kd : Nat) (i : Int32) : Option (Option Nat) := oB (gAR st r kd) fun q => if inA i q.2.1 = true then some (q.2.2 i.toNatClampNeg) else none
def aL (st : DSt) (r : Option Nat) (kd : Nat) (i : Int32) : Option Int64 := oB (gAL st r kd) fun q => if inA i q.2.1 = true then some (q.2.2 i.toNatClampNeg) else none
def sI (st : DSt) (r : Option Nat) (kd : Nat) (i x : Int32) : Option DSt := oB (gAI st r kd) fun q => if inA i q.2.1 = true then some (st.1, va_up st.2 q.1 (some (.inl (kd, (q.2.1, .inl (upd q.2.2 i.toNatClampNeg x)))))) else none
def sL (st : DSt) (r : Option Nat) (kd : Nat) (i : Int32) (x : Int64) : Option DSt := oB (gAL st r kd) fun q => if inA i q.2.1 = true then some (st.1, va_up st.2 q.1 (some (.inl (kd, (q.2.1, .inr (.inl (vp_updL q.2.2 i.toNatClampNeg x))))))) else none
/-- what may stand in an array of references: null, or an object of the class -/
def okR (st : DSt) (v : Option Nat) (ci : Nat) : Bool := match v with
  | none => true
  | some b => (gO st (some b) ci).isSome
def sR (st : DSt) (r : Option Nat) (kd ci : Nat) (i : Int32) (v : Option Nat) : Option DSt := oB (gAR st r kd) fun q => if inA i q.2.1 = true ∧ okR st v ci = true then some (st.1, va_up st.2 q.1 (some (.inl (kd, (q.2.1, .inr (.inr (.inr (.inr (va_up q.2.2 i.toNatClampNeg v))))))))) else none
def aN (st : DSt) (r : Option Nat) (kd : Nat) : Option Int32 := oB (gA st r kd) fun q => some (Int32.ofNat q.2.1)
def nC (st : DSt) (c : DCel) : DSt := (st.1 + 1, va_up st.2 st.1 (some c))
def nI0 (n : Nat) : vp_A := (n, .inl (fun _ => 0))
def nL0 (n : Nat) : vp_A := (n, .inr (.inl (fun _ => 0)))
def nR0 (n : Nat) : vp_A := (n, .inr (.inr (.inr (.inr (fun _ => none)))))
def cpI (st : DSt) (r0 : Option Nat) (sp : Int32) (r1 : Option Nat) (dp n : Int32) (kd : Nat) : Option DSt := oB (gAI st r0 kd) fun q0 => oB (gAI st r1 kd) fun q1 =>
  if ¬ sp < 0 ∧ ¬ dp < 0 ∧ ¬ n < 0 ∧ sp.toNatClampNeg + n.toNatClampNeg ≤ q0.2.1 ∧ dp.toNatClampNeg + n.toNatClampNeg ≤ q1.2.1 then some (st.1, va_up st.2 q1.1 (some (.inl (kd, (q1.2.1, .inl (va_cpy q0.2.2 q1.2.2 sp.toNatClampNeg dp.toNatClampNeg n.toNatClampNeg)))))) else none
def jmax (x y : Int32) : Int32 := if x < y then y else x
def jmin (x y : Int32) : Int32 := if y < x then y else x
/-- division: the divisor isn't 0 -/
def oD (x y : Int32) : Option Int32 := if y = 0 then none else some (x / y)
theorem oD_spec {x y z : Int32} (h : oD x y = some z) : ¬ y = 0 ∧ z = x / y := by
  unfold oD at h
  split at h
  · cases h
  · rename_i h0
    cases h
    exact ⟨h0, rfl⟩
/-- a boolean that is returned -/
def oZ (x : Int32) : Option Int32 := if x = 0 ∨ x = 1 then some x else none
theorem oZ_spec {x z : Int32} (h : oZ x = some z) : z = x ∧ narrow .boolean (.int x) = .int x := by
  unfold oZ at h
  split at h
  · rename_i h0
    cases h
    refine ⟨rfl, ?_⟩
    rcases h0 with h0 | h0 <;> subst h0 <;> rfl
  · cases h
/-! loops: a step goes on with a new state, or ends -/
def dl_it {σ β : Type} (f : σ → Option (σ ⊕ β)) : Nat → σ → Option β
  | 0, _ => none
  | n + 1, s => match f s with
    | none => none
    | some (.inl s') => dl_it f n s'
    | some (.inr b) => some b
theorem dl_more {σ β : Type} (f : σ → Option (σ ⊕ β)) : ∀ (n : Nat) (s : σ) (b : β), dl_it f n s = some b → dl_it f (n + 1) s = some b := by
  intro n
  induction n with
  | zero => intro s b h; cases h
  | succ n ih =>
    intro s b h
    unfold dl_it at h ⊢
    rcases hf : f s with _ | s' | b'
    · rw [hf] at h; cases h
    · rw [hf] at h
      exact ih s' b h
    · rw [hf] at h
      exact h
theorem dl_more' {σ β : Type} (f : σ → Option (σ ⊕ β)) {n : Nat} {s : σ} {b : β} (h : dl_it f n s = some b) : ∀ k, dl_it f (n + k) s = some b := by
  intro k
  induction k with
  | zero => exact h
  | succ k ih => exact dl_more f _ _ _ ih
theorem dl_one {σ β : Type} (f : σ → Option (σ ⊕ β)) {n m : Nat} {s : σ} {b b' : β} (h : dl_it f n s = some b) (h' : dl_it f m s = some b') : b = b' := by
  have h1 := dl_more' f h m
  have h2 := dl_more' f h' n
  rw [Nat.add_comm m n] at h2
  rw [h1] at h2
  exact Option.some.inj h2
noncomputable def dlp {σ β : Type} (f : σ → Option (σ ⊕ β)) (s : σ) : Option β :=
  @dite _ (∃ n b, dl_it f n s = some b) (Classical.propDecidable _) (fun h => some (Classical.choose (Classical.choose_spec h))) (fun _ => none)
theorem dlp_of {σ β : Type} {f : σ → Option (σ ⊕ β)} {n : Nat} {s : σ} {b : β} (h : dl_it f n s = some b) : dlp f s = some b := by
  have hx : ∃ n b, dl_it f n s = some b := ⟨n, b, h⟩
  unfold dlp
  rw [dif_pos hx]
  exact congrArg some (dl_one f (Classical.choose_spec (Classical.choose_spec hx)) h)
theorem dlp_it {σ β : Type} {f : σ → Option (σ ⊕ β)} {s : σ} {b : β} (h : dlp f s = some b) : ∃ n, dl_it f n s = some b := by
  unfold dlp at h
  by_cases hx : ∃ n b, dl_it f n s = some b
  · obtain ⟨n, b', h'⟩ := hx
    rw [dif_pos ⟨n, b', h'⟩] at h
    cases h
    exact ⟨_, Classical.choose_spec (Classical.choose_spec (⟨n, b', h'⟩ : ∃ n b, dl_it f n s = some b))⟩
  · rw [dif_neg hx] at h
    cases h
theorem dlp_step {σ β : Type} (f : σ → Option (σ ⊕ β)) (s : σ) : dlp f s = match f s with
    | none => none
    | some (.inl s') => dlp f s'
    | some (.inr b) => some b := by
  rcases hf : f s with _ | s' | b
  · cases h : dlp f s with
    | none => rfl
    | some b =>
      obtain ⟨n, hn⟩ := dlp_it h
      cases n with
      | zero => cases hn
      | succ n => unfold dl_it at hn; rw [hf] at hn; cases hn
  · show dlp f s = dlp f s'
    cases h : dlp f s' with
    | none =>
      cases h2 : dlp f s with
      | none => rfl
      | some b =>
        obtain ⟨n, hn⟩ := dlp_it h2
        cases n with
        | zero => cases hn
        | succ n =>
          unfold dl_it at hn; rw [hf] at hn
          rw [dlp_of hn] at h; cases h
    | some b =>
      obtain ⟨n, hn⟩ := dlp_it h
      exact dlp_of (n := n + 1) (by unfold dl_it; rw [hf]; exact hn)
  · exact dlp_of (n := 1) (by unfold dl_it; rw [hf])
/-- the walk of a loop: what holds at its end holds at its head, if each step carries it back -/
theorem dlp_W {σ β : Type} (f : σ → Option (σ ⊕ β)) (Wh : σ → Prop) (We : β → Prop) (h : ∀ s r, f s = some r → (match r with | .inl s' => Wh s' | .inr b => We b) → Wh s) {s : σ} {b : β} (hf : dlp f s = some b) (he : We b) : Wh s := by
  obtain ⟨n, hn⟩ := dlp_it hf
  clear hf
  induction n generalizing s with
  | zero => cases hn
  | succ n ih =>
    unfold dl_it at hn
    rcases hs : f s with _ | s' | b'
    · rw [hs] at hn; cases hn
    · rw [hs] at hn
      exact h s _ hs (ih hn)
    · rw [hs] at hn
      cases hn
      exact h s _ hs he
/-- a loop that makes things: each step its share -/
theorem dl_Wc {σ β : Type} (f : σ → Option (σ ⊕ β)) (MC MS CM SM : Nat) (Wh : Nat → Nat → σ → Prop) (We : Nat → Nat → β → Prop) (hm : ∀ c c' s s' b, c ≤ c' → s ≤ s' → We c' s' b → We c s b) (hm' : ∀ c c' s s' b, c ≤ c' → s ≤ s' → Wh c' s' b → Wh c s b) (h : ∀ cs ss s r, f s = some r → cs + MC ≤ CM → ss + MS ≤ SM → (match r with | .inl s' => Wh (cs + MC) (ss + MS) s' | .inr b => We (cs + MC) (ss + MS) b) → Wh cs ss s) : ∀ n cs ss s b, dl_it f n s = some b → cs + n * MC ≤ CM → ss + n * MS ≤ SM → We (cs + n * MC) (ss + n * MS) b → Wh cs ss s := by
  intro n
  induction n with
  | zero => intro cs ss s b hn; cases hn
  | succ n ih =>
    intro cs ss s b hn h1 h2 he
    rw [Nat.succ_mul] at h1 h2
    rw [Nat.succ_mul, Nat.succ_mul] at he
    unfold dl_it at hn
    rcases hs : f s with _ | s' | b'
    · rw [hs] at hn; cases hn
    · rw [hs] at hn
      refine h cs ss s _ hs (by omega) (by omega) (ih _ _ _ _ hn (by omega) (by omega) ?_)
      rw [show cs + MC + n * MC = cs + (n * MC + MC) by omega, show ss + MS + n * MS = ss + (n * MS + MS) by omega]
      exact he
    · rw [hs] at hn
      cases hn
      exact h cs ss s _ hs (by omega) (by omega) (hm _ _ _ _ _ (by omega) (by omega) he)
/-- the rest of a division -/
def oM (x y : Int32) : Option Int32 := if y = 0 then none else some (x - x / y * y)
theorem oM_spec {x y z : Int32} (h : oM x y = some z) : ¬ y = 0 ∧ z = x - x / y * y := by
  unfold oM at h
  split at h
  · cases h
  · rename_i h0
    cases h
    exact ⟨h0, rfl⟩
/-- a new array of references, of a length that is counted -/
def nQ (st : DSt) (n : Int32) (cap kd : Nat) : Option DSt := if ¬ n < 0 ∧ n.toNatClampNeg ≤ cap then some (nC st (.inl (kd, nR0 n.toNatClampNeg))) else none
/-- what may stand in an array of arrays of ints -/
def sRA (st : DSt) (r : Option Nat) (kd : Nat) (i : Int32) (v : Option Nat) : Option DSt := oB (gAR st r kd) fun q => oB (gAI st v 0) fun w => if inA i q.2.1 = true then some (st.1, va_up st.2 q.1 (some (.inl (kd, (q.2.1, .inr (.inr (.inr (.inr (va_up q.2.2 i.toNatClampNeg (some w.1))))))))) else none
/-- a copy of an array of ints -/
def clI (st : DSt) (r : Option Nat) (cap : Nat) : Option DSt := oB (gAI st r 0) fun q => if q.2.1 ≤ cap then some (nC st (.inl (0, (q.2.1, .inl q.2.2)))) else none
/-- an array of ints, as what is cast -/
def isAI (st : DSt) (r : Option Nat) : Option Unit := oB (gAI st r 0) fun _ => some ()
end
section
section DRULES
variable {Y : DY} {cc : ByteArray} {own : String} {rm : Room} {cs ss pc : Nat} {st : DSt} {lv lv' : List (Nat × DV)} {stk : List DV}
theorem dm_at {ls : Array Slot} {nL : Nat} {lv : List (Nat × DV)} (h : lv_has ls nL (dm_lv lv)) (k : Nat) {i : Nat} {v : DV} (hk : lv[k]? = some (i, v)) : ls[i]? = some (.val (dm_v v)) := lv_at h k (by unfold dm_lv; rw [List.getElem?_map, hk]; rfl)
def dm_set1 (lv : List (Nat × DV)) (i : Nat) (v : DV) : List (Nat × DV) := (i, v) :: lv.filter (fun q => !(q.1 == i) && !(q.1 + 1 == i && dm_cat q.2 == 2))
def dm_set2 (lv : List (Nat × DV)) (i : Nat) (v : DV) : List (Nat × DV) := (i, v) :: lv.filter (fun q => !(q.1 == i) && (!(q.1 == i + 1) && !(q.1 + 1 == i && dm_cat q.2 == 2)))
theorem dm_set1_lv {lv : List (Nat × DV)} {i : Nat} {v : DV} {lv' : List (Nat × DV)} (h : dm_set1 lv i v = lv') : (i, dm_v v) :: (dm_lv lv).filter (fun q => !(q.1 == i) && !(q.1 + 1 == i && q.2.category == 2)) = dm_lv lv' := by
  subst h
  unfold dm_set1 dm_lv
  rw [List.map_cons, List.filter_map]
  congr 3
  funext q
  simp only [Function.comp, dm_cat_ok]
theorem dm_set2_lv {lv : List (Nat × DV)} {i : Nat} {v : DV} {lv' : List (Nat × DV)} (h : dm_set2 lv i v = lv') : (i, dm_v v) :: (dm_lv lv).filter (fun q => !(q.1 == i) && (!(q.1 == i + 1) && !(q.1 + 1 == i && q.2.category == 2))) = dm_lv lv' := by
  subst h
  unfold dm_set2 dm_lv
  rw [List.map_cons, List.filter_map]
  congr 3
  funext q
  simp only [Function.comp, dm_cat_ok]
theorem dm_sub (ks : List Nat) (h : ks.filterMap (fun k => lv[k]?) = lv') (k : dm_W Y cs ss st pc lv' stk) : dm_W Y cs ss st pc lv stk := by
  obtain ⟨⟨p, l, e, R, s⟩, ⟨m, args, below, meth, c⟩, ⟨D, dA, A0, nL, Q⟩⟩ := Y
  exact fun H locs ls hS hl => k H locs ls hS (lv_sub hl ks (by
    subst h
    unfold lv_pick dm_lv
    rw [List.map_filterMap]
    congr 1
    funext k
    rw [List.getElem?_map]))
theorem dm_to {stk' : List DV} {pc' : Nat} (hp : pc = pc') (h : stk = stk') (k : dm_W Y cs ss st pc' lv stk') : dm_W Y cs ss st pc lv stk := by subst hp; subst h; exact k
theorem dm_widen {cs' ss' : Nat} (h1 : cs ≤ cs') (h2 : ss ≤ ss') (k : dm_W Y cs' ss' st pc lv stk) : dm_W Y cs ss st pc lv stk := by
  obtain ⟨⟨p, l, e, R, s⟩, ⟨m, args, below, meth, c⟩, ⟨D, dA, A0, nL, Q⟩⟩ := Y
  exact fun H locs ls hS hl => W.widen h1 h2 (k H locs ls hS hl)
theorem r_iconst {n : Int} {v : Int32} (C : dm_C Y cc own rm) (hd : decode cc pc = .ok (.iconst n, 1)) (hv : Int32.ofInt n = v) (k : dm_W Y cs ss st (pc + 1) lv (DI v :: stk)) : dm_W Y cs ss st pc lv (stk) := by
  obtain ⟨⟨p, l, e, R, s⟩, ⟨m, args, below, meth, c⟩, ⟨D, dA, A0, nL, Q⟩⟩ := Y
  exact fun H locs ls hS hl => lv_iconst C.1 C.2.1 hd hv (k H locs ls hS hl)
theorem r_bipush {n : Int} {v : Int32} (C : dm_C Y cc own rm) (hd : decode cc pc = .ok (.bipush n, 2)) (hv : (Int8.ofInt n).toInt32 = v) (k : dm_W Y cs ss st (pc + 2) lv (DI v :: stk)) : dm_W Y cs ss st pc lv (stk) := by
  obtain ⟨⟨p, l, e, R, s⟩, ⟨m, args, below, meth, c⟩, ⟨D, dA, A0, nL, Q⟩⟩ := Y
  exact fun H locs ls hS hl => lv_bipush C.1 C.2.1 hd hv (k H locs ls hS hl)
theorem r_sipush {n : Int} {v : Int32} (C : dm_C Y cc own rm) (hd : decode cc pc = .ok (.sipush n, 3)) (hv : (Int16.ofInt n).toInt32 = v) (k : dm_W Y cs ss st (pc + 3) lv (DI v :: stk)) : dm_W Y cs ss st pc lv (stk) := by
  obtain ⟨⟨p, l, e, R, s⟩, ⟨m, args, below, meth, c⟩, ⟨D, dA, A0, nL, Q⟩⟩ := Y
  exact fun H locs ls hS hl => lv_sipush C.1 C.2.1 hd hv (k H locs ls hS hl)
theorem r_dconst0  (C : dm_C Y cc own rm) (hd : decode cc pc = .ok (.dconst 0, 1))  (k : dm_W Y cs ss st (pc + 1) lv (DD FP.dconst0 :: stk)) : dm_W Y cs ss st pc lv (stk) := by
  obtain ⟨⟨p, l, e, R, s⟩, ⟨m, args, below, meth, c⟩, ⟨D, dA, A0, nL, Q⟩⟩ := Y
  exact fun H locs ls hS hl => lv_dconst0 C.1 C.2.1 hd  (k H locs ls hS hl)
theorem r_null  (C : dm_C Y cc own rm) (hd : decode cc pc = .ok (.aconst_null, 1))  (k : dm_W Y cs ss st (pc + 1) lv (DR none :: stk)) : dm_W Y cs ss st pc lv (stk) := by
  obtain ⟨⟨p, l, e, R, s⟩, ⟨m, args, below, meth, c⟩, ⟨D, dA, A0, nL, Q⟩⟩ := Y
  exact fun H locs ls hS hl => lv_null C.1 C.2.1 hd  (k H locs ls hS hl)
theorem r_iadd {x y : Int32} (C : dm_C Y cc own rm) (hd : decode cc pc = .ok (.iadd, 1))  (k : dm_W Y cs ss st (pc + 1) lv (DI (x + y) :: stk)) : dm_W Y cs ss st pc lv (DI y :: DI x :: stk) := by
  obtain ⟨⟨p, l, e, R, s⟩, ⟨m, args, below, meth, c⟩, ⟨D, dA, A0, nL, Q⟩⟩ := Y
  exact fun H locs ls hS hl => lv_iadd C.1 C.2.1 hd  (k H locs ls hS hl)
theorem r_isub {x y : Int32} (C : dm_C Y cc own rm) (hd : decode cc pc = .ok (.isub, 1))  (k : dm_W Y cs ss st (pc + 1) lv (DI (x - y) :: stk)) : dm_W Y cs ss st pc lv (DI y :: DI x :: stk) := by
  obtain ⟨⟨p, l, e, R, s⟩, ⟨m, args, below, meth, c⟩, ⟨D, dA, A0, nL, Q⟩⟩ := Y
  exact fun H locs ls hS hl => lv_isub C.1 C.2.1 hd  (k H locs ls hS hl)
theorem r_imul {x y : Int32} (C : dm_C Y cc own rm) (hd : decode cc pc = .ok (.imul, 1))  (k : dm_W Y cs ss st (pc + 1) lv (DI (x * y) :: stk)) : dm_W Y cs ss st pc lv (DI y :: DI x :: stk) := by
  obtain ⟨⟨p, l, e, R, s⟩, ⟨m, args, below, meth, c⟩, ⟨D, dA, A0, nL, Q⟩⟩ := Y
  exact fun H locs ls hS hl => lv_imul C.1 C.2.1 hd  (k H locs ls hS hl)
theorem r_iand {x y : Int32} (C : dm_C Y cc own rm) (hd : decode cc pc = .ok (.iand, 1))  (k : dm_W Y cs ss st (pc + 1) lv (DI (x &&& y) :: stk)) : dm_W Y cs ss st pc lv (DI y :: DI x :: stk) := by
  obtain ⟨⟨p, l, e, R, s⟩, ⟨m, args, below, meth, c⟩, ⟨D, dA, A0, nL, Q⟩⟩ := Y
  exact fun H locs ls hS hl => lv_iand C.1 C.2.1 hd  (k H locs ls hS hl)
theorem r_ladd {x y : Int64} (C : dm_C Y cc own rm) (hd : decode cc pc = .ok (.ladd, 1))  (k : dm_W Y cs ss st (pc + 1) lv (DL (x + y) :: stk)) : dm_W Y cs ss st pc lv (DL y :: DL x :: stk) := by
  obtain ⟨⟨p, l, e, R, s⟩, ⟨m, args, below, meth, c⟩, ⟨D, dA, A0, nL, Q⟩⟩ := Y
  exact fun H locs ls hS hl => lv_ladd C.1 C.2.1 hd  (k H locs ls hS hl)
theorem r_lmul {x y : Int64} (C : dm_C Y cc own rm) (hd : decode cc pc = .ok (.lmul, 1))  (k : dm_W Y cs ss st (pc + 1) lv (DL (x * y) :: stk)) : dm_W Y cs ss st pc lv (DL y :: DL x :: stk) := by
  obtain ⟨⟨p, l, e, R, s⟩, ⟨m, args, below, meth, c⟩, ⟨D, dA, A0, nL, Q⟩⟩ := Y
  exact fun H locs ls hS hl => lv_lmul C.1 C.2.1 hd  (k H locs ls hS hl)
theorem r_i2l {x : Int32} (C : dm_C Y cc own rm) (hd : decode cc pc = .ok (.i2l, 1))  (k : dm_W Y cs ss st (pc + 1) lv (DL x.toInt64 :: stk)) : dm_W Y cs ss st pc lv (DI x :: stk) := by
  obtain ⟨⟨p, l, e, R, s⟩, ⟨m, args, below, meth, c⟩, ⟨D, dA, A0, nL, Q⟩⟩ := Y
  exact fun H locs ls hS hl => lv_i2l C.1 C.2.1 hd rfl (k H locs ls hS hl)
theorem r_i2d {x : Int32} (C : dm_C Y cc own rm) (hd : decode cc pc = .ok (.i2d, 1))  (k : dm_W Y cs ss st (pc + 1) lv (DD (FP.i2d x) :: stk)) : dm_W Y cs ss st pc lv (DI x :: stk) := by
  obtain ⟨⟨p, l, e, R, s⟩, ⟨m, args, below, meth, c⟩, ⟨D, dA, A0, nL, Q⟩⟩ := Y
  exact fun H locs ls hS hl => lv_i2d C.1 C.2.1 hd  (k H locs ls hS hl)
theorem r_lcmp {x y : Int64} (C : dm_C Y cc own rm) (hd : decode cc pc = .ok (.lcmp, 1))  (k : dm_W Y cs ss st (pc + 1) lv (DI (lg_cmp x y) :: stk)) : dm_W Y cs ss st pc lv (DL y :: DL x :: stk) := by
  obtain ⟨⟨p, l, e, R, s⟩, ⟨m, args, below, meth, c⟩, ⟨D, dA, A0, nL, Q⟩⟩ := Y
  exact fun H locs ls hS hl => W.lcmp C.1 C.2.1 hd  (k H locs ls hS hl)
theorem r_dcmp {x y : UInt64} {op : CmpOp} (C : dm_C Y cc own rm) (hd : decode cc pc = .ok (.dcmp op, 1))  (k : dm_W Y cs ss st (pc + 1) lv (DI (Op.cmpValue (FP.dcmp x y) op) :: stk)) : dm_W Y cs ss st pc lv (DD y :: DD x :: stk) := by
  obtain ⟨⟨p, l, e, R, s⟩, ⟨m, args, below, meth, c⟩, ⟨D, dA, A0, nL, Q⟩⟩ := Y
  exact fun H locs ls hS hl => lv_dcmp C.1 C.2.1 hd  (k H locs ls hS hl)
theorem r_ddiv {x y : UInt64} (C : dm_C Y cc own rm) (hd : decode cc pc = .ok (.ddiv, 1)) (hn : vf_n64 (FP.ddiv x y)) (k : dm_W Y cs ss st (pc + 1) lv (DD (FP.ddiv x y) :: stk)) : dm_W Y cs ss st pc lv (DD y :: DD x :: stk) := by
  obtain ⟨⟨p, l, e, R, s⟩, ⟨m, args, below, meth, c⟩, ⟨D, dA, A0, nL, Q⟩⟩ := Y
  exact fun H locs ls hS hl => lv_ddiv C.1 C.2.1 hd hn (k H locs ls hS hl)
theorem r_idiv {x y z : Int32} (C : dm_C Y cc own rm) (hd : decode cc pc = .ok (.idiv, 1)) (hz : oD x y = some z) (k : dm_W Y cs ss st (pc + 1) lv (DI z :: stk)) : dm_W Y cs ss st pc lv (DI y :: DI x :: stk) := by
  obtain ⟨⟨p, l, e, R, s⟩, ⟨m, args, below, meth, c⟩, ⟨D, dA, A0, nL, Q⟩⟩ := Y
  exact fun H locs ls hS hl => by
    obtain ⟨h0, rfl⟩ := oD_spec hz
    exact lv_idiv C.1 C.2.1 hd h0 (k H locs ls hS hl)
theorem r_dup {v : DV} (C : dm_C Y cc own rm) (hd : decode cc pc = .ok (.dup, 1)) (hv : dm_cat v = 1) (k : dm_W Y cs ss st (pc + 1) lv (v :: v :: stk)) : dm_W Y cs ss st pc lv (v :: stk) := by
  obtain ⟨⟨p, l, e, R, s⟩, ⟨m, args, below, meth, c⟩, ⟨D, dA, A0, nL, Q⟩⟩ := Y
  exact fun H locs ls hS hl => lv_dup C.1 C.2.1 hd ((dm_cat_ok v).trans hv) (k H locs ls hS hl)
theorem r_pop {v : DV} (C : dm_C Y cc own rm) (hd : decode cc pc = .ok (.pop, 1)) (hv : dm_cat v = 1) (k : dm_W Y cs ss st (pc + 1) lv (stk)) : dm_W Y cs ss st pc lv (v :: stk) := by
  obtain ⟨⟨p, l, e, R, s⟩, ⟨m, args, below, meth, c⟩, ⟨D, dA, A0, nL, Q⟩⟩ := Y
  exact fun H locs ls hS hl => lv_pop C.1 C.2.1 hd ((dm_cat_ok v).trans hv) (k H locs ls hS hl)
theorem r_dup2 {v w : DV} (C : dm_C Y cc own rm) (hd : decode cc pc = .ok (.dup2, 1)) (hv : dm_cat v = 1) (hw : dm_cat w = 1) (k : dm_W Y cs ss st (pc + 1) lv (v :: w :: v :: w :: stk)) : dm_W Y cs ss st pc lv (v :: w :: stk) := by
  obtain ⟨⟨p, l, e, R, s⟩, ⟨m, args, below, meth, c⟩, ⟨D, dA, A0, nL, Q⟩⟩ := Y
  exact fun H locs ls hS hl => lv_dup2_11 C.1 C.2.1 hd ((dm_cat_ok v).trans hv) ((dm_cat_ok w).trans hw) (k H locs ls hS hl)
theorem r_iload_n {q : Fin 4} {i : Nat} {x : Int32} (C : dm_C Y cc own rm) (hd : decode cc pc = .ok (.iload_n q, 1)) (hi : (q : Nat) = i) (pos : Nat) (hl : lv[pos]? = some (i, DI x)) (k : dm_W Y cs ss st (pc + 1) lv (DI x :: stk)) : dm_W Y cs ss st pc lv (stk) := by
  obtain ⟨⟨p, l, e, R, s⟩, ⟨m, args, below, meth, c⟩, ⟨D, dA, A0, nL, Q⟩⟩ := Y
  exact fun H locs ls hS hl => lv_iload_n C.1 C.2.1 hd hi (dm_at ‹_› pos ‹_›) (k H locs ls hS ‹_›)
theorem r_iload {i : Nat} {x : Int32} (C : dm_C Y cc own rm) (hd : decode cc pc = .ok (.iload i, 2)) (pos : Nat) (hl : lv[pos]? = some (i, DI x)) (k : dm_W Y cs ss st (pc + 2) lv (DI x :: stk)) : dm_W Y cs ss st pc lv (stk) := by
  obtain ⟨⟨p, l, e, R, s⟩, ⟨m, args, below, meth, c⟩, ⟨D, dA, A0, nL, Q⟩⟩ := Y
  exact fun H locs ls hS hl => lv_iload C.1 C.2.1 hd (dm_at ‹_› pos ‹_›) (k H locs ls hS ‹_›)
theorem r_lload_n {q : Fin 4} {i : Nat} {x : Int64} (C : dm_C Y cc own rm) (hd : decode cc pc = .ok (.lload_n q, 1)) (hi : (q : Nat) = i) (pos : Nat) (hl : lv[pos]? = some (i, DL x)) (k : dm_W Y cs ss st (pc + 1) lv (DL x :: stk)) : dm_W Y cs ss st pc lv (stk) := by
  obtain ⟨⟨p, l, e, R, s⟩, ⟨m, args, below, meth, c⟩, ⟨D, dA, A0, nL, Q⟩⟩ := Y
  exact fun H locs ls hS hl => lv_lload_n C.1 C.2.1 hd hi (dm_at ‹_› pos ‹_›) (k H locs ls hS ‹_›)
theorem r_lload {i : Nat} {x : Int64} (C : dm_C Y cc own rm) (hd : decode cc pc = .ok (.lload i, 2)) (pos : Nat) (hl : lv[pos]? = some (i, DL x)) (k : dm_W Y cs ss st (pc + 2) lv (DL x :: stk)) : dm_W Y cs ss st pc lv (stk) := by
  obtain ⟨⟨p, l, e, R, s⟩, ⟨m, args, below, meth, c⟩, ⟨D, dA, A0, nL, Q⟩⟩ := Y
  exact fun H locs ls hS hl => lv_lload C.1 C.2.1 hd (dm_at ‹_› pos ‹_›) (k H locs ls hS ‹_›)
theorem r_dload_n {q : Fin 4} {i : Nat} {x : UInt64} (C : dm_C Y cc own rm) (hd : decode cc pc = .ok (.dload_n q, 1)) (hi : (q : Nat) = i) (pos : Nat) (hl : lv[pos]? = some (i, DD x)) (k : dm_W Y cs ss st (pc + 1) lv (DD x :: stk)) : dm_W Y cs ss st pc lv (stk) := by
  obtain ⟨⟨p, l, e, R, s⟩, ⟨m, args, below, meth, c⟩, ⟨D, dA, A0, nL, Q⟩⟩ := Y
  exact fun H locs ls hS hl => lv_dload_n C.1 C.2.1 hd hi (dm_at ‹_› pos ‹_›) (k H locs ls hS ‹_›)
theorem r_dload {i : Nat} {x : UInt64} (C : dm_C Y cc own rm) (hd : decode cc pc = .ok (.dload i, 2)) (pos : Nat) (hl : lv[pos]? = some (i, DD x)) (k : dm_W Y cs ss st (pc + 2) lv (DD x :: stk)) : dm_W Y cs ss st pc lv (stk) := by
  obtain ⟨⟨p, l, e, R, s⟩, ⟨m, args, below, meth, c⟩, ⟨D, dA, A0, nL, Q⟩⟩ := Y
  exact fun H locs ls hS hl => lv_dload C.1 C.2.1 hd (dm_at ‹_› pos ‹_›) (k H locs ls hS ‹_›)
theorem r_aload_n {q : Fin 4} {i : Nat} {x : Option Nat} (C : dm_C Y cc own rm) (hd : decode cc pc = .ok (.aload_n q, 1)) (hi : (q : Nat) = i) (pos : Nat) (hv : lv[pos]? = some (i, DR x)) (k : dm_W Y cs ss st (pc + 1) lv (DR x :: stk)) : dm_W Y cs ss st pc lv (stk) := by
  obtain ⟨⟨p, l, e, R, s⟩, ⟨m, args, below, meth, c⟩, ⟨D, dA, A0, nL, Q⟩⟩ := Y
  exact fun H locs ls hS hl => by
    cases x with
    | none => exact lv_aload_nN C.1 C.2.1 hd hi (dm_at hl pos hv) (k H locs ls hS hl)
    | some a => exact lv_aload_n C.1 C.2.1 hd hi (dm_at hl pos hv) (k H locs ls hS hl)
theorem r_aload {i : Nat} {x : Option Nat} (C : dm_C Y cc own rm) (hd : decode cc pc = .ok (.aload i, 2)) (pos : Nat) (hv : lv[pos]? = some (i, DR x)) (k : dm_W Y cs ss st (pc + 2) lv (DR x :: stk)) : dm_W Y cs ss st pc lv (stk) := by
  obtain ⟨⟨p, l, e, R, s⟩, ⟨m, args, below, meth, c⟩, ⟨D, dA, A0, nL, Q⟩⟩ := Y
  exact fun H locs ls hS hl => by
    cases x with
    | none => exact lv_aloadN C.1 C.2.1 hd (dm_at hl pos hv) (k H locs ls hS hl)
    | some a => exact lv_aload C.1 C.2.1 hd (dm_at hl pos hv) (k H locs ls hS hl)
def dm_N (Y : DY) (n : Nat) : Prop := Y.2.2.2.2.2.1 = n
theorem r_istore_n {q : Fin 4} {i : Nat} {x : Int32} {nL : Nat} (C : dm_C Y cc own rm) (hm : dm_N Y nL) (hd : decode cc pc = .ok (.istore_n q, 1)) (hi : (q : Nat) = i) (hn : i < nL) (hs : dm_set1 lv i (DI x) = lv') (k : dm_W Y cs ss st (pc + 1) lv' stk) : dm_W Y cs ss st pc lv (DI x :: stk) := by
  obtain ⟨⟨p, l, e, R, s⟩, ⟨m, args, below, meth, c⟩, ⟨D, dA, A0, nL, Q⟩⟩ := Y
  have hm : nL = _ := hm
  subst hm
  exact fun H locs ls hS hl => lv_istore_n C.1 C.2.1 hd hi hl hn (dm_set1_lv hs) (fun ls hl => k H locs ls hS hl)
theorem r_istore {i : Nat} {x : Int32} {nL : Nat} (C : dm_C Y cc own rm) (hm : dm_N Y nL) (hd : decode cc pc = .ok (.istore i, 2)) (hn : i < nL) (hs : dm_set1 lv i (DI x) = lv') (k : dm_W Y cs ss st (pc + 2) lv' stk) : dm_W Y cs ss st pc lv (DI x :: stk) := by
  obtain ⟨⟨p, l, e, R, s⟩, ⟨m, args, below, meth, c⟩, ⟨D, dA, A0, nL, Q⟩⟩ := Y
  have hm : nL = _ := hm
  subst hm
  exact fun H locs ls hS hl => lv_istore C.1 C.2.1 hd hl hn (dm_set1_lv hs) (fun ls hl => k H locs ls hS hl)
theorem r_lstore_n {q : Fin 4} {i : Nat} {x : Int64} {nL : Nat} (C : dm_C Y cc own rm) (hm : dm_N Y nL) (hd : decode cc pc = .ok (.lstore_n q, 1)) (hi : (q : Nat) = i) (hn : i + 1 < nL) (hs : dm_set2 lv i (DL x) = lv') (k : dm_W Y cs ss st (pc + 1) lv' stk) : dm_W Y cs ss st pc lv (DL x :: stk) := by
  obtain ⟨⟨p, l, e, R, s⟩, ⟨m, args, below, meth, c⟩, ⟨D, dA, A0, nL, Q⟩⟩ := Y
  have hm : nL = _ := hm
  subst hm
  exact fun H locs ls hS hl => lv_lstore_n C.1 C.2.1 hd hi hl hn (dm_set2_lv hs) (fun ls hl => k H locs ls hS hl)
theorem r_lstore {i : Nat} {x : Int64} {nL : Nat} (C : dm_C Y cc own rm) (hm : dm_N Y nL) (hd : decode cc pc = .ok (.lstore i, 2)) (hn : i + 1 < nL) (hs : dm_set2 lv i (DL x) = lv') (k : dm_W Y cs ss st (pc + 2) lv' stk) : dm_W Y cs ss st pc lv (DL x :: stk) := by
  obtain ⟨⟨p, l, e, R, s⟩, ⟨m, args, below, meth, c⟩, ⟨D, dA, A0, nL, Q⟩⟩ := Y
  have hm : nL = _ := hm
  subst hm
  exact fun H locs ls hS hl => lv_lstore C.1 C.2.1 hd hl hn (dm_set2_lv hs) (fun ls hl => k H locs ls hS hl)
theorem r_dstore_n {q : Fin 4} {i : Nat} {x : UInt64} {nL : Nat} (C : dm_C Y cc own rm) (hm : dm_N Y nL) (hd : decode cc pc = .ok (.dstore_n q, 1)) (hi : (q : Nat) = i) (hn : i + 1 < nL) (hs : dm_set2 lv i (DD x) = lv') (k : dm_W Y cs ss st (pc + 1) lv' stk) : dm_W Y cs ss st pc lv (DD x :: stk) := by
  obtain ⟨⟨p, l, e, R, s⟩, ⟨m, args, below, meth, c⟩, ⟨D, dA, A0, nL, Q⟩⟩ := Y
  have hm : nL = _ := hm
  subst hm
  exact fun H locs ls hS hl => lv_dstore_n C.1 C.2.1 hd hi hl hn (dm_set2_lv hs) (fun ls hl => k H locs ls hS hl)
theorem r_dstore {i : Nat} {x : UInt64} {nL : Nat} (C : dm_C Y cc own rm) (hm : dm_N Y nL) (hd : decode cc pc = .ok (.dstore i, 2)) (hn : i + 1 < nL) (hs : dm_set2 lv i (DD x) = lv') (k : dm_W Y cs ss st (pc + 2) lv' stk) : dm_W Y cs ss st pc lv (DD x :: stk) := by
  obtain ⟨⟨p, l, e, R, s⟩, ⟨m, args, below, meth, c⟩, ⟨D, dA, A0, nL, Q⟩⟩ := Y
  have hm : nL = _ := hm
  subst hm
  exact fun H locs ls hS hl => lv_dstore C.1 C.2.1 hd hl hn (dm_set2_lv hs) (fun ls hl => k H locs ls hS hl)
theorem r_astore_n {q : Fin 4} {i : Nat} {x : Option Nat} {nL : Nat} (C : dm_C Y cc own rm) (hm : dm_N Y nL) (hd : decode cc pc = .ok (.astore_n q, 1)) (hi : (q : Nat) = i) (hn : i < nL) (hs : dm_set1 lv i (DR x) = lv') (k : dm_W Y cs ss st (pc + 1) lv' stk) : dm_W Y cs ss st pc lv (DR x :: stk) := by
  obtain ⟨⟨p, l, e, R, s⟩, ⟨m, args, below, meth, c⟩, ⟨D, dA, A0, nL, Q⟩⟩ := Y
  have hm : nL = _ := hm
  subst hm
  exact fun H locs ls hS hl => by
    cases x with
    | none => exact lv_astore_nN C.1 C.2.1 hd hi hl hn (dm_set1_lv hs) (fun ls hl => k H locs ls hS hl)
    | some a => exact lv_astore_n C.1 C.2.1 hd hi hl hn (dm_set1_lv hs) (fun ls hl => k H locs ls hS hl)
theorem r_astore {i : Nat} {x : Option Nat} {nL : Nat} (C : dm_C Y cc own rm) (hm : dm_N Y nL) (hd : decode cc pc = .ok (.astore i, 2)) (hn : i < nL) (hs : dm_set1 lv i (DR x) = lv') (k : dm_W Y cs ss st (pc + 2) lv' stk) : dm_W Y cs ss st pc lv (DR x :: stk) := by
  obtain ⟨⟨p, l, e, R, s⟩, ⟨m, args, below, meth, c⟩, ⟨D, dA, A0, nL, Q⟩⟩ := Y
  have hm : nL = _ := hm
  subst hm
  exact fun H locs ls hS hl => by
    cases x with
    | none => exact lv_astoreN C.1 C.2.1 hd hl hn (dm_set1_lv hs) (fun ls hl => k H locs ls hS hl)
    | some a => exact lv_astore C.1 C.2.1 hd hl hn (dm_set1_lv hs) (fun ls hl => k H locs ls hS hl)
theorem r_iinc {i nL pos : Nat} {n : Int} {x v : Int32} (C : dm_C Y cc own rm) (hm : dm_N Y nL) (hd : decode cc pc = .ok (.iinc i n, 3)) (hv : lv[pos]? = some (i, DI x)) (he : x + Int32.ofInt n = v) (hn : i < nL) (hs : dm_set1 lv i (DI v) = lv') (k : dm_W Y cs ss st (pc + 3) lv' stk) : dm_W Y cs ss st pc lv stk := by
  obtain ⟨⟨p, l, e, R, s⟩, ⟨m, args, below, meth, c⟩, ⟨D, dA, A0, nL, Q⟩⟩ := Y
  have hm : nL = _ := hm
  subst hm
  exact fun H locs ls hS hl => lv_iinc C.1 C.2.1 hd hl (k := pos) (by unfold dm_lv; rw [List.getElem?_map, hv]; rfl) he hn (dm_set1_lv hs) (fun ls hl => k H locs ls hS hl)
theorem r_icmp_eq {x y : Int32} {off : Int} {tgt : Nat} (C : dm_C Y cc own rm) (hd : decode cc pc = .ok (.if_icmp .eq off, 3)) (ht : (pc : Int) + off = (tgt : Int)) (kt : x = y → dm_W Y cs ss st tgt lv stk) (kf : ¬ x = y → dm_W Y cs ss st (pc + 3) lv stk) : dm_W Y cs ss st pc lv (DI y :: DI x :: stk) := by
  obtain ⟨⟨p, l, e, R, s⟩, ⟨m, args, below, meth, c⟩, ⟨D, dA, A0, nL, Q⟩⟩ := Y
  exact fun H locs ls hS hl => lv_icmp_eq C.1 C.2.1 hd ht (fun h => kt h H locs ls hS hl) (fun h => kf h H locs ls hS hl)
theorem r_if_eq {x : Int32} {off : Int} {tgt : Nat} (C : dm_C Y cc own rm) (hd : decode cc pc = .ok (.ifCond .eq off, 3)) (ht : (pc : Int) + off = (tgt : Int)) (kt : x = 0 → dm_W Y cs ss st tgt lv stk) (kf : ¬ x = 0 → dm_W Y cs ss st (pc + 3) lv stk) : dm_W Y cs ss st pc lv (DI x :: stk) := by
  obtain ⟨⟨p, l, e, R, s⟩, ⟨m, args, below, meth, c⟩, ⟨D, dA, A0, nL, Q⟩⟩ := Y
  exact fun H locs ls hS hl => lv_if_eq C.1 C.2.1 hd ht (fun h => kt h H locs ls hS hl) (fun h => kf h H locs ls hS hl)
theorem r_icmp_ne {x y : Int32} {off : Int} {tgt : Nat} (C : dm_C Y cc own rm) (hd : decode cc pc = .ok (.if_icmp .ne off, 3)) (ht : (pc : Int) + off = (tgt : Int)) (kt : ¬ x = y → dm_W Y cs ss st tgt lv stk) (kf : x = y → dm_W Y cs ss st (pc + 3) lv stk) : dm_W Y cs ss st pc lv (DI y :: DI x :: stk) := by
  obtain ⟨⟨p, l, e, R, s⟩, ⟨m, args, below, meth, c⟩, ⟨D, dA, A0, nL, Q⟩⟩ := Y
  exact fun H locs ls hS hl => lv_icmp_ne C.1 C.2.1 hd ht (fun h => kt h H locs ls hS hl) (fun h => kf h H locs ls hS hl)
theorem r_if_ne {x : Int32} {off : Int} {tgt : Nat} (C : dm_C Y cc own rm) (hd : decode cc pc = .ok (.ifCond .ne off, 3)) (ht : (pc : Int) + off = (tgt : Int)) (kt : ¬ x = 0 → dm_W Y cs ss st tgt lv stk) (kf : x = 0 → dm_W Y cs ss st (pc + 3) lv stk) : dm_W Y cs ss st pc lv (DI x :: stk) := by
  obtain ⟨⟨p, l, e, R, s⟩, ⟨m, args, below, meth, c⟩, ⟨D, dA, A0, nL, Q⟩⟩ := Y
  exact fun H locs ls hS hl => lv_if_ne C.1 C.2.1 hd ht (fun h => kt h H locs ls hS hl) (fun h => kf h H locs ls hS hl)
theorem r_icmp_lt {x y : Int32} {off : Int} {tgt : Nat} (C : dm_C Y cc own rm) (hd : decode cc pc = .ok (.if_icmp .lt off, 3)) (ht : (pc : Int) + off = (tgt : Int)) (kt : x < y → dm_W Y cs ss st tgt lv stk) (kf : ¬ x < y → dm_W Y cs ss st (pc + 3) lv stk) : dm_W Y cs ss st pc lv (DI y :: DI x :: stk) := by
  obtain ⟨⟨p, l, e, R, s⟩, ⟨m, args, below, meth, c⟩, ⟨D, dA, A0, nL, Q⟩⟩ := Y
  exact fun H locs ls hS hl => lv_icmp_lt C.1 C.2.1 hd ht (fun h => kt h H locs ls hS hl) (fun h => kf h H locs ls hS hl)
theorem r_if_lt {x : Int32} {off : Int} {tgt : Nat} (C : dm_C Y cc own rm) (hd : decode cc pc = .ok (.ifCond .lt off, 3)) (ht : (pc : Int) + off = (tgt : Int)) (kt : x < 0 → dm_W Y cs ss st tgt lv stk) (kf : ¬ x < 0 → dm_W Y cs ss st (pc + 3) lv stk) : dm_W Y cs ss st pc lv (DI x :: stk) := by
  obtain ⟨⟨p, l, e, R, s⟩, ⟨m, args, below, meth, c⟩, ⟨D, dA, A0, nL, Q⟩⟩ := Y
  exact fun H locs ls hS hl => lv_if_lt C.1 C.2.1 hd ht (fun h => kt h H locs ls hS hl) (fun h => kf h H locs ls hS hl)
theorem r_icmp_ge {x y : Int32} {off : Int} {tgt : Nat} (C : dm_C Y cc own rm) (hd : decode cc pc = .ok (.if_icmp .ge off, 3)) (ht : (pc : Int) + off = (tgt : Int)) (kt : y ≤ x → dm_W Y cs ss st tgt lv stk) (kf : ¬ y ≤ x → dm_W Y cs ss st (pc + 3) lv stk) : dm_W Y cs ss st pc lv (DI y :: DI x :: stk) := by
  obtain ⟨⟨p, l, e, R, s⟩, ⟨m, args, below, meth, c⟩, ⟨D, dA, A0, nL, Q⟩⟩ := Y
  exact fun H locs ls hS hl => lv_icmp_ge C.1 C.2.1 hd ht (fun h => kt h H locs ls hS hl) (fun h => kf h H locs ls hS hl)
theorem r_if_ge {x : Int32} {off : Int} {tgt : Nat} (C : dm_C Y cc own rm) (hd : decode cc pc = .ok (.ifCond .ge off, 3)) (ht : (pc : Int) + off = (tgt : Int)) (kt : 0 ≤ x → dm_W Y cs ss st tgt lv stk) (kf : ¬ 0 ≤ x → dm_W Y cs ss st (pc + 3) lv stk) : dm_W Y cs ss st pc lv (DI x :: stk) := by
  obtain ⟨⟨p, l, e, R, s⟩, ⟨m, args, below, meth, c⟩, ⟨D, dA, A0, nL, Q⟩⟩ := Y
  exact fun H locs ls hS hl => lv_if_ge C.1 C.2.1 hd ht (fun h => kt h H locs ls hS hl) (fun h => kf h H locs ls hS hl)
theorem r_icmp_gt {x y : Int32} {off : Int} {tgt : Nat} (C : dm_C Y cc own rm) (hd : decode cc pc = .ok (.if_icmp .gt off, 3)) (ht : (pc : Int) + off = (tgt : Int)) (kt : y < x → dm_W Y cs ss st tgt lv stk) (kf : ¬ y < x → dm_W Y cs ss st (pc + 3) lv stk) : dm_W Y cs ss st pc lv (DI y :: DI x :: stk) := by
  obtain ⟨⟨p, l, e, R, s⟩, ⟨m, args, below, meth, c⟩, ⟨D, dA, A0, nL, Q⟩⟩ := Y
  exact fun H locs ls hS hl => lv_icmp_gt C.1 C.2.1 hd ht (fun h => kt h H locs ls hS hl) (fun h => kf h H locs ls hS hl)
theorem r_if_gt {x : Int32} {off : Int} {tgt : Nat} (C : dm_C Y cc own rm) (hd : decode cc pc = .ok (.ifCond .gt off, 3)) (ht : (pc : Int) + off = (tgt : Int)) (kt : 0 < x → dm_W Y cs ss st tgt lv stk) (kf : ¬ 0 < x → dm_W Y cs ss st (pc + 3) lv stk) : dm_W Y cs ss st pc lv (DI x :: stk) := by
  obtain ⟨⟨p, l, e, R, s⟩, ⟨m, args, below, meth, c⟩, ⟨D, dA, A0, nL, Q⟩⟩ := Y
  exact fun H locs ls hS hl => lv_if_gt C.1 C.2.1 hd ht (fun h => kt h H locs ls hS hl) (fun h => kf h H locs ls hS hl)
theorem r_icmp_le {x y : Int32} {off : Int} {tgt : Nat} (C : dm_C Y cc own rm) (hd : decode cc pc = .ok (.if_icmp .le off, 3)) (ht : (pc : Int) + off = (tgt : Int)) (kt : x ≤ y → dm_W Y cs ss st tgt lv stk) (kf : ¬ x ≤ y → dm_W Y cs ss st (pc + 3) lv stk) : dm_W Y cs ss st pc lv (DI y :: DI x :: stk) := by
  obtain ⟨⟨p, l, e, R, s⟩, ⟨m, args, below, meth, c⟩, ⟨D, dA, A0, nL, Q⟩⟩ := Y
  exact fun H locs ls hS hl => lv_icmp_le C.1 C.2.1 hd ht (fun h => kt h H locs ls hS hl) (fun h => kf h H locs ls hS hl)
theorem r_if_le {x : Int32} {off : Int} {tgt : Nat} (C : dm_C Y cc own rm) (hd : decode cc pc = .ok (.ifCond .le off, 3)) (ht : (pc : Int) + off = (tgt : Int)) (kt : x ≤ 0 → dm_W Y cs ss st tgt lv stk) (kf : ¬ x ≤ 0 → dm_W Y cs ss st (pc + 3) lv stk) : dm_W Y cs ss st pc lv (DI x :: stk) := by
  obtain ⟨⟨p, l, e, R, s⟩, ⟨m, args, below, meth, c⟩, ⟨D, dA, A0, nL, Q⟩⟩ := Y
  exact fun H locs ls hS hl => lv_if_le C.1 C.2.1 hd ht (fun h => kt h H locs ls hS hl) (fun h => kf h H locs ls hS hl)
theorem r_ifnull {r : Option Nat} {off : Int} {tgt : Nat} (C : dm_C Y cc own rm) (hd : decode cc pc = .ok (.ifnull off, 3)) (ht : (pc : Int) + off = (tgt : Int)) (kt : r = none → dm_W Y cs ss st tgt lv stk) (kf : ∀ a, r = some a → dm_W Y cs ss st (pc + 3) lv stk) : dm_W Y cs ss st pc lv (DR r :: stk) := by
  obtain ⟨⟨p, l, e, R, s⟩, ⟨m, args, below, meth, c⟩, ⟨D, dA, A0, nL, Q⟩⟩ := Y
  cases r with
  | none => exact fun H locs ls hS hl => lv_ifnullN C.1 C.2.1 hd ht (kt rfl H locs ls hS hl)
  | some a => exact fun H locs ls hS hl => lv_ifnull C.1 C.2.1 hd (kf a rfl H locs ls hS hl)
theorem r_ifnonnull {r : Option Nat} {off : Int} {tgt : Nat} (C : dm_C Y cc own rm) (hd : decode cc pc = .ok (.ifnonnull off, 3)) (ht : (pc : Int) + off = (tgt : Int)) (kt : ∀ a, r = some a → dm_W Y cs ss st tgt lv stk) (kf : r = none → dm_W Y cs ss st (pc + 3) lv stk) : dm_W Y cs ss st pc lv (DR r :: stk) := by
  obtain ⟨⟨p, l, e, R, s⟩, ⟨m, args, below, meth, c⟩, ⟨D, dA, A0, nL, Q⟩⟩ := Y
  cases r with
  | none => exact fun H locs ls hS hl => lv_ifnonnullN C.1 C.2.1 hd (kf rfl H locs ls hS hl)
  | some a => exact fun H locs ls hS hl => lv_ifnonnull C.1 C.2.1 hd ht (kt a rfl H locs ls hS hl)
theorem r_goto {off : Int} {tgt : Nat} (C : dm_C Y cc own rm) (hd : decode cc pc = .ok (.goto off, 3)) (ht : (pc : Int) + off = (tgt : Int)) (k : dm_W Y cs ss st tgt lv stk) : dm_W Y cs ss st pc lv stk := by
  obtain ⟨⟨p, l, e, R, s⟩, ⟨m, args, below, meth, c⟩, ⟨D, dA, A0, nL, Q⟩⟩ := Y
  exact fun H locs ls hS hl => lv_goto C.1 C.2.1 hd ht (k H locs ls hS hl)
theorem r_tswIn {dflt lo hi : Int} {offs : Array Int} {len : Nat} {x : Int32} {off : Int} {tgt : Nat} (C : dm_C Y cc own rm) (hd : decode cc pc = .ok (.tableswitch dflt lo hi offs, len)) (h1 : ¬ x.toInt < lo) (h2 : ¬ hi < x.toInt) (ho : offs[(x.toInt - lo).toNat]? = some off) (ht : (pc : Int) + off = (tgt : Int)) (k : dm_W Y cs ss st tgt lv stk) : dm_W Y cs ss st pc lv (DI x :: stk) := by
  obtain ⟨⟨p, l, e, R, s⟩, ⟨m, args, below, meth, c⟩, ⟨D, dA, A0, nL, Q⟩⟩ := Y
  exact fun H locs ls hS hl => lv_tableIn C.1 C.2.1 hd h1 h2 ho ht (k H locs ls hS hl)
theorem r_tswOut {dflt lo hi : Int} {offs : Array Int} {len : Nat} {x : Int32} {tgt : Nat} (C : dm_C Y cc own rm) (hd : decode cc pc = .ok (.tableswitch dflt lo hi offs, len)) (h : x.toInt < lo ∨ hi < x.toInt) (ht : (pc : Int) + dflt = (tgt : Int)) (k : dm_W Y cs ss st tgt lv stk) : dm_W Y cs ss st pc lv (DI x :: stk) := by
  obtain ⟨⟨p, l, e, R, s⟩, ⟨m, args, below, meth, c⟩, ⟨D, dA, A0, nL, Q⟩⟩ := Y
  exact fun H locs ls hS hl => lv_tableOut C.1 C.2.1 hd h ht (k H locs ls hS hl)
theorem dm_out {x : Int32} {n : Nat} (hn : n < 1000) (h : ∀ k, k < n → ¬ x = nI k) : x.toInt < 0 ∨ ((n : Int) - 1) < x.toInt := by
  rcases Int.lt_or_le x.toInt 0 with q | q
  · exact Or.inl q
  · refine Or.inr ?_
    rcases Int.lt_or_le ((n : Int) - 1) x.toInt with r | r
    · exact r
    · refine absurd ?_ (h x.toInt.toNat (by omega))
      rw [← Int32.toInt_inj, nI_toInt (by omega)]
      omega
theorem r_ldc2 {index : Nat} {v : Int64} (C : dm_C Y cc own rm) (hw : Cond.constantLong own index v ∈ WALL) (hd : decode cc pc = .ok (.ldc2_w index, 3)) (k : dm_W Y cs ss st (pc + 3) lv (DL v :: stk)) : dm_W Y cs ss st pc lv stk := by
  obtain ⟨⟨p, l, e, R, s⟩, ⟨m, args, below, meth, c⟩, ⟨D, dA, A0, nL, Q⟩⟩ := Y
  obtain ⟨hx, hb, hml, hown, hts, -⟩ := C
  exact fun H locs ls hS hl => lv_ldc2 hx hb hown (hts _ hw) hd (k H locs ls hS hl)
theorem r_ldc {index : Nat} {v : Int32} (C : dm_C Y cc own rm) (hw : Cond.constant own index v ∈ WALL) (hd : decode cc pc = .ok (.ldc index, 2)) (k : dm_W Y cs ss st (pc + 2) lv (DI v :: stk)) : dm_W Y cs ss st pc lv stk := by
  obtain ⟨⟨p, l, e, R, s⟩, ⟨m, args, below, meth, c⟩, ⟨D, dA, A0, nL, Q⟩⟩ := Y
  obtain ⟨hx, hb, hml, hown, hts, -⟩ := C
  exact fun H locs ls hS hl => lv_ldc hx hb hown (hts _ hw) hd (k H locs ls hS hl)
theorem r_ishr {x y : Int32} (C : dm_C Y cc own rm) (hd : decode cc pc = .ok (.ishr, 1)) (k : dm_W Y cs ss st (pc + 1) lv (DI (x >>> (y &&& 31)) :: stk)) : dm_W Y cs ss st pc lv (DI y :: DI x :: stk) := by
  obtain ⟨⟨p, l, e, R, s⟩, ⟨m, args, below, meth, c⟩, ⟨D, dA, A0, nL, Q⟩⟩ := Y
  exact fun H locs ls hS hl => lv_ishr C.1 C.2.1 hd (k H locs ls hS hl)
theorem r_irem {x y z : Int32} (C : dm_C Y cc own rm) (hd : decode cc pc = .ok (.irem, 1)) (hz : oM x y = some z) (k : dm_W Y cs ss st (pc + 1) lv (DI z :: stk)) : dm_W Y cs ss st pc lv (DI y :: DI x :: stk) := by
  obtain ⟨⟨p, l, e, R, s⟩, ⟨m, args, below, meth, c⟩, ⟨D, dA, A0, nL, Q⟩⟩ := Y
  exact fun H locs ls hS hl => by
    obtain ⟨h0, rfl⟩ := oM_spec hz
    exact lv_irem C.1 C.2.1 hd h0 (k H locs ls hS hl)
end DRULES
end
section
section DHEAP
variable {Y : DY} {cc : ByteArray} {own : String} {rm : Room} {cs ss pc : Nat} {st st1 : DSt} {lv : List (Nat × DV)} {stk : List DV}
def dm_CF (C : String) (T : u_T) (N ci : Nat) (ty : Nat → FieldType) : Prop := (∀ w ∈ u_ws C T N, w ∈ WALL) ∧ (∀ k, k < N → parseFieldDescriptor (T k).2.2.1 = some (ty k)) ∧ (∀ a, a < N → ∀ b, b < N → a ≠ b → (T a).2.1 ≠ (T b).2.1) ∧ vwCl[ci]? = some (C, T, N)
theorem dm_P1 {D : va_G} {a : Nat} {e : va_E} {H : Heap} (h : va_at D vwCl (a, e) H) : va_P D vwCl [(a, e)] H := fun k q hk => by
  cases k with
  | zero => cases hk; exact h
  | succ k => cases hk
theorem r_getV {C : String} {T : u_T} {N ci : Nat} {ty : Nat → FieldType} (CF : dm_CF C T N ci ty) {r : Option Nat} {k idx : Nat} {v : DV} (Cx : dm_C Y cc own rm) (hk : k < N) (hw : Cond.fieldLink own idx (T k).1 (T k).2.1 (T k).2.2.1 ∈ WALL) (hd : decode cc pc = .ok (.getfield idx, 3)) (hv : gV st r ci k = some v) (kk : dm_W Y cs ss st (pc + 3) lv (v :: stk)) : dm_W Y cs ss st pc lv (DR r :: stk) := by
  obtain ⟨⟨p, l, e, R, s⟩, ⟨m, args, below, meth, c⟩, ⟨D, dA, A0, nL, Q⟩⟩ := Y
  obtain ⟨hx, hb, hml, hown, hts, hK, -⟩ := Cx
  obtain ⟨⟨a, fs⟩, hq, hu⟩ := ob hv
  clear hv
  have hv := hu
  clear hu
  obtain ⟨rfl, hst⟩ := gO_spec hq
  have hv : fs[k]? = some v := hv
  have hts' : ∀ w ∈ u_ws C T N, w.before args s = true := fun w hw => hts w (CF.1 w hw)
  intro H locs ls hS hl
  exact va_get (D := D) (ci := ci) (v := dm_v v) (C := C) (T := T) (N := N) (Ts := WALL) (fs := fs.map dm_v) hx hb hts CF.1 hown hK (dm_P1 (hS.1 _ _ hst)) 0 rfl CF.2.2.2 k hk (hts _ hw) (fun _ h => h) (by rw [List.getElem?_map, hv]; rfl) hd (kk H locs ls hS hl)
theorem r_getI {C : String} {T : u_T} {N ci : Nat} {ty : Nat → FieldType} (CF : dm_CF C T N ci ty) {r : Option Nat} {k idx : Nat} {v : Int32} (Cx : dm_C Y cc own rm) (hk : k < N) (hw : Cond.fieldLink own idx (T k).1 (T k).2.1 (T k).2.2.1 ∈ WALL) (hd : decode cc pc = .ok (.getfield idx, 3)) (hv : gI st r ci k = some v) (kk : dm_W Y cs ss st (pc + 3) lv (DI v :: stk)) : dm_W Y cs ss st pc lv (DR r :: stk) := by
  obtain ⟨z, h1, h2⟩ := ob hv
  have h2 := asI_spec h2
  subst h2
  exact r_getV CF Cx hk hw hd h1 kk
theorem r_getR {C : String} {T : u_T} {N ci : Nat} {ty : Nat → FieldType} (CF : dm_CF C T N ci ty) {r : Option Nat} {k idx : Nat} {v : Option Nat} (Cx : dm_C Y cc own rm) (hk : k < N) (hw : Cond.fieldLink own idx (T k).1 (T k).2.1 (T k).2.2.1 ∈ WALL) (hd : decode cc pc = .ok (.getfield idx, 3)) (hv : gR st r ci k = some v) (kk : dm_W Y cs ss st (pc + 3) lv (DR v :: stk)) : dm_W Y cs ss st pc lv (DR r :: stk) := by
  obtain ⟨z, h1, h2⟩ := ob hv
  have h2 := asR_spec h2
  subst h2
  exact r_getV CF Cx hk hw hd h1 kk
theorem dm_fr {t : FieldType} (h : (∃ n, t = .object n) ∨ ∃ u, t = .array u) (r : Option Nat) : narrow t (dm_v (DR r)) = dm_v (DR r) ∧ fits t (dm_v (DR r)) = true := by
  rcases h with ⟨n, rfl⟩ | ⟨u, rfl⟩ <;> cases r <;> exact ⟨rfl, rfl⟩
theorem r_put {C : String} {T : u_T} {N ci : Nat} {ty : Nat → FieldType} (CF : dm_CF C T N ci ty) {r : Option Nat} {k idx : Nat} {v : DV} (Cx : dm_C Y cc own rm) (hk : k < N) (hw : Cond.fieldLink own idx (T k).1 (T k).2.1 (T k).2.2.1 ∈ WALL) (hf : (T k).2.2.2 = false) (hn : narrow (ty k) (dm_v v) = dm_v v ∧ fits (ty k) (dm_v v) = true) (hd : decode cc pc = .ok (.putfield idx, 3)) (hv : pV st r ci k v = some st1) (kk : dm_W Y cs ss st1 (pc + 3) lv stk) : dm_W Y cs ss st pc lv (v :: DR r :: stk) := by
  obtain ⟨⟨p, l, e, R, s⟩, ⟨m, args, below, meth, c⟩, ⟨D, dA, A0, nL, Q⟩⟩ := Y
  obtain ⟨hx, hb, hml, hown, hts, hK, -⟩ := Cx
  obtain ⟨⟨a, fs⟩, hq, hu⟩ := ob hv
  clear hv
  have hv := hu
  clear hu
  obtain ⟨rfl, hst⟩ := gO_spec hq
  dsimp only at hv hst
  split at hv
  · rename_i hlen
    cases hv
    intro H locs ls ⟨hR, hsz, hdom, hva⟩ hl
    have hap := va_apart (own := own) hts CF.1 ty CF.2.1 CF.2.2.1 hK CF.2.2.2
    obtain ⟨r', h1, cell, q1, q2, q3, q4⟩ := hR _ _ hst
    have hr : r' = (C, T, N) := Option.some.inj (h1.symm.trans CF.2.2.2)
    subst hr
    obtain ⟨hS9, hfc, kC, hkC, hkind⟩ := hK.1 ci _ CF.2.2.2
    obtain ⟨cf, kf, fi, f, hi, hsl⟩ := hS9 k hk
    have hlay := hts _ (CF.1 _ (u_in_lay hk))
    unfold u_lay at hlay
    rw [if_neg (by rw [hf]; decide)] at hlay
    have hst9 := (u_facts hfc hkC (u_lays hts CF.1 hk) hi).1
    have h6 := u_store hfc hkC hkind hlay hi (CF.2.1 k hk) hn.1 hn.2
    refine W.putK hx hb (f := f) (v := dm_v v) ⟨hown, hts _ hw, ⟨_, _, _, hi⟩, hst9⟩ (by rw [q2]; exact h6) q1 q3 (by rw [hsl]; exact k2_hasslot (q4 k hk)) rfl rfl hd fun H' e1 e2 e3 => ?_
    rw [hsl] at e1
    refine kk H' _ ls ⟨hR.put e3 ⟨_, CF.2.2.2, t_OB.to (V := updV (vp_V (fs.map dm_v)) k (dm_v v)) ⟨_, e1, q2, q3, t_set q4 hap hk (dm_v v)⟩ (fun j _ => ?_)⟩, e2.trans hsz, dm_up_dom hdom (hdom _ _ hst), hva.put e2 e3 (hdom _ _ hst)⟩ hl
    show updV (vp_V (fs.map dm_v)) k (dm_v v) j = vp_V ((fs.set k v).map dm_v) j
    rw [List.map_set]
    exact vp_updV_set (by rw [List.length_map]; exact hlen) (dm_v v) j
  · cases hv
def dm_I (Y : DY) (own : String) : Prop := Y.2.1.2.2.2.1.name = "<init>"
theorem r_putF {C : String} {T : u_T} {N ci : Nat} {ty : Nat → FieldType} (CF : dm_CF C T N ci ty) {r : Option Nat} {k idx : Nat} {v : DV} (Cx : dm_C Y cc own rm) (hI : dm_I Y own) (hdecl : (T k).1 = own) (hk : k < N) (hw : Cond.fieldLink own idx (T k).1 (T k).2.1 (T k).2.2.1 ∈ WALL) (hf : (T k).2.2.2 = true) (hn : narrow (ty k) (dm_v v) = dm_v v ∧ fits (ty k) (dm_v v) = true) (hd : decode cc pc = .ok (.putfield idx, 3)) (hv : pV st r ci k v = some st1) (kk : dm_W Y cs ss st1 (pc + 3) lv stk) : dm_W Y cs ss st pc lv (v :: DR r :: stk) := by
  obtain ⟨⟨p, l, e, R, s⟩, ⟨m, args, below, meth, c⟩, ⟨D, dA, A0, nL, Q⟩⟩ := Y
  obtain ⟨hx, hb, hml, hown, hts, hK, -⟩ := Cx
  have hI : meth.name = "<init>" := hI
  obtain ⟨⟨a, fs⟩, hq, hu⟩ := ob hv
  clear hv
  have hv := hu
  clear hu
  obtain ⟨rfl, hst⟩ := gO_spec hq
  dsimp only at hv hst
  split at hv
  · rename_i hlen
    cases hv
    intro H locs ls ⟨hR, hsz, hdom, hva⟩ hl
    have hap := va_apart (own := own) hts CF.1 ty CF.2.1 CF.2.2.1 hK CF.2.2.2
    obtain ⟨r', h1, cell, q1, q2, q3, q4⟩ := hR _ _ hst
    have hr : r' = (C, T, N) := Option.some.inj (h1.symm.trans CF.2.2.2)
    subst hr
    obtain ⟨hS9, hfc, kC, hkC, hkind⟩ := hK.1 ci _ CF.2.2.2
    obtain ⟨cf, kf, fi, f, hi, hsl⟩ := hS9 k hk
    have hlay := hts _ (CF.1 _ (u_in_lay hk))
    unfold u_lay at hlay
    rw [if_pos hf] at hlay
    have hst9 := (u_facts hfc hkC (u_lays hts CF.1 hk) hi).1
    have hcf : m.cls = cf := by
      obtain ⟨_, _, c', _, _, _, -, -, hf', -, -, -, hown2, -⟩ := Cond.laysFinal_spec hlay
      have e1 : c' = cf := by have := hi.symm.trans hf'; simp at this; exact this.1.symm
      rw [hdecl] at hown2
      rw [← e1]; exact Option.some.inj (hown.symm.trans hown2)
    have h6 := u_fits hfc hkC hkind (Or.inr hlay) hi (CF.2.1 k hk) hn.1 hn.2
    refine W.putFinK hx hb hown (hts _ hw) hi hst9 hcf hI (v := dm_v v) (by rw [q2]; exact h6) q1 q3 (by rw [hsl]; exact k2_hasslot (q4 k hk)) rfl rfl hd fun H' e1 e2 e3 => ?_
    rw [hsl] at e1
    refine kk H' _ ls ⟨hR.put e3 ⟨_, CF.2.2.2, t_OB.to (V := updV (vp_V (fs.map dm_v)) k (dm_v v)) ⟨_, e1, q2, q3, t_set q4 hap hk (dm_v v)⟩ (fun j _ => ?_)⟩, e2.trans hsz, dm_up_dom hdom (hdom _ _ hst), hva.put e2 e3 (hdom _ _ hst)⟩ hl
    show updV (vp_V (fs.map dm_v)) k (dm_v v) j = vp_V ((fs.set k v).map dm_v) j
    rw [List.map_set]
    exact vp_updV_set (by rw [List.length_map]; exact hlen) (dm_v v) j
  · cases hv
/-! arrays -/
theorem r_iaload {r : Option Nat} {i x : Int32} (Cx : dm_C Y cc own rm) (hd : decode cc pc = .ok (.iaload, 1)) (hv : aI st r 0 i = some x) (kk : dm_W Y cs ss st (pc + 1) lv (DI x :: stk)) : dm_W Y cs ss st pc lv (DI i :: DR r :: stk) := by
  obtain ⟨⟨p, l, e, R, s⟩, ⟨m, args, below, meth, c⟩, ⟨D, dA, A0, nL, Q⟩⟩ := Y
  obtain ⟨hx, hb, hml, hown, hts, hK, -⟩ := Cx
  obtain ⟨⟨a, n, f⟩, hq, hu⟩ := ob hv
  clear hv
  have hv := hu
  clear hu
  obtain ⟨rfl, hst⟩ := gAI_spec hq
  dsimp only at hv hst
  split at hv
  · rename_i hin
    cases hv
    intro H locs ls hS hl
    exact va_iald hx hb hK (dm_P1 (hS.1 _ _ hst)) 0 0 (cA := dA 0) rfl rfl (inA_in hin) hd (kk H locs ls hS hl)
  · cases hv
theorem r_zaload {r : Option Nat} {i x : Int32} (Cx : dm_C Y cc own rm) (hd : decode cc pc = .ok (.baload, 1)) (hv : aI st r 1 i = some x) (kk : dm_W Y cs ss st (pc + 1) lv (DI x :: stk)) : dm_W Y cs ss st pc lv (DI i :: DR r :: stk) := by
  obtain ⟨⟨p, l, e, R, s⟩, ⟨m, args, below, meth, c⟩, ⟨D, dA, A0, nL, Q⟩⟩ := Y
  obtain ⟨hx, hb, hml, hown, hts, hK, -⟩ := Cx
  obtain ⟨⟨a, n, f⟩, hq, hu⟩ := ob hv
  clear hv
  have hv := hu
  clear hu
  obtain ⟨rfl, hst⟩ := gAI_spec hq
  dsimp only at hv hst
  split at hv
  · rename_i hin
    cases hv
    intro H locs ls hS hl
    exact va_zald hx hb hK (dm_P1 (hS.1 _ _ hst)) 0 1 (cA := dA 1) rfl rfl (inA_in hin) hd (kk H locs ls hS hl)
  · cases hv
theorem r_aaload {r x : Option Nat} {i : Int32} {kd : Nat} {E : String} (ht : ∀ dA : Nat → ClassId, (dm_tys dA)[kd]? = some (dA kd, .object E)) (Cx : dm_C Y cc own rm) (hd : decode cc pc = .ok (.aaload, 1)) (hv : aR st r kd i = some x) (kk : dm_W Y cs ss st (pc + 1) lv (DR x :: stk)) : dm_W Y cs ss st pc lv (DI i :: DR r :: stk) := by
  obtain ⟨⟨p, l, e, R, s⟩, ⟨m, args, below, meth, c⟩, ⟨D, dA, A0, nL, Q⟩⟩ := Y
  obtain ⟨hx, hb, hml, hown, hts, hK, -⟩ := Cx
  obtain ⟨⟨a, n, f⟩, hq, hu⟩ := ob hv
  clear hv
  have hv := hu
  clear hu
  obtain ⟨rfl, hst⟩ := gAR_spec hq
  dsimp only at hv hst
  split at hv
  · rename_i hin
    cases hv
    intro H locs ls hS hl
    exact va_aldq hx hb hK (dm_P1 (hS.1 _ _ hst)) 0 kd (cA := dA kd) rfl (ht dA) (inA_in hin) hd (kk H locs ls hS hl)
  · cases hv
theorem dm_sin {cA : ClassId} {n : Nat} {x : vp_A} {f : Nat → Value} {i : Int32} (hx : vp_cell cA x = arrV cA n f) (h : vp_in i n) : ¬ (i < 0 ∨ (vp_cell cA x).slots.size ≤ i.toNatClampNeg) := by rw [hx, arrV_size]; exact h
theorem r_iastore {r : Option Nat} {i x : Int32} (Cx : dm_C Y cc own rm) (hd : decode cc pc = .ok (.iastore, 1)) (hv : sI st r 0 i x = some st1) (kk : dm_W Y cs ss st1 (pc + 1) lv stk) : dm_W Y cs ss st pc lv (DI x :: DI i :: DR r :: stk) := by
  obtain ⟨⟨p, l, e, R, s⟩, ⟨m, args, below, meth, c⟩, ⟨D, dA, A0, nL, Q⟩⟩ := Y
  obtain ⟨hx, hb, hml, hown, hts, hK, -⟩ := Cx
  obtain ⟨⟨a, n, f⟩, hq, hu⟩ := ob hv
  clear hv
  have hv := hu
  clear hu
  obtain ⟨rfl, hst⟩ := gAI_spec hq
  dsimp only at hv hst
  split at hv
  · rename_i hin
    cases hv
    intro H locs ls ⟨hR, hsz, hdom, hva⟩ hl
    have hc : H[a]? = some (vp_cell (dA 0) (n, .inl f)) := hR _ _ hst
    refine W.iast hx hb hc ((hK.2 0 (dA 0, .int) rfl).1 n (fun j => .int (f j))) (fun q => by cases q) (dm_sin (vp_cell_i _ _ _) (inA_in hin)) rfl rfl hd fun H1 e1 z oq => ?_
    refine kk H1 _ ls ⟨hR.put oq ?_, z.trans hsz, dm_up_dom hdom (hdom _ _ hst), hva.put z oq (hdom _ _ hst)⟩ hl
    show H1[a]? = some (vp_cell _ _)
    rw [e1, vp_cell_i, vp_cell_i, arrV_store]
    congr 2
    funext q
    by_cases hq : q = i.toNatClampNeg
    · subst hq
      simp [updV, upd]
    · simp [updV, upd, hq]
  · cases hv
theorem r_zastore {r : Option Nat} {i x : Int32} (Cx : dm_C Y cc own rm) (hd : decode cc pc = .ok (.bastore, 1)) (hv : sI st r 1 i (vp_nar .boolean x) = some st1) (kk : dm_W Y cs ss st1 (pc + 1) lv stk) : dm_W Y cs ss st pc lv (DI x :: DI i :: DR r :: stk) := by
  obtain ⟨⟨p, l, e, R, s⟩, ⟨m, args, below, meth, c⟩, ⟨D, dA, A0, nL, Q⟩⟩ := Y
  obtain ⟨hx, hb, hml, hown, hts, hK, -⟩ := Cx
  obtain ⟨⟨a, n, f⟩, hq, hu⟩ := ob hv
  clear hv
  have hv := hu
  clear hu
  obtain ⟨rfl, hst⟩ := gAI_spec hq
  dsimp only at hv hst
  split at hv
  · rename_i hin
    cases hv
    intro H locs ls ⟨hR, hsz, hdom, hva⟩ hl
    have hc : H[a]? = some (vp_cell (dA 1) (n, .inl f)) := hR _ _ hst
    refine W.zast hx hb hc ((hK.2 1 (dA 1, .boolean) rfl).1 n (fun j => .int (f j))) (fun q => by cases q) (dm_sin (vp_cell_i _ _ _) (inA_in hin)) rfl rfl hd fun H1 e1 z oq => ?_
    refine kk H1 _ ls ⟨hR.put oq ?_, z.trans hsz, dm_up_dom hdom (hdom _ _ hst), hva.put z oq (hdom _ _ hst)⟩ hl
    show H1[a]? = some (vp_cell _ _)
    rw [e1, vp_cell_i, vp_cell_i, arrV_store]
    congr 2
    funext q
    by_cases hq : q = i.toNatClampNeg
    · subst hq
      simp [updV, upd, vp_nar]
      try rfl
    · simp [updV, upd, hq]
  · cases hv
theorem dm_cellq {H1 : Heap} {a n : Nat} {cA : ClassId} {f : Nat → Option Nat} {i : Int32} {v : Option Nat} (e1 : H1[a]? = some ((vp_cell cA (n, .inr (.inr (.inr (.inr f))))).setSlot i.toNatClampNeg (va_rf v))) : H1[a]? = some (vp_cell cA (n, .inr (.inr (.inr (.inr (va_up f i.toNatClampNeg v)))))) := by
  rw [e1, vp_cell_q, vp_cell_q, arrV_store]
  congr 2
  funext q
  by_cases hq : q = i.toNatClampNeg
  · subst hq
    simp [updV, va_up]
  · simp [updV, va_up, hq]
theorem r_aastore {r v : Option Nat} {i : Int32} {kd ci : Nat} {E : String} {T : u_T} {N : Nat} (ht : ∀ dA : Nat → ClassId, (dm_tys dA)[kd]? = some (dA kd, .object E)) (hc : vwCl[ci]? = some (E, T, N)) (Cx : dm_C Y cc own rm) (hd : decode cc pc = .ok (.aastore, 1)) (hv : sR st r kd ci i v = some st1) (kk : dm_W Y cs ss st1 (pc + 1) lv stk) : dm_W Y cs ss st pc lv (DR v :: DI i :: DR r :: stk) := by
  obtain ⟨⟨p, l, e, R, s⟩, ⟨m, args, below, meth, c⟩, ⟨D, dA, A0, nL, Q⟩⟩ := Y
  obtain ⟨hx, hb, hml, hown, hts, hK, -⟩ := Cx
  obtain ⟨⟨a, n, f⟩, hq, hu⟩ := ob hv
  clear hv
  have hv := hu
  clear hu
  obtain ⟨rfl, hst⟩ := gAR_spec hq
  dsimp only at hv hst
  split at hv
  · rename_i hin
    cases hv
    intro H locs ls ⟨hR, hsz, hdom, hva⟩ hl
    have hca : H[a]? = some (vp_cell (dA kd) (n, .inr (.inr (.inr (.inr f))))) := hR _ _ hst
    have hvi := inA_in hin.1
    have hlt : i.toNatClampNeg < n := Nat.not_le.mp fun q => hvi (Or.inr q)
    have h0 : ¬ i < 0 := fun q => hvi (Or.inl q)
    cases v with
    | none =>
      refine va_WaastN (C := E) hx hb hca ((hK.2 kd _ (ht dA)).1 n (fun j => va_rf (f j))) (fun q => by cases q) (dm_sin (vp_cell_q _ _ _) hvi) rfl rfl hd fun H1 e1 z oq => ?_
      exact kk H1 _ ls ⟨hR.put oq (dm_cellq (v := none) e1), z.trans hsz, dm_up_dom hdom (hdom _ _ hst), hva.put z oq (hdom _ _ hst)⟩ hl
    | some b =>
      obtain ⟨⟨b', vs⟩, hb'⟩ := Option.isSome_iff_exists.mp (show (gO st (some b) ci).isSome = true from hin.2)
      obtain ⟨hbb, hst2⟩ := gO_spec hb'
      cases hbb
      obtain ⟨r', hr', cellV, g1, g2, g3, -⟩ := hR _ _ hst2
      have hcls := (hK.1 ci _ hc).2
      obtain ⟨kA, comp, k1, k2, k3, -⟩ := (hK.2 kd _ (ht dA)).2
      have hcomp : comp = D.1 ci := Option.some.inj (k3.symm.trans hcls.1)
      subst hcomp
      obtain ⟨kC, hkC, -⟩ := id hcls.2
      have k1' : s.vm.classes[(vp_cell (dA kd) (n, .inr (.inr (.inr (.inr f))))).cls]? = some kA := k1
      refine W.aast hx hb hca (fun q h => by cases h) (fun h => by cases h) k1' k2 rfl hkC ⟨h0, by rw [vp_cell_q, arrV_size]; exact hlt⟩ g1 (fun q h => by rw [g3] at h; cases h) (by rw [g2]; exact hkC) (by rw [g2]; exact va_assign hcls) rfl rfl hd fun H1 e1 z oq => ?_
      exact kk H1 _ ls ⟨hR.put oq (dm_cellq (v := some b') e1), z.trans hsz, dm_up_dom hdom (hdom _ _ hst), hva.put z oq (hdom _ _ hst)⟩ hl
  · cases hv
theorem r_alen {r : Option Nat} {kd : Nat} {x : Int32} {t : FieldType} (ht : ∀ dA : Nat → ClassId, (dm_tys dA)[kd]? = some (dA kd, t)) (Cx : dm_C Y cc own rm) (hd : decode cc pc = .ok (.arraylength, 1)) (hv : aN st r kd = some x) (kk : dm_W Y cs ss st (pc + 1) lv (DI x :: stk)) : dm_W Y cs ss st pc lv (DR r :: stk) := by
  obtain ⟨⟨p, l, e, R, s⟩, ⟨m, args, below, meth, c⟩, ⟨D, dA, A0, nL, Q⟩⟩ := Y
  obtain ⟨hx, hb, hml, hown, hts, hK, -⟩ := Cx
  obtain ⟨⟨a, z⟩, hq, hu⟩ := ob hv
  clear hv
  have hv := hu
  clear hu
  obtain ⟨rfl, hst⟩ := gA_spec hq
  cases hv
  intro H locs ls hS hl
  exact va_alen hx hb hK (dm_P1 (hS.1 _ _ hst)) 0 kd (cA := dA kd) (x := z) rfl (ht dA) rfl hd (kk H locs ls hS hl)
/-! what is new -/
theorem r_new {C : String} {T : u_T} {N ci : Nat} {ty : Nat → FieldType} (CF : dm_CF C T N ci ty) {idx : Nat} {fs : List DV} (Cx : dm_C Y cc own rm) (w1 : Cond.classLink own idx C ∈ WALL) (w2 : Cond.instantiable C N ∈ WALL) (w3 : Cond.initialized C ∈ WALL) (hfs : ∀ j, j < N → defaultValue (ty j) = vp_V (fs.map dm_v) j) (hc : cs + 1 ≤ rm.cells ∧ ss + N ≤ rm.slots) (hd : decode cc pc = .ok (.new idx, 3)) (kk : dm_W Y (cs + 1) (ss + N) (nC st (.inr (ci, fs))) (pc + 3) lv (DR (some st.1) :: stk)) : dm_W Y cs ss st pc lv stk := by
  obtain ⟨⟨p, l, e, R, s⟩, ⟨m, args, below, meth, c⟩, ⟨D, dA, A0, nL, Q⟩⟩ := Y
  obtain ⟨hx, hb, hml, hown, hts, hK, hA, hRm, -⟩ := Cx
  subst hRm
  intro H locs ls ⟨hR, hsz, hdom, hva⟩ hl
  have hKn := hK.1 ci _ CF.2.2.2
  refine W.newcK hx hb hown (hts _ w1) (hts _ w2) (hts _ w3) rfl hd hc.1 hc.2 hKn.2.1 rfl fun H1 kC hkC e1 z1 o1 => ?_
  have hnew : va_at D vwCl (H.size, dm_cel dA (.inr (ci, fs))) H1 := ⟨_, CF.2.2.2, (u_born ty hts CF.1 hKn hkC e1 CF.2.1).to hfs⟩
  have hS1 : va_S A0 s.heap H1 locs := ⟨Nat.le_trans hva.1 (by omega), fun x h1 h2 => (o1 x (Nat.lt_of_lt_of_le h1 hva.1)).trans (hva.2.1 x h1 h2), hva.2.2⟩
  rw [hsz] at hnew ⊢
  refine kk H1 _ ls ⟨?_, by rw [z1, hsz]; rfl, dm_up_dom hdom (hA _ (by rw [← hsz]; exact hva.1)), hS1⟩ hl
  have := hR.new o1 (e := .inr (ci, fs)) (by rw [hsz]; exact hnew)
  rw [hsz] at this
  exact this
theorem r_newa {atype : ArrayType} {t : FieldType} {kd N : Nat} {n : Int32} {x : vp_A} (hty : newarray.typeOf atype = t) (ht : ∀ dA : Nat → ClassId, (dm_tys dA)[kd]? = some (dA kd, t)) (hnr : ∀ E, t ≠ .object E) (hxc : ∀ cA : ClassId, vp_cell cA x = arrV cA N (fun _ => defaultValue t)) (Cx : dm_C Y cc own rm) (w1 : Cond.arrayClass t ∈ WALL) (hn : ¬ n < 0) (hN : n.toNatClampNeg = N) (hb0 : N * componentBytes t ≤ 536870912) (hc : cs + 1 ≤ rm.cells ∧ ss + N ≤ rm.slots) (hd : decode cc pc = .ok (.newarray atype, 2)) (kk : dm_W Y (cs + 1) (ss + N) (nC st (.inl (kd, x))) (pc + 2) lv (DR (some st.1) :: stk)) : dm_W Y cs ss st pc lv (DI n :: stk) := by
  obtain ⟨⟨p, l, e, R, s⟩, ⟨m, args, below, meth, c⟩, ⟨D, dA, A0, nL, Q⟩⟩ := Y
  obtain ⟨hx, hb, hml, hown, hts, hK, hA, hRm, -⟩ := Cx
  subst hRm
  subst hty
  intro H locs ls ⟨hR, hsz, hdom, hva⟩ hl
  refine va_newaK hx hb (hts _ w1) (m := m) rfl hd rfl hn hN hb0 hc.1 hc.2 rfl fun H1 cA e1 z1 o1 hAr hNm => ?_
  have hcA : cA = dA kd := by
    have h9 := (hK.2 kd _ (ht dA)).2
    have h8 : s.vm.findClass ("[" ++ (newarray.typeOf atype).toString) = some (dA kd) := by
      cases atype <;> exact h9
    exact Option.some.inj (hNm.symm.trans h8)
  subst hcA
  have hnew : va_at D vwCl (H.size, dm_cel dA (.inl (kd, x))) H1 := by
    show H1[H.size]? = some (vp_cell (dA kd) x)
    rw [hxc]
    exact e1
  have hS1 : va_S A0 s.heap H1 locs := ⟨Nat.le_trans hva.1 (by omega), fun x h1 h2 => (o1 x (Nat.lt_of_lt_of_le h1 hva.1)).trans (hva.2.1 x h1 h2), hva.2.2⟩
  have h3 := hR.new o1 (e := .inl (kd, x)) hnew
  rw [hsz] at h3 ⊢
  exact kk H1 _ ls ⟨h3, by rw [z1, hsz]; rfl, dm_up_dom hdom (hA _ (by rw [← hsz]; exact hva.1)), hS1⟩ hl
theorem r_newq {E : String} {kd N idx : Nat} {n : Int32} (ht : ∀ dA : Nat → ClassId, (dm_tys dA)[kd]? = some (dA kd, .object E)) (Cx : dm_C Y cc own rm) (hE : E ∈ dm_arr) (w1 : Cond.classLink own idx E ∈ WALL) (hn : ¬ n < 0) (hN : n.toNatClampNeg = N) (hb0 : N * 4 ≤ 536870912) (hc : cs + 1 ≤ rm.cells ∧ ss + N ≤ rm.slots) (hd : decode cc pc = .ok (.anewarray idx, 3)) (kk : dm_W Y (cs + 1) (ss + N) (nC st (.inl (kd, nR0 N))) (pc + 3) lv (DR (some st.1) :: stk)) : dm_W Y cs ss st pc lv (DI n :: stk) := by
  obtain ⟨⟨p, l, e, R, s⟩, ⟨m, args, below, meth, c⟩, ⟨D, dA, A0, nL, Q⟩⟩ := Y
  obtain ⟨hx, hb, hml, hown, hts, hK, hA, hRm, hl0, hEv⟩ := Cx
  subst hRm
  subst hN
  intro H locs ls ⟨hR, hsz, hdom, hva⟩ hl
  refine W.anew hx hb hown (hts _ w1) (va_AO.use (hEv.2.2.2.2.2.2 _ hE)) rfl hd rfl hn hb0 hc.1 hc.2 fun cA kA comp f1 f2 f3 f4 => ?_
  generalize hH1 : H.push ({ cls := cA, slots := Array.replicate n.toNatClampNeg .null, vm := .none } : Cell) = H1
  have z1 : H1.size = H.size + 1 := by rw [← hH1, Array.size_push]
  have e1 : H1[H.size]? = some (arrV cA n.toNatClampNeg (fun _ => .null)) := by rw [← hH1, Array.getElem?_push_size, ← arrV_new]
  have o1 : ∀ q : Nat, q < H.size → H1[q]? = H[q]? := fun q hq => by rw [← hH1, Array.getElem?_push, if_neg (Nat.ne_of_lt hq)]
  have hcA : cA = dA kd := by
    obtain ⟨kA', comp', -, -, -, h9⟩ := (hK.2 kd _ (ht dA)).2
    exact Option.some.inj (f1.symm.trans h9)
  subst hcA
  have hnew : va_at D vwCl (H.size, dm_cel dA (.inl (kd, nR0 n.toNatClampNeg))) H1 := by
    show H1[H.size]? = some (vp_cell (dA kd) (nR0 n.toNatClampNeg))
    unfold nR0
    rw [vp_cell_q]
    exact e1
  have hS1 : va_S A0 s.heap H1 locs := ⟨Nat.le_trans hva.1 (by omega), fun x h1 h2 => (o1 x (Nat.lt_of_lt_of_le h1 hva.1)).trans (hva.2.1 x h1 h2), hva.2.2⟩
  have h3 := hR.new o1 (e := .inl (kd, nR0 n.toNatClampNeg)) hnew
  rw [hsz] at h3 ⊢
  exact kk H1 _ ls ⟨h3, by rw [z1, hsz]; rfl, dm_up_dom hdom (hA _ (by rw [← hsz]; exact hva.1)), hS1⟩ hl
theorem r_objInit {a : Option Nat} {idx nL : Nat} (Cx : dm_C Y cc own rm) (w1 : Cond.methodLink own idx Lib.objectInit ∈ WALL) (w2 : Cond.instanceMethod Lib.objectInit ∈ WALL) (w3 : Cond.code Lib.objectInit ⟨#[0xb1]⟩ 1 none ∈ WALL) (ha : ∃ b, a = some b) (hd : decode cc pc = .ok (.invokespecial idx, 3)) (hr : 1 ≤ rm.frames ∧ (stk.map dm_cat).sum + 12 ≤ rm.locals) (kk : dm_W Y cs ss st (pc + 3) lv stk) : dm_W Y cs ss st pc lv (DR a :: stk) := by
  obtain ⟨⟨p, l, e, R, s⟩, ⟨m, args, below, meth, c⟩, ⟨D, dA, A0, nL, Q⟩⟩ := Y
  obtain ⟨hx, hb, hml, hown, hts, hK, hA, hRm, -⟩ := Cx
  subst hRm
  obtain ⟨b, rfl⟩ := ha
  intro H locs ls hS hl
  exact W.objInit hx hb hown (hts _ w1) (hts _ w2) (hts _ w3) rfl (by rw [hml]; exact hl.1) rfl hd hr.1 (by rw [dm_cat_sum]; show 2 * 0 + _ + 12 ≤ _; omega) (kk H locs ls hS hl)
/-! Math and System -/
theorem r_max {x y : Int32} {idx : Nat} (Cx : dm_C Y cc own rm) (w1 : Cond.methodLink own idx Lib.Math.max.name ∈ WALL) (w2 : Cond.static Lib.Math.max.name ∈ WALL) (w3 : Cond.initialized "java/lang/Math" ∈ WALL) (w4 : Cond.code Lib.Math.max.name Lib.Math.max.code 2 (some .int) ∈ WALL) (hd : decode cc pc = .ok (.invokestatic idx, 3)) (hr : 1 ≤ rm.frames ∧ (stk.map dm_cat).sum + 13 ≤ rm.locals ∧ cs ≤ rm.cells ∧ ss ≤ rm.slots) (kk : dm_W Y cs ss st (pc + 3) lv (DI (jmax x y) :: stk)) : dm_W Y cs ss st pc lv (DI y :: DI x :: stk) := by
  obtain ⟨⟨p, l, e, R, s⟩, ⟨m, args, below, meth, c⟩, ⟨D, dA, A0, nL, Q⟩⟩ := Y
  obtain ⟨hx, hb, hml, hown, hts, hK, hA, hRm, -⟩ := Cx
  subst hRm
  intro H locs ls hS hl
  exact va_mmax hx hb (by rw [hml]; exact hl.1.symm) hown (hts _ w1) (hts _ w2) (hts _ w3) (hts _ w4) hr.1 (by rw [dm_cat_sum]; exact hr.2.1) hr.2.2.1 hr.2.2.2 hd (kk H locs ls hS hl)
theorem r_min {x y : Int32} {idx : Nat} (Cx : dm_C Y cc own rm) (w1 : Cond.methodLink own idx Lib.Math.min.name ∈ WALL) (w2 : Cond.static Lib.Math.min.name ∈ WALL) (w3 : Cond.initialized "java/lang/Math" ∈ WALL) (w4 : Cond.code Lib.Math.min.name Lib.Math.min.code 2 (some .int) ∈ WALL) (hd : decode cc pc = .ok (.invokestatic idx, 3)) (hr : 1 ≤ rm.frames ∧ (stk.map dm_cat).sum + 13 ≤ rm.locals ∧ cs ≤ rm.cells ∧ ss ≤ rm.slots) (kk : dm_W Y cs ss st (pc + 3) lv (DI (jmin x y) :: stk)) : dm_W Y cs ss st pc lv (DI y :: DI x :: stk) := by
  obtain ⟨⟨p, l, e, R, s⟩, ⟨m, args, below, meth, c⟩, ⟨D, dA, A0, nL, Q⟩⟩ := Y
  obtain ⟨hx, hb, hml, hown, hts, hK, hA, hRm, -⟩ := Cx
  subst hRm
  intro H locs ls hS hl
  exact va_mmin hx hb (by rw [hml]; exact hl.1.symm) hown (hts _ w1) (hts _ w2) (hts _ w3) (hts _ w4) hr.1 (by rw [dm_cat_sum]; exact hr.2.1) hr.2.2.1 hr.2.2.2 hd (kk H locs ls hS hl)
set_option maxHeartbeats 1000000 in
theorem r_copy {r0 r1 : Option Nat} {sp dp n : Int32} {idx : Nat} (Cx : dm_C Y cc own rm) (w1 : Cond.methodLink own idx arraycopyName ∈ WALL) (w2 : Cond.native arraycopyName ∈ WALL) (w3 : Cond.static arraycopyName ∈ WALL) (w4 : Cond.initialized "java/lang/System" ∈ WALL) (hd : decode cc pc = .ok (.invokestatic idx, 3)) (hr : 1 ≤ rm.frames ∧ (stk.map dm_cat).sum + (nativeFrameWords "java/lang/System" "arraycopy" 5 + 11) ≤ rm.locals) (hv : cpI st r0 sp r1 dp n 0 = some st1) (kk : dm_W Y cs ss st1 (pc + 3) lv stk) : dm_W Y cs ss st pc lv (DI n :: DI dp :: DR r1 :: DI sp :: DR r0 :: stk) := by
  obtain ⟨⟨p, l, e, R, s⟩, ⟨m, args, below, meth, c⟩, ⟨D, dA, A0, nL, Q⟩⟩ := Y
  obtain ⟨hx, hb, hml, hown, hts, hK, hA, hRm, -⟩ := Cx
  subst hRm
  obtain ⟨⟨a0, n0, f⟩, hq0, hu⟩ := ob hv
  clear hv
  have hv := hu
  clear hu
  obtain ⟨⟨a, n1, g⟩, hq1, hu⟩ := ob hv
  clear hv
  have hv := hu
  clear hu
  obtain ⟨rfl, hst0⟩ := gAI_spec hq0
  obtain ⟨rfl, hst1⟩ := gAI_spec hq1
  dsimp only at hv hst0 hst1
  split at hv
  · rename_i hin
    obtain ⟨h1, h2, h3, h4, h5⟩ := hin
    cases hv
    have nn : ∀ z : Int32, ¬ z < 0 → z.toInt = (z.toNatClampNeg : Int) := by
      intro z hz
      have hz0 : (0 : Int) ≤ z.toInt := by
        have := Int32.not_lt.mp hz
        simpa using Int32.le_iff_toInt_le.mp this
      show z.toInt = ((z.toInt.toNat : Nat) : Int)
      omega
    intro H locs ls ⟨hR, hsz, hdom, hva⟩ hl T hT X
    have hc0 : H[a0]? = some (vp_cell (dA 0) (n0, .inl f)) := hR _ _ hst0
    have hc1 : H[a]? = some (vp_cell (dA 0) (n1, .inl g)) := hR _ _ hst1
    obtain ⟨-, k0, hk0, cm0, hkk0⟩ := (hK.2 0 (dA 0, .int) rfl).1 n0 (fun j => .int (f j))
    obtain ⟨-, k1, hk1, cm1, hkk1⟩ := (hK.2 0 (dA 0, .int) rfl).1 n1 (fun j => .int (g j))
    obtain ⟨vm', X', step⟩ := X.arraycopy hx hown (hts _ w1) (hts _ w2) (hts _ w3) (hts _ w4) (src := a0) (dst := a) (cs := vp_cell (dA 0) (n0, .inl f)) (cd := vp_cell (dA 0) (n1, .inl g)) (srcPos := sp) (destPos := dp) (n := n) (by rw [hT]; exact hc0) (by rw [hT]; exact hc1)
      (fun _ h => by cases h) (fun _ h => by cases h) (fun h => by cases h) (fun h => by cases h) hk0 hk1 hkk0 hkk1 (by simp [refKind]) h1 h2 h3
      (by rw [nn sp h1, nn n h3, vp_cell_i, arrV_size]; omega)
      (by rw [nn dp h2, nn n h3, vp_cell_i, arrV_size]; omega)
      (fun vm₁ _ i hi => by
        have e : (vp_cell (dA 0) (n0, .inl f)).slots.getD (sp.toNatClampNeg + i) .null = .int (f (sp.toNatClampNeg + i)) := by
          show (arrV (dA 0) n0 (fun j => .int (f j))).slots.getD _ _ = _
          rw [Array.getD_eq_getD_getElem?, arrV_read _ _ (by omega)]
          rfl
        refine ⟨?_, ?_⟩
        · rw [e]
          rfl
        · rw [e]
          exact trivial)
      (g := F0 m pc ls (.int n :: .int dp :: .ref a :: .int sp :: .ref a0 :: stk.map dm_v)) rfl (by rw [hml]; exact hl.1) (rest := stk.map dm_v) rfl (by rw [hb]; exact hd) hr.1 (by rw [dm_cat_sum]; show 2 * 0 + _ + _ ≤ _; omega)
    have e1 : copied (vp_cell (dA 0) (n0, .inl f)) (vp_cell (dA 0) (n1, .inl g)) sp dp n = vp_cell (dA 0) (n1, .inl (va_cpy f g sp.toNatClampNeg dp.toNatClampNeg n.toNatClampNeg)) := va_copied (fun z => .int z) (dA 0) (dA 0) f g h4
    rw [e1] at X' step
    have hla : a < H.size := (Array.getElem?_eq_some_iff.mp hc1).1
    have hheap : ((T.setVm vm').setCell a (vp_cell (dA 0) (n1, .inl (va_cpy f g sp.toNatClampNeg dp.toNatClampNeg n.toNatClampNeg)))).heap = H.setIfInBounds a (vp_cell (dA 0) (n1, .inl (va_cpy f g sp.toNatClampNeg dp.toNatClampNeg n.toNatClampNeg))) := by rw [← hT]; rfl
    have oq : ∀ q : Nat, q ≠ a → (H.setIfInBounds a (vp_cell (dA 0) (n1, .inl (va_cpy f g sp.toNatClampNeg dp.toNatClampNeg n.toNatClampNeg))))[q]? = H[q]? := fun q hq => by simp [Array.getElem?_setIfInBounds, Ne.symm hq]
    have hz : (H.setIfInBounds a (vp_cell (dA 0) (n1, .inl (va_cpy f g sp.toNatClampNeg dp.toNatClampNeg n.toNatClampNeg)))).size = H.size := by simp
    obtain ⟨t, b1, b2⟩ := kk _ _ ls ⟨hR.put (e := .inl (0, (n1, .inl (va_cpy f g sp.toNatClampNeg dp.toNatClampNeg n.toNatClampNeg)))) oq (show (H.setIfInBounds a _)[a]? = some _ by simp [Array.getElem?_setIfInBounds, hla]), hz.trans hsz, dm_up_dom hdom (hdom _ _ hst1), ⟨by rw [hz]; exact hva.1, fun q g1 g2 => by
        rw [oq q (fun e => g2 (by rw [e]; exact hdom _ _ hst1))]
        exact hva.2.1 q g1 g2, fun q hq => by
        rcases List.mem_append.mp hq with h | h
        · exact hva.2.2 q h
        · obtain ⟨z, -, hz⟩ := List.mem_map.mp h
          rw [← hz]
          exact hdom _ _ hst1⟩⟩ hl _ hheap X'
    exact ⟨t, step t b1, b2⟩
  · cases hv
/-! arrays of arrays of ints, lengths that are counted, clone -/
theorem r_aaloadA {r x : Option Nat} {i : Int32} {kd : Nat} {t : FieldType} (ht : ∀ dA : Nat → ClassId, (dm_tys dA)[kd]? = some (dA kd, .array t)) (Cx : dm_C Y cc own rm) (hd : decode cc pc = .ok (.aaload, 1)) (hv : aR st r kd i = some x) (kk : dm_W Y cs ss st (pc + 1) lv (DR x :: stk)) : dm_W Y cs ss st pc lv (DI i :: DR r :: stk) := by
  obtain ⟨⟨p, l, e, R, s⟩, ⟨m, args, below, meth, c⟩, ⟨D, dA, A0, nL, Q⟩⟩ := Y
  obtain ⟨hx, hb, hml, hown, hts, hK, -⟩ := Cx
  obtain ⟨⟨a, n, f⟩, hq, hu⟩ := ob hv
  clear hv
  have hv := hu
  clear hu
  obtain ⟨rfl, hst⟩ := gAR_spec hq
  dsimp only at hv hst
  split at hv
  · rename_i hin
    cases hv
    intro H locs ls hS hl
    have hlt : i.toNatClampNeg < n := Nat.not_le.mp fun q => inA_in hin (Or.inr q)
    exact W.aald (v := va_rf (f i.toNatClampNeg)) (ty := .array t) hx hb (hS.1 _ _ hst) ((hK.2 kd _ (ht dA)).1 n (fun j => va_rf (f j))) rfl (fun q => by cases q) (dm_sin (vp_cell_q _ _ _) (inA_in hin)) (by show (arrV _ _ _).slots[_]? = _; rw [arrV_read _ _ hlt]) rfl rfl hd (kk H locs ls hS hl)
  · cases hv
theorem r_aastoreA {r v : Option Nat} {i : Int32} (Cx : dm_C Y cc own rm) (hd : decode cc pc = .ok (.aastore, 1)) (hv : sRA st r 6 i v = some st1) (kk : dm_W Y cs ss st1 (pc + 1) lv stk) : dm_W Y cs ss st pc lv (DR v :: DI i :: DR r :: stk) := by
  obtain ⟨⟨p, l, e, R, s⟩, ⟨m, args, below, meth, c⟩, ⟨D, dA, A0, nL, Q⟩⟩ := Y
  obtain ⟨hx, hb, hml, hown, hts, hK, hA, hRm, hl0, hEv⟩ := Cx
  obtain ⟨⟨a, n, f⟩, hq, hu⟩ := ob hv
  clear hv
  obtain ⟨⟨b, n2, g⟩, hq2, hv⟩ := ob hu
  clear hu
  obtain ⟨rfl, hst⟩ := gAR_spec hq
  obtain ⟨rfl, hst2⟩ := gAI_spec hq2
  dsimp only at hv hst hst2
  split at hv
  · rename_i hin
    cases hv
    intro H locs ls ⟨hR, hsz, hdom, hva⟩ hl
    have hca : H[a]? = some (vp_cell (dA 6) (n, .inr (.inr (.inr (.inr f))))) := hR _ _ hst
    have hcb : H[b]? = some (vp_cell (dA 0) (n2, .inl g)) := hR _ _ hst2
    have hvi := inA_in hin
    have hlt : i.toNatClampNeg < n := Nat.not_le.mp fun q => hvi (Or.inr q)
    have h0 : ¬ i < 0 := fun q => hvi (Or.inl q)
    obtain ⟨comp, c9, kA, g1, -, g3, g4, g5⟩ := dm_AOA_spec hEv.2.2.2.2.2.1.2
    have e6 : s.vm.findClass ("[" ++ (FieldType.array .int).toString) = some (dA 6) := (hK.2 6 (dA 6, .array .int) rfl).2
    have e0 : s.vm.findClass ("[" ++ FieldType.int.toString) = some (dA 0) := (hK.2 0 (dA 0, .int) rfl).2
    have hc9 : c9 = dA 6 := Option.some.inj (g5.symm.trans e6)
    have hcomp : comp = dA 0 := by
      have g1' : s.vm.findClass ("[" ++ FieldType.int.toString) = some comp := g1
      exact Option.some.inj (g1'.symm.trans e0)
    subst hc9
    subst hcomp
    obtain ⟨-, k0, hk0, -⟩ := (hK.2 0 (dA 0, .int) rfl).1 n2 (fun j => .int (g j))
    refine W.aast hx hb hca (fun q h => by cases h) (fun h => by cases h) (k := kA) (kv := k0) (kcomp := k0) g3 g4 rfl hk0 ⟨h0, by rw [vp_cell_q, arrV_size]; exact hlt⟩ hcb (fun q h => by cases h) hk0 (va_asg _ _) rfl rfl hd fun H1 e1 z oq => ?_
    exact kk H1 _ ls ⟨hR.put oq (dm_cellq (v := some b) e1), z.trans hsz, dm_up_dom hdom (hdom _ _ hst), hva.put z oq (hdom _ _ hst)⟩ hl
  · cases hv
theorem r_newqV {E : String} {kd cap idx : Nat} {n : Int32} (ht : ∀ dA : Nat → ClassId, (dm_tys dA)[kd]? = some (dA kd, .object E)) (Cx : dm_C Y cc own rm) (hE : E ∈ dm_arr) (w1 : Cond.classLink own idx E ∈ WALL) (hb0 : cap ≤ 100) (hc : cs + 1 ≤ rm.cells ∧ ss + cap ≤ rm.slots) (hd : decode cc pc = .ok (.anewarray idx, 3)) (hv : nQ st n cap kd = some st1) (kk : dm_W Y (cs + 1) (ss + cap) st1 (pc + 3) lv (DR (some st.1) :: stk)) : dm_W Y cs ss st pc lv (DI n :: stk) := by
  unfold nQ at hv
  split at hv
  · rename_i hin
    cases hv
    exact r_newq ht Cx hE w1 hin.1 rfl (by omega) ⟨hc.1, by omega⟩ hd (dm_widen (Nat.le_refl _) (by omega) kk)
  · cases hv
theorem r_newqA {cap idx : Nat} {n : Int32} (Cx : dm_C Y cc own rm) (w1 : Cond.classLink own idx "[I" ∈ WALL) (hb0 : cap ≤ 100) (hc : cs + 1 ≤ rm.cells ∧ ss + cap ≤ rm.slots) (hd : decode cc pc = .ok (.anewarray idx, 3)) (hv : nQ st n cap 6 = some st1) (kk : dm_W Y (cs + 1) (ss + cap) st1 (pc + 3) lv (DR (some st.1) :: stk)) : dm_W Y cs ss st pc lv (DI n :: stk) := by
  unfold nQ at hv
  split at hv
  · rename_i hin
    cases hv
    replace kk := dm_widen (Nat.le_refl _) (show ss + n.toNatClampNeg ≤ ss + cap by omega) kk
    obtain ⟨⟨p, l, e, R, s⟩, ⟨m, args, below, meth, c⟩, ⟨D, dA, A0, nL, Q⟩⟩ := Y
    obtain ⟨hx, hb, hml, hown, hts, hK, hA, hRm, hl0, hEv⟩ := Cx
    subst hRm
    intro H locs ls ⟨hR, hsz, hdom, hva⟩ hl
    refine W.anewA (t := .int) hx hb hown (hts _ w1) (va_tabs rfl rfl hEv.2.2.2.2.2.1.2) rfl hd rfl hin.1 (by omega) hc.1 (by omega) fun cA kA comp f1 f2 f3 f4 => ?_
    generalize hH1 : H.push ({ cls := cA, slots := Array.replicate n.toNatClampNeg .null, vm := .none } : Cell) = H1
    have z1 : H1.size = H.size + 1 := by rw [← hH1, Array.size_push]
    have e1 : H1[H.size]? = some (arrV cA n.toNatClampNeg (fun _ => .null)) := by rw [← hH1, Array.getElem?_push_size, ← arrV_new]
    have o1 : ∀ q : Nat, q < H.size → H1[q]? = H[q]? := fun q hq => by rw [← hH1, Array.getElem?_push, if_neg (Nat.ne_of_lt hq)]
    have hcA : cA = dA 6 := Option.some.inj (f1.symm.trans (hK.2 6 (dA 6, .array .int) rfl).2)
    subst hcA
    have hnew : va_at D vwCl (H.size, dm_cel dA (.inl (6, nR0 n.toNatClampNeg))) H1 := by
      show H1[H.size]? = some (vp_cell (dA 6) (nR0 n.toNatClampNeg))
      unfold nR0
      rw [vp_cell_q]
      exact e1
    have hS1 : va_S A0 s.heap H1 locs := ⟨Nat.le_trans hva.1 (by omega), fun x h1 h2 => (o1 x (Nat.lt_of_lt_of_le h1 hva.1)).trans (hva.2.1 x h1 h2), hva.2.2⟩
    have h3 := hR.new o1 (e := .inl (6, nR0 n.toNatClampNeg)) hnew
    rw [hsz] at h3 ⊢
    exact kk H1 _ ls ⟨h3, by rw [z1, hsz]; rfl, dm_up_dom hdom (hA _ (by rw [← hsz]; exact hva.1)), hS1⟩ hl
  · cases hv
theorem r_castAI {r : Option Nat} {idx : Nat} {u : Unit} (Cx : dm_C Y cc own rm) (w1 : Cond.classLink own idx "[I" ∈ WALL) (hd : decode cc pc = .ok (.checkcast idx, 3)) (hv : isAI st r = some u) (kk : dm_W Y cs ss st (pc + 3) lv (DR r :: stk)) : dm_W Y cs ss st pc lv (DR r :: stk) := by
  obtain ⟨⟨p, l, e, R, s⟩, ⟨m, args, below, meth, c⟩, ⟨D, dA, A0, nL, Q⟩⟩ := Y
  obtain ⟨hx, hb, hml, hown, hts, hK, -⟩ := Cx
  obtain ⟨⟨a, n, f⟩, hq, -⟩ := ob hv
  obtain ⟨rfl, hst⟩ := gAI_spec hq
  intro H locs ls hS hl
  have e0 : s.vm.findClass ("[" ++ FieldType.int.toString) = some (dA 0) := (hK.2 0 (dA 0, .int) rfl).2
  have e1 : s.vm.findClass "[I" = some (dA 0) := by
    have e : "[" ++ FieldType.int.toString = "[I" := by decide +kernel
    rw [← e]
    exact e0
  exact va_castA hx hb hown (hts _ w1) (dm_P1 (hS.1 _ _ hst)) 0 (cA := dA 0) (x := (n, .inl f)) rfl e1 hd (kk H locs ls hS hl)
set_option maxHeartbeats 1000000 in
theorem r_cloneI {r : Option Nat} {idx cap : Nat} (Cx : dm_C Y cc own rm) (w1 : Cond.methodLink own idx ⟨"[I", "clone", "()Ljava/lang/Object;"⟩ ∈ WALL) (w2 : Cond.sameMethod "[I" "java/lang/Object" "clone" "()Ljava/lang/Object;" ∈ WALL) (w3 : Cond.native ⟨"java/lang/Object", "clone", "()Ljava/lang/Object;"⟩ ∈ WALL) (w4 : Cond.instanceMethod ⟨"java/lang/Object", "clone", "()Ljava/lang/Object;"⟩ ∈ WALL) (w5 : Cond.selects "[I" ⟨"[I", "clone", "()Ljava/lang/Object;"⟩ ⟨"java/lang/Object", "clone", "()Ljava/lang/Object;"⟩ ∈ WALL) (hca : ("[I", "java/lang/Cloneable") ∈ dm_cas) (hr : 1 ≤ rm.frames ∧ (stk.map dm_cat).sum + 14 ≤ rm.locals) (hc : cs + 1 ≤ rm.cells ∧ ss + cap ≤ rm.slots) (hd : decode cc pc = .ok (.invokevirtual idx, 3)) (hv : clI st r cap = some st1) (kk : dm_W Y (cs + 1) (ss + cap) st1 (pc + 3) lv (DR (some st.1) :: stk)) : dm_W Y cs ss st pc lv (DR r :: stk) := by
  obtain ⟨⟨a, n, f⟩, hq, hu⟩ := ob hv
  clear hv
  obtain ⟨rfl, hst⟩ := gAI_spec hq
  dsimp only at hu hst
  split at hu
  · rename_i hn
    cases hu
    replace kk := dm_widen (Nat.le_refl _) (show ss + n ≤ ss + cap by omega) kk
    obtain ⟨⟨p, l, e, R, s⟩, ⟨m, args, below, meth, c⟩, ⟨D, dA, A0, nL, Q⟩⟩ := Y
    obtain ⟨hx, hb, hml, hown, hts, hK, hA, hRm, hl0, hEv⟩ := Cx
    subst hRm
    intro H locs ls ⟨hR, hsz, hdom, hva⟩ hl
    have hcell : H[a]? = some (vp_cell (dA 0) (n, .inl f)) := hR _ _ hst
    have e0 : s.vm.findClass ("[" ++ FieldType.int.toString) = some (dA 0) := (hK.2 0 (dA 0, .int) rfl).2
    have e1 : s.vm.findClass "[I" = some (dA 0) := by
      have e : "[" ++ FieldType.int.toString = "[I" := by decide +kernel
      rw [← e]
      exact e0
    obtain ⟨c0, t0', f1, f2, f3⟩ := Cond.castable_spec (va_Nw.use (A := args) rfl (hEv.2.2.2.1 _ hca))
    cases e1.symm.trans f1
    intro T hT X
    have hcellT : T.heap[a]? = some (vp_cell (dA 0) (n, .inl f)) := by rw [hT]; exact hcell
    obtain ⟨-, kA, hkA, comp, hkind⟩ := State.isArrayOf_alike X.warmed.alike ((hK.2 0 (dA 0, .int) rfl).1 0 (fun _ => .null))
    obtain ⟨-, kS, hkS, compS, hkindS⟩ := (hK.2 0 (dA 0, .int) rfl).1 0 (fun _ => .null)
    obtain ⟨vm', X', stp⟩ := X.cloneArray hx hown (hts _ w1) (hts _ w2) (hts _ w3) (hts _ w4) (hts _ w5) (a := a) (cell := vp_cell (dA 0) (n, .inl f)) hcellT (fun k h => by cases h) (fun h => by cases h) e1 f2 f3
      (fun i v hv => by
        have hk' : T.vm.classes[(vp_cell (dA 0) (n, .inl f)).cls]? = some kA := hkA
        have hfit : fits .int v = true := va_fit (F := fun j => .int (f j)) (fun i _ => rfl) i v hv
        simpa [State.fitsSlot, State.slotType?, hk', hkind] using hfit)
      (g := F0 m pc ls (.ref a :: stk.map dm_v)) rfl (by rw [hml]; exact hl.1) rfl (by rw [hb]; exact hd) hr.1 (by rw [dm_cat_sum]; show 2 * 0 + _ + 14 ≤ _; omega) hc.1 (by rw [vp_cell_i, arrV_size]; omega) (hloader := Vm.clonesLoader_of_array hkS hkindS)
    generalize hH1 : H.push (vp_cell (dA 0) (n, .inl f)) = H1
    have z1 : H1.size = H.size + 1 := by rw [← hH1, Array.size_push]
    have e9 : H1[H.size]? = some (vp_cell (dA 0) (n, .inl f)) := by rw [← hH1, Array.getElem?_push_size]
    have o1 : ∀ q : Nat, q < H.size → H1[q]? = H[q]? := fun q hq => by rw [← hH1, Array.getElem?_push, if_neg (Nat.ne_of_lt hq)]
    have hS1 : va_S A0 s.heap H1 locs := ⟨Nat.le_trans hva.1 (by omega), fun x h1 h2 => (o1 x (Nat.lt_of_lt_of_le h1 hva.1)).trans (hva.2.1 x h1 h2), hva.2.2⟩
    have h3 := hR.new o1 (e := .inl (0, (n, .inl f))) e9
    have hcellE : ({ cls := (vp_cell (dA 0) (n, .inl f)).cls, slots := (vp_cell (dA 0) (n, .inl f)).slots } : Cell) = vp_cell (dA 0) (n, .inl f) := rfl
    rw [hcellE, show (vp_cell (dA 0) (n, .inl f)).slots.size = n from arrV_size _ _ _] at X'
    rw [hcellE] at stp
    have hsz' := hsz
    rw [hsz] at h3
    obtain ⟨t, b1, b2⟩ := kk H1 locs ls ⟨h3, by rw [z1, hsz]; rfl, dm_up_dom hdom (hA _ (by rw [← hsz]; exact hva.1)), hS1⟩ hl ((T.setVm vm').pushCell (vp_cell (dA 0) (n, .inl f))) (by rw [← hH1, ← hT]; rfl) X'
    refine ⟨t, stp t ?_, b2⟩
    rw [hT, hsz]
    exact b1
  · cases hu
end DHEAP
end
section
/-! ends, starts and calls, said over dm_W -/
def dm_args : Nat → List DV → List (Nat × DV)
  | _, [] => []
  | k, a :: l => (k, a) :: dm_args (if dm_cat a = 2 then k + 2 else k + 1) l
theorem dm_args_lv (avs : List DV) : ∀ k, lv_args k (avs.map dm_v) = dm_lv (dm_args k avs) := by
  induction avs with
  | nil => intro k; rfl
  | cons a l ih =>
    intro k
    show (k, dm_v a) :: lv_args (if (dm_v a).category = 2 then k + 2 else k + 1) (l.map dm_v) = (k, dm_v a) :: dm_lv (dm_args (if dm_cat a = 2 then k + 2 else k + 1) l)
    rw [dm_cat_ok, ih]
theorem dm_args_len (avs : List DV) : (lg_sl (avs.map dm_v)).length = (avs.map dm_cat).sum := by
  induction avs with
  | nil => rfl
  | cons a l ih =>
    have h : lg_sl ((a :: l).map dm_v) = (if (dm_v a).category = 2 then [.val (dm_v a), .second] else [.val (dm_v a)]) ++ lg_sl (l.map dm_v) := rfl
    rw [h, List.length_append, ih, List.map_cons, List.sum_cons, dm_cat_ok]
    rcases a with x | x | x | x <;> rfl
theorem dm_blind {D : va_G} {dA : Nat → ClassId} {avs : List DV} {st : DSt} : FrameBlind (dm_Pc D dA avs st) := fun a U g mk h => by
  obtain ⟨h1, h2, h3, h4, h5⟩ := h
  exact ⟨h1, h2, h3, va_K.moved (u := U) (U := U.calling g mk a) (Vm.Alike.refl U.vm) h4, dm_Ev.same (U := U) (V := U.calling g mk a) h5 rfl⟩
theorem dm_Asub {D : va_G} {dA : Nat → ClassId} {A0 : Nat → Prop} {H0 H : Heap} {st : DSt} {locs : List Loc} (hA : ∀ q, H0.size ≤ q → A0 q) (hS : dm_S D dA A0 H0 st H locs) : ∀ q, dm_A st q → A0 q := fun q h => by
  obtain ⟨hR, hsz, hdom, hva⟩ := hS
  rcases h with ⟨e, he⟩ | h
  · exact hdom q e he
  · exact hA q (Nat.le_trans hva.1 (by rw [hsz]; exact h))
theorem dm_pre {D : va_G} {dA : Nat → ClassId} {A0 : Nat → Prop} {s : State} {H : Heap} {st : DSt} {locs : List Loc} {avs : List DV} (hA : ∀ q, s.heap.size ≤ q → A0 q) (hK : va_K D vwCl (dm_tys dA) s) (hEv : dm_Ev A0 s s.heap) (hS : dm_S D dA A0 s.heap st H locs) : ∀ U : State, U.heap = H → s.WarmedH U.vm → dm_Pc D dA avs st (avs.map dm_v).toArray U := fun U hU hW => by
  subst hU
  exact ⟨rfl, hS.1, hS.2.1, hK.moved hW.alike, hEv.warm hW hS.2.2.2 (dm_Asub hA hS)⟩
section DCALL
variable {p : Program} {l : Launch} {e : Env} {R : Room} {s : State} {m : MethodId} {args : Array Value} {below : List Frame} {meth : Method} {c : Code} {H : Heap} {locs : List Loc} {cells slots : Nat} {Q : State → Prop}
variable {pc : Nat} {ls : Array Slot} {rest st0 : List Value} {a : Array Value} {A0 A1 : Nat → Prop} {mc ms : Nat} {free : Addr → Prop} {D : va_G} {dA : Nat → ClassId} {st : DSt}
theorem dm_cont {Fin : Option DV → DSt → Prop} (hr : va_Run p l e R s m args below meth c H locs cells slots mc ms (F0 m pc ls st0) rest (dm_Qc Fin D dA A1 a) free) (hS : dm_S D dA A0 s.heap st H locs) (hA : ∀ q, A1 q → A0 q) (hf : ∀ q, free q → A0 q)
    (kk : ∀ (rv : Option DV) (u : DSt) (H1 : Heap) (locs1 : List Loc), Fin rv u → dm_S D dA A0 s.heap u H1 locs1 → W p l e R s m args below meth c H1 locs1 (cells + mc) (slots + ms) Q (F0 m (pc + 3) ls ((rv.map dm_v).toList ++ rest))) : W p l e R s m args below meth c H locs cells slots Q (F0 m pc ls st0) := by
  intro T hT X
  obtain ⟨v, st₀, t, T', L, h0, X', hL, e1, e2, ⟨⟨rv, u, hv, hp, hb1, hb2, hb3⟩, hz, hk⟩, st9⟩ := hr T hT X
  cases hv
  rw [h0] at hz hk
  have hva := hS.2.2.2
  rw [← e1] at hb1 hb2 hz hk
  obtain ⟨t2, a1, b1⟩ := kk rv u T'.heap (locs ++ L) hp ⟨hb1, hb2, fun q e he => hA q (hb3 q e he), Nat.le_trans hva.1 hz, fun q h1 h2 => by rw [hk q (Nat.lt_of_lt_of_le h1 hva.1) (fun z => h2 (hA q z))]; exact hva.2.1 q h1 h2, fun q hq => by
      rcases List.mem_append.mp hq with h | h
      · exact hva.2.2 q h
      · exact hf _ (hL q h)⟩ T' rfl X'
  exact ⟨t2, st9 t2 a1, b1⟩
theorem dm_contX {Fin : Option DV → DSt → Prop} {FinX : String → DHp → Prop} (hr : vx_Run p l e R s m args below meth c H locs cells slots mc ms (F0 m pc ls st0) rest (dm_Qc Fin D dA A1 a) (dm_XC FinX D dA A1) free) (hS : dm_S D dA A0 s.heap st H locs) (hA : ∀ q, A1 q → A0 q) (hf : ∀ q, free q → A0 q)
    (kx : ∀ (E : String) (h : DHp) (ce : Cell) (q9 : Addr) (H1 : Heap) (locs1 : List Loc), FinX E h → dm_S D dA A0 s.heap (H1.size, h) H1 locs1 → H1[q9]? = some ce → ce.vm = .none → s.vm.findClass E = some ce.cls → vx_W p l e R s m args below meth c H1 locs1 (cells + mc) (slots + ms) Q (F0 m pc ls rest) q9)
    (kk : ∀ (rv : Option DV) (u : DSt) (H1 : Heap) (locs1 : List Loc), Fin rv u → dm_S D dA A0 s.heap u H1 locs1 → W p l e R s m args below meth c H1 locs1 (cells + mc) (slots + ms) Q (F0 m (pc + 3) ls ((rv.map dm_v).toList ++ rest))) : W p l e R s m args below meth c H locs cells slots Q (F0 m pc ls st0) := by
  intro T hT X
  have hva := hS.2.2.2
  rcases hr T hT X with ⟨v, st₀, t, T', L, h0, X', hL, e1, e2, ⟨⟨rv, u, hv, hp, hb1, hb2, hb3⟩, hz, hk⟩, st9⟩ | ⟨q, st₀, t, T', L, E, ce, h0, X', hL, e1, e2, ⟨⟨hh, hp, hb1, hb3⟩, hz, hk⟩, hce, hcv, hcl, st9⟩
  · cases hv
    rw [h0] at hz hk
    rw [← e1] at hb1 hb2 hz hk
    obtain ⟨t2, a1, b1⟩ := kk rv u T'.heap (locs ++ L) hp ⟨hb1, hb2, fun q e he => hA q (hb3 q e he), Nat.le_trans hva.1 hz, fun q h1 h2 => by rw [hk q (Nat.lt_of_lt_of_le h1 hva.1) (fun z => h2 (hA q z))]; exact hva.2.1 q h1 h2, fun q hq => by
        rcases List.mem_append.mp hq with h | h
        · exact hva.2.2 q h
        · exact hf _ (hL q h)⟩ T' rfl X'
    exact ⟨t2, st9 t2 a1, b1⟩
  · rw [h0] at hz hk
    rw [← e1] at hb1 hz hk hce
    obtain ⟨t2, a1, b1⟩ := kx E hh ce q T'.heap (locs ++ L) hp ⟨hb1, rfl, fun q e he => hA q (hb3 q e he), Nat.le_trans hva.1 hz, fun q h1 h2 => by rw [hk q (Nat.lt_of_lt_of_le h1 hva.1) (fun z => h2 (hA q z))]; exact hva.2.1 q h1 h2, fun q hq => by
        rcases List.mem_append.mp hq with h | h
        · exact hva.2.2 q h
        · exact hf _ (hL q h)⟩ hce hcv hcl T' rfl X'
    exact ⟨t2, st9.trans a1, b1⟩
end DCALL
/-- what is known of a method by its name: decided once -/
def dm_md (y : MethodName) (n : Nat) : Prop := y.cls ≠ "java/lang/invoke/MethodHandle" ∧ y.cls ≠ "java/lang/invoke/VarHandle" ∧ (parseMethodDescriptor y.desc).map (fun d => d.parameters.length) = some n
section DRUN
variable {Y : DY} {cc : ByteArray} {own : String} {rm : Room} {cs ss pc : Nat} {st st1 : DSt} {lv : List (Nat × DV)} {stk stk' rest : List DV}
variable {y : MethodName} {cy : ByteArray} {maxL mc ms n idx : Nat} {ret : Option FieldType} {rmy : Room} {rv : Option DV} {r : DRes} {As : List DV} {b : Nat} {ci : Nat} {C : String} {T : u_T} {N : Nat} {ro : Option Nat}
theorem dm_pret {rv' : Option DV} {ls : List DV} (h : rv.toList ++ rest = stk') (e : rv' = rv) : (rv'.map dm_v).toList ++ rest.map dm_v = stk'.map dm_v := by
  subst e; subst h
  cases rv' <;> rfl
theorem r_callV (hM : dm_K1 y cy maxL ret rmy mc ms (DR (some b) :: As) st rv st1) (hb : oR st ro ci = some b) (hc : vwCl[ci]? = some (y.cls, T, N)) (Cx : dm_C Y cc own rm) (w1 : Cond.methodLink own idx y ∈ WALL) (w2 : Cond.instanceMethod y ∈ WALL) (w3 : Cond.selects y.cls y y ∈ WALL) (w4 : Cond.code y cy maxL ret ∈ WALL) (w5 : Cond.initialized y.cls ∈ WALL) (hd0 : dm_md y n) (hn : As.length = n) (hrm : rmy.cells = mc ∧ rmy.slots = ms ∧ rmy.frames + 1 ≤ rm.frames ∧ 8 + (maxL + 11) + rmy.locals ≤ rm.locals ∧ cs + mc ≤ rm.cells ∧ ss + ms ≤ rm.slots) (hd : decode cc pc = .ok (.invokevirtual idx, 3)) (hs : stk = As.reverse ++ DR ro :: rest) (h8 : (rest.map dm_cat).sum ≤ 8) (hs' : rv.toList ++ rest = stk') (kk : dm_W Y (cs + mc) (ss + ms) st1 (pc + 3) lv stk') : dm_W Y cs ss st pc lv stk := by
  obtain ⟨⟨p, l, e, R, s⟩, ⟨m, args, below, meth, c⟩, ⟨D, dA, A0, nL, Q⟩⟩ := Y
  obtain ⟨hx, hbb, hml, hown, hts, hK, hA, hRm, hl0, hEv⟩ := Cx
  subst hRm
  obtain ⟨h1, h2, h3, h4, h5, h6⟩ := hrm
  obtain ⟨⟨b', fs⟩, hg, hb'⟩ := ob hb
  cases hb'
  obtain ⟨rfl, hst⟩ := gO_spec hg
  dsimp only at hM hst
  intro H locs ls hS hl
  have hAs := dm_Asub hA hS
  refine dm_cont (va_runV (As := As.map dm_v) (rest := rest.map dm_v) (n := n) (C := y.cls) (index := idx) ⟨hx, hbb, hml, hown, hts⟩ (hM l D dA hl0) ⟨callB_of n hts (wall_cons w4) rfl h1 h2 (hts _ w5) (hts _ w1) hd0 ⟨h3, h4⟩, hts _ w2, hts _ w3⟩ ⟨dm_blind, va_recv hK (dm_P1 (hS.1 _ _ hst)) (q0 := 0) hc rfl, dm_pre hA hK hEv hS⟩ rfl (by rw [List.length_map]; exact hn) hl.1 ?_ (lv_room (by rw [dm_cat_sum]; exact h8)) hd ⟨h5, h6⟩) hS hAs hAs fun rv' u H1 locs1 hF hS1 => ?_
  · show stk.map dm_v = _
    rw [hs, List.map_append, List.map_reverse]
    rfl
  · obtain ⟨e1, rfl⟩ := hF
    rw [dm_pret (ls := []) hs' e1]
    exact kk H1 locs1 ls hS1 hl
theorem r_callS (hM : dm_K1 y cy maxL ret rmy mc ms As st rv st1) (Cx : dm_C Y cc own rm) (w1 : Cond.methodLink own idx y ∈ WALL) (w2 : Cond.static y ∈ WALL) (w4 : Cond.code y cy maxL ret ∈ WALL) (w5 : Cond.initialized y.cls ∈ WALL) (hd0 : dm_md y n) (hn : As.length = n) (hrm : rmy.cells = mc ∧ rmy.slots = ms ∧ rmy.frames + 1 ≤ rm.frames ∧ 8 + (maxL + 11) + rmy.locals ≤ rm.locals ∧ cs + mc ≤ rm.cells ∧ ss + ms ≤ rm.slots) (hd : decode cc pc = .ok (.invokestatic idx, 3)) (hs : stk = As.reverse ++ rest) (h8 : (rest.map dm_cat).sum ≤ 8) (hs' : rv.toList ++ rest = stk') (kk : dm_W Y (cs + mc) (ss + ms) st1 (pc + 3) lv stk') : dm_W Y cs ss st pc lv stk := by
  obtain ⟨⟨p, l, e, R, s⟩, ⟨m, args, below, meth, c⟩, ⟨D, dA, A0, nL, Q⟩⟩ := Y
  obtain ⟨hx, hbb, hml, hown, hts, hK, hA, hRm, hl0, hEv⟩ := Cx
  subst hRm
  obtain ⟨h1, h2, h3, h4, h5, h6⟩ := hrm
  intro H locs ls hS hl
  have hAs := dm_Asub hA hS
  refine dm_cont (va_runS (As := As.map dm_v) (rest := rest.map dm_v) (n := n) (index := idx) ⟨hx, hbb, hml, hown, hts⟩ (hM l D dA hl0) ⟨callB_of n hts (wall_cons w4) rfl h1 h2 (hts _ w5) (hts _ w1) hd0 ⟨h3, h4⟩, hts _ w2⟩ ⟨dm_blind, dm_pre hA hK hEv hS⟩ rfl (by rw [List.length_map]; exact hn) hl.1 ?_ (lv_room (by rw [dm_cat_sum]; exact h8)) hd ⟨h5, h6⟩) hS hAs hAs fun rv' u H1 locs1 hF hS1 => ?_
  · show stk.map dm_v = _
    rw [hs, List.map_append, List.map_reverse]
  · obtain ⟨e1, rfl⟩ := hF
    rw [dm_pret (ls := []) hs' e1]
    exact kk H1 locs1 ls hS1 hl
theorem r_callI (hM : dm_K1 y cy maxL none rmy mc ms (DR (some b) :: As) st rv st1) (Cx : dm_C Y cc own rm) (w1 : Cond.methodLink own idx y ∈ WALL) (w2 : Cond.instanceMethod y ∈ WALL) (hy1 : y.name = "<init>") (w4 : Cond.code y cy maxL none ∈ WALL) (w5 : Cond.initialized y.cls ∈ WALL) (hd0 : dm_md y n) (hn : As.length = n) (hrm : rmy.cells = mc ∧ rmy.slots = ms ∧ rmy.frames + 1 ≤ rm.frames ∧ 8 + (maxL + 11) + rmy.locals ≤ rm.locals ∧ cs + mc ≤ rm.cells ∧ ss + ms ≤ rm.slots) (hd : decode cc pc = .ok (.invokespecial idx, 3)) (hs : stk = As.reverse ++ DR (some b) :: rest) (h8 : (rest.map dm_cat).sum ≤ 8) (hs' : rv.toList ++ rest = stk') (kk : dm_W Y (cs + mc) (ss + ms) st1 (pc + 3) lv stk') : dm_W Y cs ss st pc lv stk := by
  obtain ⟨⟨p, l, e, R, s⟩, ⟨m, args, below, meth, c⟩, ⟨D, dA, A0, nL, Q⟩⟩ := Y
  obtain ⟨hx, hbb, hml, hown, hts, hK, hA, hRm, hl0, hEv⟩ := Cx
  subst hRm
  obtain ⟨h1, h2, h3, h4, h5, h6⟩ := hrm
  intro H locs ls hS hl
  have hAs := dm_Asub hA hS
  refine dm_cont (va_runI (b := b) (As := As.map dm_v) (rest := rest.map dm_v) (n := n) (index := idx) ⟨hx, hbb, hml, hown, hts⟩ (hM l D dA hl0) ⟨callB_of n hts (wall_cons w4) rfl h1 h2 (hts _ w5) (hts _ w1) hd0 ⟨h3, h4⟩, hy1, hts _ w2⟩ ⟨dm_blind, dm_pre hA hK hEv hS⟩ rfl (by rw [List.length_map]; exact hn) hl.1 ?_ (lv_room (by rw [dm_cat_sum]; exact h8)) hd ⟨h5, h6⟩) hS hAs hAs fun rv' u H1 locs1 hF hS1 => ?_
  · show stk.map dm_v = _
    rw [hs, List.map_append, List.map_reverse]
    rfl
  · obtain ⟨e1, rfl⟩ := hF
    rw [dm_pret (ls := []) hs' e1]
    exact kk H1 locs1 ls hS1 hl
/-- a call of a method that may throw: its throw is handled by kx -/
theorem r_callVX (hM : dm_K2 y cy maxL ret rmy mc ms (DR (some b) :: As) st r) (hb : oR st ro ci = some b) (hc : vwCl[ci]? = some (y.cls, T, N)) (Cx : dm_C Y cc own rm) (w1 : Cond.methodLink own idx y ∈ WALL) (w2 : Cond.instanceMethod y ∈ WALL) (w3 : Cond.selects y.cls y y ∈ WALL) (w4 : Cond.code y cy maxL ret ∈ WALL) (w5 : Cond.initialized y.cls ∈ WALL) (hd0 : dm_md y n) (hn : As.length = n) (hrm : rmy.cells = mc ∧ rmy.slots = ms ∧ rmy.frames + 1 ≤ rm.frames ∧ 8 + (maxL + 11) + rmy.locals ≤ rm.locals ∧ cs + mc ≤ rm.cells ∧ ss + ms ≤ rm.slots) (hd : decode cc pc = .ok (.invokevirtual idx, 3)) (hs : stk = As.reverse ++ DR ro :: rest) (h8 : (rest.map dm_cat).sum ≤ 8)
    (kx : match Y with
      | ((p, l, e, R, s), (m, args, below, meth, c), (D, dA, A0, nL, Q)) => ∀ (E : String) (h : DHp) (ce : Cell) (q9 : Addr) (H1 : Heap) (locs1 : List Loc) (ls : Array Slot), r = .inl (E, h) → dm_S D dA A0 s.heap (H1.size, h) H1 locs1 → lv_has ls nL (dm_lv lv) → H1[q9]? = some ce → ce.vm = .none → s.vm.findClass E = some ce.cls → vx_W p l e R s m args below meth c H1 locs1 (cs + mc) (ss + ms) Q (F0 m pc ls (rest.map dm_v)) q9)
    (kk : ∀ rv st1, r = .inr (rv, st1) → dm_W Y (cs + mc) (ss + ms) st1 (pc + 3) lv (rv.toList ++ rest)) : dm_W Y cs ss st pc lv stk := by
  obtain ⟨⟨p, l, e, R, s⟩, ⟨m, args, below, meth, c⟩, ⟨D, dA, A0, nL, Q⟩⟩ := Y
  obtain ⟨hx, hbb, hml, hown, hts, hK, hA, hRm, hl0, hEv⟩ := Cx
  subst hRm
  obtain ⟨h1, h2, h3, h4, h5, h6⟩ := hrm
  obtain ⟨⟨b', fs⟩, hg, hb'⟩ := ob hb
  cases hb'
  obtain ⟨rfl, hst⟩ := gO_spec hg
  dsimp only at hM hst kx
  intro H locs ls hS hl
  have hAs := dm_Asub hA hS
  refine dm_contX (vx_runV (As := As.map dm_v) (rest := rest.map dm_v) (n := n) (C := y.cls) (index := idx) ⟨hx, hbb, hml, hown, hts⟩ (hM l D dA hl0) ⟨callB_of n hts (wall_cons w4) rfl h1 h2 (hts _ w5) (hts _ w1) hd0 ⟨h3, h4⟩, hts _ w2, hts _ w3⟩ ⟨dm_blind, va_recv hK (dm_P1 (hS.1 _ _ hst)) (q0 := 0) hc rfl, dm_pre hA hK hEv hS⟩ rfl (by rw [List.length_map]; exact hn) hl.1 ?_ (lv_room (by rw [dm_cat_sum]; exact h8)) hd ⟨h5, h6⟩) hS hAs hAs (fun E h ce q9 H1 locs1 hF hS1 g1 g2 g3 => kx E h ce q9 H1 locs1 ls hF hS1 hl g1 g2 g3) fun rv' u H1 locs1 hF hS1 => ?_
  · show stk.map dm_v = _
    rw [hs, List.map_append, List.map_reverse]
    rfl
  · rw [dm_pret (ls := []) rfl rfl]
    exact kk rv' u hF H1 locs1 ls hS1 hl
theorem r_callSX (hM : dm_K2 y cy maxL ret rmy mc ms As st r) (Cx : dm_C Y cc own rm) (w1 : Cond.methodLink own idx y ∈ WALL) (w2 : Cond.static y ∈ WALL) (w4 : Cond.code y cy maxL ret ∈ WALL) (w5 : Cond.initialized y.cls ∈ WALL) (hd0 : dm_md y n) (hn : As.length = n) (hrm : rmy.cells = mc ∧ rmy.slots = ms ∧ rmy.frames + 1 ≤ rm.frames ∧ 8 + (maxL + 11) + rmy.locals ≤ rm.locals ∧ cs + mc ≤ rm.cells ∧ ss + ms ≤ rm.slots) (hd : decode cc pc = .ok (.invokestatic idx, 3)) (hs : stk = As.reverse ++ rest) (h8 : (rest.map dm_cat).sum ≤ 8)
    (kx : match Y with
      | ((p, l, e, R, s), (m, args, below, meth, c), (D, dA, A0, nL, Q)) => ∀ (E : String) (h : DHp) (ce : Cell) (q9 : Addr) (H1 : Heap) (locs1 : List Loc) (ls : Array Slot), r = .inl (E, h) → dm_S D dA A0 s.heap (H1.size, h) H1 locs1 → lv_has ls nL (dm_lv lv) → H1[q9]? = some ce → ce.vm = .none → s.vm.findClass E = some ce.cls → vx_W p l e R s m args below meth c H1 locs1 (cs + mc) (ss + ms) Q (F0 m pc ls (rest.map dm_v)) q9)
    (kk : ∀ rv st1, r = .inr (rv, st1) → dm_W Y (cs + mc) (ss + ms) st1 (pc + 3) lv (rv.toList ++ rest)) : dm_W Y cs ss st pc lv stk := by
  obtain ⟨⟨p, l, e, R, s⟩, ⟨m, args, below, meth, c⟩, ⟨D, dA, A0, nL, Q⟩⟩ := Y
  obtain ⟨hx, hbb, hml, hown, hts, hK, hA, hRm, hl0, hEv⟩ := Cx
  subst hRm
  obtain ⟨h1, h2, h3, h4, h5, h6⟩ := hrm
  dsimp only at kx
  intro H locs ls hS hl
  have hAs := dm_Asub hA hS
  refine dm_contX (vx_runS (As := As.map dm_v) (rest := rest.map dm_v) (n := n) (index := idx) ⟨hx, hbb, hml, hown, hts⟩ (hM l D dA hl0) ⟨callB_of n hts (wall_cons w4) rfl h1 h2 (hts _ w5) (hts _ w1) hd0 ⟨h3, h4⟩, hts _ w2⟩ ⟨dm_blind, dm_pre hA hK hEv hS⟩ rfl (by rw [List.length_map]; exact hn) hl.1 ?_ (lv_room (by rw [dm_cat_sum]; exact h8)) hd ⟨h5, h6⟩) hS hAs hAs (fun E h ce q9 H1 locs1 hF hS1 g1 g2 g3 => kx E h ce q9 H1 locs1 ls hF hS1 hl g1 g2 g3) fun rv' u H1 locs1 hF hS1 => ?_
  · show stk.map dm_v = _
    rw [hs, List.map_append, List.map_reverse]
  · rw [dm_pret (ls := []) rfl rfl]
    exact kk rv' u hF H1 locs1 ls hS1 hl
/-- a throw that this method doesn't catch -/
theorem dm_out2 {FinX : String → DHp → Prop} (E2 : dm_E2 Y mc ms FinX) (hF : ∀ E h, r = .inl (E, h) → FinX E h) (hc : cs ≤ mc ∧ ss ≤ ms) : match Y with
      | ((p, l, e, R, s), (m, args, below, meth, c), (D, dA, A0, nL, Q)) => ∀ (E : String) (h : DHp) (ce : Cell) (q9 : Addr) (H1 : Heap) (locs1 : List Loc) (ls : Array Slot), r = .inl (E, h) → dm_S D dA A0 s.heap (H1.size, h) H1 locs1 → lv_has ls nL (dm_lv lv) → H1[q9]? = some ce → ce.vm = .none → s.vm.findClass E = some ce.cls → vx_W p l e R s m args below meth c H1 locs1 cs ss Q (F0 m pc ls (rest.map dm_v)) q9 := by
  obtain ⟨⟨p, l, e, R, s⟩, ⟨m, args, below, meth, c⟩, ⟨D, dA, A0, nL, Q⟩⟩ := Y
  obtain ⟨hlk, hex, Qc, hQ⟩ := E2
  intro E h ce q9 H1 locs1 ls hr hS hl g1 g2 g3 T hT X
  obtain ⟨t, a1, b1⟩ := vx_out (Qc := Qc) (XC := dm_XC FinX D dA A0) (mc := mc) (ms := ms) (free := A0) (fun x hx => (hex x hx).elim) hlk g1 g2 g3 (fun t ht hv => ⟨⟨h, hF E h hr, by rw [ht]; exact hS.1, hS.2.2.1⟩, va_S.F hS.2.2.2 ht⟩) hS.2.2.2.2.2 hc.1 hc.2 T hT X
  exact ⟨t, a1, hQ t b1⟩
/-- a throw of this method's own: new, the text, athrow -/
theorem r_throw {FinX : String → DHp → Prop} {cls text : String} {ik is ic : Nat} (E2 : dm_E2 Y mc ms FinX) (Cx : dm_C Y cc own rm) (hF : FinX cls st.2) (hfit : Bundle.fit cls = true) (w1 : Cond.classLink own ik cls ∈ WALL) (w2 : Cond.initialized cls ∈ WALL) (hstr : (own, is, text) ∈ dm_strs) (hat : ∀ w ∈ vx_atS own ic cls ["java/lang/RuntimeException", "java/lang/Exception"], w ∈ WALL ∨ (∃ q ∈ dm_cas, w = .castable q.1 q.2) ∨ ∃ y ∈ dm_dcl, w = .declares y) (hgood : ∀ w ∈ Cond.classLink own ik cls :: Cond.initialized cls :: vx_atS own ic cls ["java/lang/RuntimeException", "java/lang/Exception"], vx_ot w = true)
    (d0 : decode cc pc = .ok (.new ik, 3)) (d3 : decode cc (pc + 3) = .ok (.dup, 1)) (d4 : decode cc (pc + 4) = .ok (.ldc is, 2)) (d6 : decode cc (pc + 6) = .ok (.invokespecial ic, 3)) (d9 : decode cc (pc + 9) = .ok (.athrow, 1))
    (hr : 6 ≤ rm.frames ∧ (stk.map dm_cat).sum + 82 ≤ rm.locals ∧ cs + 1 ≤ rm.cells ∧ ss + 6 ≤ rm.slots ∧ cs + 1 ≤ mc ∧ ss + 6 ≤ ms) : dm_W Y cs ss st pc lv stk := by
  obtain ⟨⟨p, l, e, R, s⟩, ⟨m, args, below, meth, c⟩, ⟨D, dA, A0, nL, Q⟩⟩ := Y
  obtain ⟨hx, hbb, hml, hown, hts, hK, hA, hRm, hl0, hEv⟩ := Cx
  subst hRm
  obtain ⟨hlk, hex, Qc, hQ⟩ := E2
  obtain ⟨hU, hN, hst9, hca, hdc, -⟩ := hEv
  obtain ⟨sa, hsa⟩ := hst9 _ hstr
  obtain ⟨h1, h2, h3, h4, h5, h6⟩ := hr
  intro H locs ls hS hl
  refine dm_mono hQ ?_
  refine vx_throwS hx hbb hl0 hown hfit (by decide +kernel) (hts _ w1) (hts _ w2) hsa (fun w hw => ?_) hgood hU hN hS.2.2.2 (hl.1.trans hml.symm) d0 d3 d4 d6 d9 (fun x hx => (hex x hx).elim) (by show 2 + 3 < R.frames; omega) (by rw [dm_cat_sum]; show _ + (13 * (2 + 1) + 43) ≤ R.locals; omega) h3 h4 hlk (fun t _ hz hq => ⟨⟨st.2, hF, hS.1.mono hq, hS.2.2.1⟩, Nat.le_trans hS.2.2.2.1 hz, fun q g1 g2 => by rw [hq q (Nat.lt_of_lt_of_le g1 hS.2.2.2.1)]; exact hS.2.2.2.2.1 q g1 g2⟩) hS.2.2.2.2.2 h5 h6
  rcases hat w hw with h | ⟨q, hq, rfl⟩ | ⟨q, hq, rfl⟩
  · exact hts w h
  · exact va_Nw.use rfl (hca q hq)
  · exact va_Nw.use rfl (hdc q hq)
/-- .. where the text lies beyond place 255 -/
theorem r_throwW {FinX : String → DHp → Prop} {cls text : String} {ik is ic : Nat} (E2 : dm_E2 Y mc ms FinX) (Cx : dm_C Y cc own rm) (hF : FinX cls st.2) (hfit : Bundle.fit cls = true) (w1 : Cond.classLink own ik cls ∈ WALL) (w2 : Cond.initialized cls ∈ WALL) (hstr : (own, is, text) ∈ dm_strs) (hat : ∀ w ∈ vx_atS own ic cls ["java/lang/RuntimeException", "java/lang/Exception"], w ∈ WALL ∨ (∃ q ∈ dm_cas, w = .castable q.1 q.2) ∨ ∃ y ∈ dm_dcl, w = .declares y) (hgood : ∀ w ∈ Cond.classLink own ik cls :: Cond.initialized cls :: vx_atS own ic cls ["java/lang/RuntimeException", "java/lang/Exception"], vx_ot w = true)
    (d0 : decode cc pc = .ok (.new ik, 3)) (d3 : decode cc (pc + 3) = .ok (.dup, 1)) (d4 : decode cc (pc + 4) = .ok (.ldc_w is, 3)) (d6 : decode cc (pc + 7) = .ok (.invokespecial ic, 3)) (d9 : decode cc (pc + 10) = .ok (.athrow, 1))
    (hr : 6 ≤ rm.frames ∧ (stk.map dm_cat).sum + 82 ≤ rm.locals ∧ cs + 1 ≤ rm.cells ∧ ss + 6 ≤ rm.slots ∧ cs + 1 ≤ mc ∧ ss + 6 ≤ ms) : dm_W Y cs ss st pc lv stk := by
  obtain ⟨⟨p, l, e, R, s⟩, ⟨m, args, below, meth, c⟩, ⟨D, dA, A0, nL, Q⟩⟩ := Y
  obtain ⟨hx, hbb, hml, hown, hts, hK, hA, hRm, hl0, hEv⟩ := Cx
  subst hRm
  obtain ⟨hlk, hex, Qc, hQ⟩ := E2
  obtain ⟨hU, hN, hst9, hca, hdc, -⟩ := hEv
  obtain ⟨sa, hsa⟩ := hst9 _ hstr
  obtain ⟨h1, h2, h3, h4, h5, h6⟩ := hr
  intro H locs ls hS hl
  refine dm_mono hQ ?_
  refine vx_throwSW hx hbb hl0 hown hfit (by decide +kernel) (hts _ w1) (hts _ w2) hsa (fun w hw => ?_) hgood hU hN hS.2.2.2 (hl.1.trans hml.symm) d0 d3 d4 d6 d9 (fun x hx => (hex x hx).elim) (by show 2 + 3 < R.frames; omega) (by rw [dm_cat_sum]; show _ + (13 * (2 + 1) + 43) ≤ R.locals; omega) h3 h4 hlk (fun t _ hz hq => ⟨⟨st.2, hF, hS.1.mono hq, hS.2.2.1⟩, Nat.le_trans hS.2.2.2.1 hz, fun q g1 g2 => by rw [hq q (Nat.lt_of_lt_of_le g1 hS.2.2.2.1)]; exact hS.2.2.2.2.1 q g1 g2⟩) hS.2.2.2.2.2 h5 h6
  rcases hat w hw with h | ⟨q, hq, rfl⟩ | ⟨q, hq, rfl⟩
  · exact hts w h
  · exact va_Nw.use rfl (hca q hq)
  · exact va_Nw.use rfl (hdc q hq)
/-! returns -/
theorem dm_ret {D : va_G} {dA : Nat → ClassId} {A0 : Nat → Prop} {s t : State} {H : Heap} {st : DSt} {locs : List Loc} {args : Array Value} {Fin : Option DV → DSt → Prop} (hF : Fin rv st) (hS : dm_S D dA A0 s.heap st H locs) (ht : t.heap = H) : dm_Qc Fin D dA A0 args s (.returned (rv.map dm_v)) t := ⟨⟨rv, st, rfl, hF, by rw [ht]; exact hS.1, by rw [ht]; exact hS.2.1, hS.2.2.1⟩, va_S.F hS.2.2.2 ht⟩
theorem r_iret {Fin : Option DV → DSt → Prop} {x : Int32} (E1 : dm_E1 Y (some .int) mc ms Fin) (Cx : dm_C Y cc own rm) (hF : Fin (some (DI x)) st) (hc : cs ≤ mc ∧ ss ≤ ms) (hd : decode cc pc = .ok (.ireturn, 1)) : dm_W Y cs ss st pc lv [DI x] := by
  obtain ⟨⟨p, l, e, R, s⟩, ⟨m, args, below, meth, c⟩, ⟨D, dA, A0, nL, Q⟩⟩ := Y
  obtain ⟨hrt, hlk, hQ⟩ := E1
  intro H locs ls hS hl
  exact dm_mono hQ (W.widen hc.1 hc.2 (W.iret (v := x) Cx.1 Cx.2.1 hrt (fun t ht hW => dm_ret hF hS ht) hS.2.2.2.2.2 hd hlk))
theorem r_zret {Fin : Option DV → DSt → Prop} {x z : Int32} (E1 : dm_E1 Y (some .boolean) mc ms Fin) (Cx : dm_C Y cc own rm) (hz : oZ x = some z) (hF : Fin (some (DI z)) st) (hc : cs ≤ mc ∧ ss ≤ ms) (hd : decode cc pc = .ok (.ireturn, 1)) : dm_W Y cs ss st pc lv [DI x] := by
  obtain ⟨⟨p, l, e, R, s⟩, ⟨m, args, below, meth, c⟩, ⟨D, dA, A0, nL, Q⟩⟩ := Y
  obtain ⟨hrt, hlk, hQ⟩ := E1
  obtain ⟨rfl, hn⟩ := oZ_spec hz
  intro H locs ls hS hl
  exact dm_mono hQ (W.widen hc.1 hc.2 (W.zret (v := z) Cx.1 Cx.2.1 hrt hn (fun t ht hW => dm_ret hF hS ht) hS.2.2.2.2.2 hd hlk))
theorem r_lret {Fin : Option DV → DSt → Prop} {x : Int64} (E1 : dm_E1 Y (some .long) mc ms Fin) (Cx : dm_C Y cc own rm) (hF : Fin (some (DL x)) st) (hc : cs ≤ mc ∧ ss ≤ ms) (hd : decode cc pc = .ok (.lreturn, 1)) : dm_W Y cs ss st pc lv [DL x] := by
  obtain ⟨⟨p, l, e, R, s⟩, ⟨m, args, below, meth, c⟩, ⟨D, dA, A0, nL, Q⟩⟩ := Y
  obtain ⟨hrt, hlk, hQ⟩ := E1
  intro H locs ls hS hl
  exact dm_mono hQ (W.widen hc.1 hc.2 (W.lret (v := x) Cx.1 Cx.2.1 hrt (fun t ht hW => dm_ret hF hS ht) hS.2.2.2.2.2 hd hlk))
theorem r_dret {Fin : Option DV → DSt → Prop} {x : UInt64} (E1 : dm_E1 Y (some .double) mc ms Fin) (Cx : dm_C Y cc own rm) (hF : Fin (some (DD x)) st) (hc : cs ≤ mc ∧ ss ≤ ms) (hd : decode cc pc = .ok (.dreturn, 1)) : dm_W Y cs ss st pc lv [DD x] := by
  obtain ⟨⟨p, l, e, R, s⟩, ⟨m, args, below, meth, c⟩, ⟨D, dA, A0, nL, Q⟩⟩ := Y
  obtain ⟨hrt, hlk, hQ⟩ := E1
  intro H locs ls hS hl
  exact dm_mono hQ (W.widen hc.1 hc.2 (W.dret (v := x) Cx.1 Cx.2.1 hrt (fun t ht hW => dm_ret hF hS ht) hS.2.2.2.2.2 hd hlk))
theorem r_vret {Fin : Option DV → DSt → Prop} (E1 : dm_E1 Y none mc ms Fin) (Cx : dm_C Y cc own rm) (hF : Fin none st) (hc : cs ≤ mc ∧ ss ≤ ms) (hd : decode cc pc = .ok (.return_, 1)) : dm_W Y cs ss st pc lv [] := by
  obtain ⟨⟨p, l, e, R, s⟩, ⟨m, args, below, meth, c⟩, ⟨D, dA, A0, nL, Q⟩⟩ := Y
  obtain ⟨hrt, hlk, hQ⟩ := E1
  intro H locs ls hS hl
  exact dm_mono hQ (W.widen hc.1 hc.2 (W.vret Cx.1 Cx.2.1 hrt (fun t ht hW => dm_ret (rv := none) hF hS ht) hS.2.2.2.2.2 hd hlk))
theorem r_aret {Fin : Option DV → DSt → Prop} {x : Option Nat} {rt : FieldType} (hrf : (∃ n, rt = .object n) ∨ ∃ t, rt = .array t) (E1 : dm_E1 Y (some rt) mc ms Fin) (Cx : dm_C Y cc own rm) (hF : Fin (some (DR x)) st) (hc : cs ≤ mc ∧ ss ≤ ms) (hd : decode cc pc = .ok (.areturn, 1)) : dm_W Y cs ss st pc lv [DR x] := by
  obtain ⟨⟨p, l, e, R, s⟩, ⟨m, args, below, meth, c⟩, ⟨D, dA, A0, nL, Q⟩⟩ := Y
  obtain ⟨hrt, hlk, hQ⟩ := E1
  intro H locs ls hS hl
  have hv : va_rf x = .null ∨ ∃ a, va_rf x = .ref a := by
    cases x with
    | none => exact Or.inl rfl
    | some a => exact Or.inr ⟨a, rfl⟩
  exact dm_mono hQ (W.widen hc.1 hc.2 (W.aret (v := va_rf x) Cx.1 Cx.2.1 hrt hrf hv (fun t ht hW => dm_ret (rv := some (DR x)) hF hS ht) hS.2.2.2.2.2 hd hlk))
end DRUN
/-! starts -/
theorem dm_k1 {y : MethodName} {cy : ByteArray} {maxL mc ms : Nat} {ret : Option FieldType} {rmy : Room} {avs : List DV} {st st1 : DSt} {rv : Option DV} {own : String} (hy : plainName y.cls = true) (ho : y.cls = own) (hlen : (avs.map dm_cat).sum ≤ maxL)
    (body : ∀ Y : DY, dm_C Y cy own rmy → dm_N Y maxL → (y.name = "<init>" → dm_I Y own) → dm_E1 Y ret mc ms (fun rv' u => rv' = rv ∧ u = st1) → dm_W Y 0 0 st 0 (dm_args 0 avs) []) : dm_K1 y cy maxL ret rmy mc ms avs st rv st1 := by
  intro l D dA hl0
  refine Met.ofW (cc := cy) (maxL := maxL) (ret := ret) hy rfl ?_
  intro p e s m args below meth c s₁ B hml hv
  obtain ⟨rfl, hR, hsz, hK, hEv⟩ := hv
  have hts : ∀ w ∈ WALL, w.before (avs.map dm_v).toArray s = true := fun w hw => atoms_spec (ws := Cond.code y cy maxL ret :: WALL) B.pre w (List.mem_cons_of_mem _ hw)
  have hown : s.vm.findClass own = some m.cls := by rw [← ho]; exact findClass_of_methodNamed B.named
  have hA : ∀ q, s.heap.size ≤ q → dm_A st q := fun q h => Or.inr (by rw [← hsz]; exact h)
  have h := body ((p, l, e, _, s), (m, _, below, meth, c), (D, dA, dm_A st, maxL, _)) ⟨B.exec, B.bytes, hml, hown, hts, hK, hA, rfl, hl0, hEv⟩ rfl (fun hi => ((name_of_methodNamed B.named B.method).1.trans hi : meth.name = "<init>")) ⟨B.returns, B.notSynchronized, fun t ht => ht⟩
  rw [lg_entry_eq]
  refine h s.heap [] _ ⟨hR, hsz, fun q e he => Or.inl ⟨e, he⟩, va_S.rf⟩ ?_
  rw [← dm_args_lv]
  exact lv_entry (avs.map dm_v) (by rw [dm_args_len]; exact hlen)
theorem dm_k2 {y : MethodName} {cy : ByteArray} {maxL mc ms : Nat} {ret : Option FieldType} {rmy : Room} {avs : List DV} {st : DSt} {r : DRes} {own : String} (hy : plainName y.cls = true) (ho : y.cls = own) (hlen : (avs.map dm_cat).sum ≤ maxL)
    (body : ∀ Y : DY, dm_C Y cy own rmy → dm_N Y maxL → dm_E1 Y ret mc ms (fun rv u => r = .inr (rv, u)) → dm_E2 Y mc ms (fun E h => r = .inl (E, h)) → dm_W Y 0 0 st 0 (dm_args 0 avs) []) : dm_K2 y cy maxL ret rmy mc ms avs st r := by
  intro l D dA hl0
  refine vx_ofW (cc := cy) (maxL := maxL) (ret := ret) hy rfl ?_
  intro p e s m args below meth c s₁ B hml hex hv
  obtain ⟨rfl, hR, hsz, hK, hEv⟩ := hv
  have hts : ∀ w ∈ WALL, w.before (avs.map dm_v).toArray s = true := fun w hw => atoms_spec (ws := Cond.code y cy maxL ret :: WALL) B.pre w (List.mem_cons_of_mem _ hw)
  have hown : s.vm.findClass own = some m.cls := by rw [← ho]; exact findClass_of_methodNamed B.named
  have hA : ∀ q, s.heap.size ≤ q → dm_A st q := fun q h => Or.inr (by rw [← hsz]; exact h)
  have h := body ((p, l, e, _, s), (m, _, below, meth, c), (D, dA, dm_A st, maxL, _)) ⟨B.exec, B.bytes, hml, hown, hts, hK, hA, rfl, hl0, hEv⟩ rfl ⟨B.returns, B.notSynchronized, fun t ht => by
    obtain ⟨o, b1, b2, b3, b4⟩ := ht
    exact ⟨o, b1, b2, Or.inl ⟨b3, b4⟩⟩⟩ ⟨B.notSynchronized, hex, _, fun t ht => ht⟩
  rw [lg_entry_eq]
  refine h s.heap [] _ ⟨hR, hsz, fun q e he => Or.inl ⟨e, he⟩, va_S.rf⟩ ?_
  rw [← dm_args_lv]
  exact lv_entry (avs.map dm_v) (by rw [dm_args_len]; exact hlen)
/-! what generated walks use -/
section DGEN
variable {Y : DY} {cc : ByteArray} {own : String} {rm : Room} {cs ss pc : Nat} {st st1 : DSt} {lv : List (Nat × DV)} {stk stk' rest : List DV}
variable {y : MethodName} {cy : ByteArray} {maxL mc ms mcy msy n idx : Nat} {ret : Option FieldType} {rmy : Room} {rv : Option DV} {As : List DV} {b : Nat} {ci : Nat} {T : u_T} {N : Nat} {ro : Option Nat}
theorem dm_noX (h : DRes) (hne : ∀ E h', ¬ h = .inl (E, h')) : match Y with
      | ((p, l, e, R, s), (m, args, below, meth, c), (D, dA, A0, nL, Q)) => ∀ (E : String) (h' : DHp) (ce : Cell) (q9 : Addr) (H1 : Heap) (locs1 : List Loc) (ls : Array Slot), h = .inl (E, h') → dm_S D dA A0 s.heap (H1.size, h') H1 locs1 → lv_has ls nL (dm_lv lv) → H1[q9]? = some ce → ce.vm = .none → s.vm.findClass E = some ce.cls → vx_W p l e R s m args below meth c H1 locs1 cs ss Q (F0 m pc ls (rest.map dm_v)) q9 := by
  obtain ⟨⟨p, l, e, R, s⟩, ⟨m, args, below, meth, c⟩, ⟨D, dA, A0, nL, Q⟩⟩ := Y
  intro E h' ce q9 H1 locs1 ls hr
  exact absurd hr (hne E h')
theorem r_callVX_ret (hM : dm_K2 y cy maxL ret rmy mc ms (DR (some b) :: As) st (.inr (rv, st1))) (hb : oR st ro ci = some b) (hc : vwCl[ci]? = some (y.cls, T, N)) (Cx : dm_C Y cc own rm) (w1 : Cond.methodLink own idx y ∈ WALL) (w2 : Cond.instanceMethod y ∈ WALL) (w3 : Cond.selects y.cls y y ∈ WALL) (w4 : Cond.code y cy maxL ret ∈ WALL) (w5 : Cond.initialized y.cls ∈ WALL) (hd0 : dm_md y n) (hn : As.length = n) (hrm : rmy.cells = mc ∧ rmy.slots = ms ∧ rmy.frames + 1 ≤ rm.frames ∧ 8 + (maxL + 11) + rmy.locals ≤ rm.locals ∧ cs + mc ≤ rm.cells ∧ ss + ms ≤ rm.slots) (hd : decode cc pc = .ok (.invokevirtual idx, 3)) (hs : stk = As.reverse ++ DR ro :: rest) (h8 : (rest.map dm_cat).sum ≤ 8) (hs' : rv.toList ++ rest = stk') (kk : dm_W Y (cs + mc) (ss + ms) st1 (pc + 3) lv stk') : dm_W Y cs ss st pc lv stk := by
  refine r_callVX hM hb hc Cx w1 w2 w3 w4 w5 hd0 hn hrm hd hs h8 (dm_noX _ fun E h' h => nomatch h) fun rv' st' h => ?_
  cases h
  rw [hs']
  exact kk
theorem r_callVX_thr {FinX : String → DHp → Prop} {E : String} {h : DHp} (hM : dm_K2 y cy maxL ret rmy mcy msy (DR (some b) :: As) st (.inl (E, h))) (E2 : dm_E2 Y mc ms FinX) (hF : FinX E h) (hb : oR st ro ci = some b) (hc : vwCl[ci]? = some (y.cls, T, N)) (Cx : dm_C Y cc own rm) (w1 : Cond.methodLink own idx y ∈ WALL) (w2 : Cond.instanceMethod y ∈ WALL) (w3 : Cond.selects y.cls y y ∈ WALL) (w4 : Cond.code y cy maxL ret ∈ WALL) (w5 : Cond.initialized y.cls ∈ WALL) (hd0 : dm_md y n) (hn : As.length = n) (hrm : rmy.cells = mcy ∧ rmy.slots = msy ∧ rmy.frames + 1 ≤ rm.frames ∧ 8 + (maxL + 11) + rmy.locals ≤ rm.locals ∧ cs + mcy ≤ rm.cells ∧ ss + msy ≤ rm.slots) (hm : cs + mcy ≤ mc ∧ ss + msy ≤ ms) (hd : decode cc pc = .ok (.invokevirtual idx, 3)) (hs : stk = As.reverse ++ DR ro :: rest) (h8 : (rest.map dm_cat).sum ≤ 8) : dm_W Y cs ss st pc lv stk :=
  r_callVX hM hb hc Cx w1 w2 w3 w4 w5 hd0 hn hrm hd hs h8 (dm_out2 E2 (fun E' h' e => by cases e; exact hF) hm) fun rv' st' h => nomatch h
theorem r_callSX_ret (hM : dm_K2 y cy maxL ret rmy mc ms As st (.inr (rv, st1))) (Cx : dm_C Y cc own rm) (w1 : Cond.methodLink own idx y ∈ WALL) (w2 : Cond.static y ∈ WALL) (w4 : Cond.code y cy maxL ret ∈ WALL) (w5 : Cond.initialized y.cls ∈ WALL) (hd0 : dm_md y n) (hn : As.length = n) (hrm : rmy.cells = mc ∧ rmy.slots = ms ∧ rmy.frames + 1 ≤ rm.frames ∧ 8 + (maxL + 11) + rmy.locals ≤ rm.locals ∧ cs + mc ≤ rm.cells ∧ ss + ms ≤ rm.slots) (hd : decode cc pc = .ok (.invokestatic idx, 3)) (hs : stk = As.reverse ++ rest) (h8 : (rest.map dm_cat).sum ≤ 8) (hs' : rv.toList ++ rest = stk') (kk : dm_W Y (cs + mc) (ss + ms) st1 (pc + 3) lv stk') : dm_W Y cs ss st pc lv stk := by
  refine r_callSX hM Cx w1 w2 w4 w5 hd0 hn hrm hd hs h8 (dm_noX _ fun E h' h => nomatch h) fun rv' st' h => ?_
  cases h
  rw [hs']
  exact kk
theorem r_callSX_thr {FinX : String → DHp → Prop} {E : String} {h : DHp} (hM : dm_K2 y cy maxL ret rmy mcy msy As st (.inl (E, h))) (E2 : dm_E2 Y mc ms FinX) (hF : FinX E h) (Cx : dm_C Y cc own rm) (w1 : Cond.methodLink own idx y ∈ WALL) (w2 : Cond.static y ∈ WALL) (w4 : Cond.code y cy maxL ret ∈ WALL) (w5 : Cond.initialized y.cls ∈ WALL) (hd0 : dm_md y n) (hn : As.length = n) (hrm : rmy.cells = mcy ∧ rmy.slots = msy ∧ rmy.frames + 1 ≤ rm.frames ∧ 8 + (maxL + 11) + rmy.locals ≤ rm.locals ∧ cs + mcy ≤ rm.cells ∧ ss + msy ≤ rm.slots) (hm : cs + mcy ≤ mc ∧ ss + msy ≤ ms) (hd : decode cc pc = .ok (.invokestatic idx, 3)) (hs : stk = As.reverse ++ rest) (h8 : (rest.map dm_cat).sum ≤ 8) : dm_W Y cs ss st pc lv stk :=
  r_callSX hM Cx w1 w2 w4 w5 hd0 hn hrm hd hs h8 (dm_out2 E2 (fun E' h' e => by cases e; exact hF) hm) fun rv' st' h => nomatch h
end DGEN
def oN {β : Type} (r : Option Nat) (A : β) (B : Nat → β) : β := match r with
  | none => A
  | some a => B a
/-- results as the contracts have them: x: impure with a value; v: impure, void; p: pure with a value; u: pure, void -/
def rxI (r : (String × DHp) ⊕ (Int32 × DSt)) : DRes := match r with
  | .inl e => .inl e
  | .inr q => .inr (some (DI q.1), q.2)
def rxV (r : (String × DHp) ⊕ DSt) : DRes := match r with
  | .inl e => .inl e
  | .inr q => .inr (none, q)
def rpI (st : DSt) (r : (String × DHp) ⊕ Int32) : DRes := match r with
  | .inl e => .inl e
  | .inr q => .inr (some (DI q), st)
def rpR (st : DSt) (r : (String × DHp) ⊕ Option Nat) : DRes := match r with
  | .inl e => .inl e
  | .inr q => .inr (some (DR q), st)
def rpV (st : DSt) (r : (String × DHp) ⊕ Unit) : DRes := match r with
  | .inl e => .inl e
  | .inr _ => .inr (none, st)
theorem f1xI {x v : Int32} {s t : DSt} (h : some (x, s) = some (v, t)) : some (DI x) = some (DI v) ∧ s = t := by cases h; exact ⟨rfl, rfl⟩
theorem f1xR {x v : Option Nat} {s t : DSt} (h : some (x, s) = some (v, t)) : some (DR x) = some (DR v) ∧ s = t := by cases h; exact ⟨rfl, rfl⟩
theorem f1xV {s t : DSt} (h : some s = some t) : (none : Option DV) = none ∧ s = t := by cases h; exact ⟨rfl, rfl⟩
theorem f1pI {x v : Int32} {s : DSt} (h : some x = some v) : some (DI x) = some (DI v) ∧ s = s := by cases h; exact ⟨rfl, rfl⟩
theorem f1pR {x v : Option Nat} {s : DSt} (h : some x = some v) : some (DR x) = some (DR v) ∧ s = s := by cases h; exact ⟨rfl, rfl⟩
theorem f1pL {x v : Int64} {s : DSt} (h : some x = some v) : some (DL x) = some (DL v) ∧ s = s := by cases h; exact ⟨rfl, rfl⟩
theorem f1pD {x v : UInt64} {s : DSt} (h : some x = some v) : some (DD x) = some (DD v) ∧ s = s := by cases h; exact ⟨rfl, rfl⟩
theorem f1pV {s : DSt} : (none : Option DV) = none ∧ s = s := ⟨rfl, rfl⟩
theorem f1xL {x v : Int64} {s t : DSt} (h : some (x, s) = some (v, t)) : some (DL x) = some (DL v) ∧ s = t := by cases h; exact ⟨rfl, rfl⟩
theorem f1xD {x v : UInt64} {s t : DSt} (h : some (x, s) = some (v, t)) : some (DD x) = some (DD v) ∧ s = t := by cases h; exact ⟨rfl, rfl⟩
theorem f2xI {x : Int32} {s : DSt} {r} (h : some (Sum.inr (x, s)) = some r) : rxI r = .inr (some (DI x), s) := by cases h; rfl
theorem f2xV {s : DSt} {r} (h : some (Sum.inr s) = some r) : rxV r = .inr (none, s) := by cases h; rfl
theorem f2pI {x : Int32} {s : DSt} {r} (h : some (Sum.inr x) = some r) : rpI s r = .inr (some (DI x), s) := by cases h; rfl
theorem f2pR {x : Option Nat} {s : DSt} {r} (h : some (Sum.inr x) = some r) : rpR s r = .inr (some (DR x), s) := by cases h; rfl
theorem f2pV {s : DSt} {r} (h : some (Sum.inr ()) = some r) : rpV s r = .inr (none, s) := by cases h; rfl
theorem t2xI {e r} (h : some (Sum.inl e) = some r) : rxI r = .inl e := by cases h; rfl
theorem t2xV {e r} (h : some (Sum.inl e) = some r) : rxV r = .inl e := by cases h; rfl
theorem t2pI {s : DSt} {e r} (h : some (Sum.inl e) = some r) : rpI s r = .inl e := by cases h; rfl
theorem t2pR {s : DSt} {e r} (h : some (Sum.inl e) = some r) : rpR s r = .inl e := by cases h; rfl
theorem t2pV {s : DSt} {e r} (h : some (Sum.inl e) = some r) : rpV s r = .inl e := by cases h; rfl
/-! the script as an argument; private constructors of nest mates -/
def dm_SC (Y : DY) (b L : Nat) (xs : Nat → Int32) : Prop :=
  match Y with
  | ((_, _, _, _, s), _, (_, _, A0, _, _)) => va_X b L xs s s.heap ∧ b < s.heap.size ∧ ¬ A0 b
def dm_K1S (b L : Nat) (xs : Nat → Int32) (y : MethodName) (cy : ByteArray) (maxL : Nat) (ret : Option FieldType) (rmy : Room) (mc ms : Nat) (avs : List DV) (st : DSt) (rv : Option DV) (st1 : DSt) : Prop :=
  ¬ dm_A st b → ∀ (l : Launch) (D : va_G) (dA : Nat → ClassId), l.stackTraces = false → Met l y (Cond.code y cy maxL ret :: WALL) rmy (fun args U => dm_Pc D dA avs st args U ∧ va_X b L xs U U.heap) (dm_Qc (fun rv' u => rv' = rv ∧ u = st1) D dA (dm_A st)) mc ms (dm_A st)
theorem dm_k1s {b L : Nat} {xs : Nat → Int32} {y : MethodName} {cy : ByteArray} {maxL mc ms : Nat} {ret : Option FieldType} {rmy : Room} {avs : List DV} {st st1 : DSt} {rv : Option DV} {own : String} (hy : plainName y.cls = true) (ho : y.cls = own) (hlen : (avs.map dm_cat).sum ≤ maxL)
    (body : ∀ Y : DY, dm_C Y cy own rmy → dm_N Y maxL → dm_SC Y b L xs → dm_E1 Y ret mc ms (fun rv' u => rv' = rv ∧ u = st1) → dm_W Y 0 0 st 0 (dm_args 0 avs) []) : dm_K1S b L xs y cy maxL ret rmy mc ms avs st rv st1 := by
  intro hbA l D dA hl0
  refine Met.ofW (cc := cy) (maxL := maxL) (ret := ret) hy rfl ?_
  intro p e s m args below meth c s₁ B hml hv
  obtain ⟨⟨rfl, hR, hsz, hK, hEv⟩, hX⟩ := hv
  have hts : ∀ w ∈ WALL, w.before (avs.map dm_v).toArray s = true := fun w hw => atoms_spec (ws := Cond.code y cy maxL ret :: WALL) B.pre w (List.mem_cons_of_mem _ hw)
  have hown : s.vm.findClass own = some m.cls := by rw [← ho]; exact findClass_of_methodNamed B.named
  have hA : ∀ q, s.heap.size ≤ q → dm_A st q := fun q h => Or.inr (by rw [← hsz]; exact h)
  have hbl : b < s.heap.size := by
    obtain ⟨scr, h1, -⟩ := hX
    exact (Array.getElem?_eq_some_iff.mp h1).1
  have h := body ((p, l, e, _, s), (m, _, below, meth, c), (D, dA, dm_A st, maxL, _)) ⟨B.exec, B.bytes, hml, hown, hts, hK, hA, rfl, hl0, hEv⟩ rfl ⟨hX, hbl, hbA⟩ ⟨B.returns, B.notSynchronized, fun t ht => ht⟩
  rw [lg_entry_eq]
  refine h s.heap [] _ ⟨hR, hsz, fun q e he => Or.inl ⟨e, he⟩, va_S.rf⟩ ?_
  rw [← dm_args_lv]
  exact lv_entry (avs.map dm_v) (by rw [dm_args_len]; exact hlen)
section DSCR
variable {Y : DY} {cc : ByteArray} {own : String} {rm : Room} {cs ss pc : Nat} {st st1 : DSt} {lv : List (Nat × DV)} {stk stk' rest : List DV} {b L : Nat} {xs : Nat → Int32}
variable {y : MethodName} {cy : ByteArray} {maxL mc ms n idx : Nat} {ret : Option FieldType} {rmy : Room} {rv : Option DV} {As : List DV}
def sldO (xs : Nat → Int32) (L : Nat) (i : Int32) : Option Int32 := if inA i L = true then some (xs i.toNatClampNeg) else none
theorem r_sld {i v : Int32} (hSC : dm_SC Y b L xs) (Cx : dm_C Y cc own rm) (hd : decode cc pc = .ok (.iaload, 1)) (hv : sldO xs L i = some v) (kk : dm_W Y cs ss st (pc + 1) lv (DI v :: stk)) : dm_W Y cs ss st pc lv (DI i :: DR (some b) :: stk) := by
  obtain ⟨⟨p, l, e, R, s⟩, ⟨m, args, below, meth, c⟩, ⟨D, dA, A0, nL, Q⟩⟩ := Y
  obtain ⟨hX, hbl, hbA⟩ := hSC
  unfold sldO at hv
  split at hv
  · rename_i hin
    cases hv
    intro H locs ls hS hl
    exact va_sld Cx.1 Cx.2.1 hX hbl (A := A0) hbA hS.2.2.2 (inA_in hin) hd (kk H locs ls hS hl)
  · cases hv
theorem r_slen (hSC : dm_SC Y b L xs) (Cx : dm_C Y cc own rm) (hd : decode cc pc = .ok (.arraylength, 1)) (kk : dm_W Y cs ss st (pc + 1) lv (DI (Int32.ofNat L) :: stk)) : dm_W Y cs ss st pc lv (DR (some b) :: stk) := by
  obtain ⟨⟨p, l, e, R, s⟩, ⟨m, args, below, meth, c⟩, ⟨D, dA, A0, nL, Q⟩⟩ := Y
  obtain ⟨hX, hbl, hbA⟩ := hSC
  intro H locs ls hS hl
  exact va_slen Cx.1 Cx.2.1 hX hbl (A := A0) hbA hS.2.2.2 hd (kk H locs ls hS hl)
theorem r_callSS (hM : dm_K1S b L xs y cy maxL ret rmy mc ms As st rv st1) (hSC : dm_SC Y b L xs) (Cx : dm_C Y cc own rm) (w1 : Cond.methodLink own idx y ∈ WALL) (w2 : Cond.static y ∈ WALL) (w4 : Cond.code y cy maxL ret ∈ WALL) (w5 : Cond.initialized y.cls ∈ WALL) (hd0 : dm_md y n) (hn : As.length = n) (hrm : rmy.cells = mc ∧ rmy.slots = ms ∧ rmy.frames + 1 ≤ rm.frames ∧ 8 + (maxL + 11) + rmy.locals ≤ rm.locals ∧ cs + mc ≤ rm.cells ∧ ss + ms ≤ rm.slots) (hd : decode cc pc = .ok (.invokestatic idx, 3)) (hs : stk = As.reverse ++ rest) (h8 : (rest.map dm_cat).sum ≤ 8) (hs' : rv.toList ++ rest = stk') (kk : dm_W Y (cs + mc) (ss + ms) st1 (pc + 3) lv stk') : dm_W Y cs ss st pc lv stk := by
  obtain ⟨⟨p, l, e, R, s⟩, ⟨m, args, below, meth, c⟩, ⟨D, dA, A0, nL, Q⟩⟩ := Y
  obtain ⟨hx, hbb, hml, hown, hts, hK, hA, hRm, hl0, hEv⟩ := Cx
  obtain ⟨hX, hbl, hbA⟩ := hSC
  subst hRm
  obtain ⟨h1, h2, h3, h4, h5, h6⟩ := hrm
  intro H locs ls hS hl
  have hAs := dm_Asub hA hS
  have hXH : va_X b L xs s H := hX.kept (hS.2.2.2.2.1 b hbl hbA)
  refine dm_cont (va_runS (As := As.map dm_v) (rest := rest.map dm_v) (n := n) (index := idx) ⟨hx, hbb, hml, hown, hts⟩ (hM (fun z => hbA (hAs b z)) l D dA hl0) ⟨callB_of n hts (wall_cons w4) rfl h1 h2 (hts _ w5) (hts _ w1) hd0 ⟨h3, h4⟩, hts _ w2⟩ ⟨fun a U g mk h => ⟨dm_blind a U g mk h.1, va_X.moved (u := U) (U := U.calling g mk a) (Vm.Alike.refl U.vm) h.2⟩, fun U hU hW => ⟨dm_pre hA hK hEv hS U hU hW, by rw [hU]; exact hXH.moved hW.alike⟩⟩ rfl (by rw [List.length_map]; exact hn) hl.1 ?_ (lv_room (by rw [dm_cat_sum]; exact h8)) hd ⟨h5, h6⟩) hS hAs hAs fun rv' u H1 locs1 hF hS1 => ?_
  · show stk.map dm_v = _
    rw [hs, List.map_append, List.map_reverse]
  · obtain ⟨e1, rfl⟩ := hF
    rw [dm_pret (ls := []) hs' e1]
    exact kk H1 locs1 ls hS1 hl
theorem r_callIN {b : Nat} {host : String} (hM : dm_K1 y cy maxL none rmy mc ms (DR (some b) :: As) st rv st1) (Cx : dm_C Y cc own rm) (w1 : (own, idx, y, host) ∈ dm_nst) (w2 : Cond.instanceMethod y ∈ WALL) (hy1 : y.name = "<init>") (w4 : Cond.code y cy maxL none ∈ WALL) (w5 : Cond.initialized y.cls ∈ WALL) (hd0 : dm_md y n) (hn : As.length = n) (hrm : rmy.cells = mc ∧ rmy.slots = ms ∧ rmy.frames + 1 ≤ rm.frames ∧ 8 + (maxL + 11) + rmy.locals ≤ rm.locals ∧ cs + mc ≤ rm.cells ∧ ss + ms ≤ rm.slots) (hd : decode cc pc = .ok (.invokespecial idx, 3)) (hs : stk = As.reverse ++ DR (some b) :: rest) (h8 : (rest.map dm_cat).sum ≤ 8) (hs' : rv.toList ++ rest = stk') (kk : dm_W Y (cs + mc) (ss + ms) st1 (pc + 3) lv stk') : dm_W Y cs ss st pc lv stk := by
  obtain ⟨⟨p, l, e, R, s⟩, ⟨m, args, below, meth, c⟩, ⟨D, dA, A0, nL, Q⟩⟩ := Y
  obtain ⟨hx, hbb, hml, hown, hts, hK, hA, hRm, hl0, hEv⟩ := Cx
  subst hRm
  obtain ⟨h1, h2, h3, h4, h5, h6⟩ := hrm
  intro H locs ls hS hl
  have hAs := dm_Asub hA hS
  refine dm_cont (va_runIN (b := b) (As := As.map dm_v) (rest := rest.map dm_v) (n := n) (index := idx) (host := host) ⟨hx, hbb, hml, hown, hts⟩ (hM l D dA hl0) ⟨va_cnB n hts (wall_cons w4) rfl h1 h2 (hEv.2.2.2.2.2.1.1 _ w1) (hts _ w5) hd0 ⟨h3, h4⟩, hy1, hts _ w2⟩ ⟨dm_blind, dm_pre hA hK hEv hS⟩ rfl (by rw [List.length_map]; exact hn) hl.1 ?_ (lv_room (by rw [dm_cat_sum]; exact h8)) hd ⟨h5, h6⟩) hS hAs hAs fun rv' u H1 locs1 hF hS1 => ?_
  · show stk.map dm_v = _
    rw [hs, List.map_append, List.map_reverse]
    rfl
  · obtain ⟨e1, rfl⟩ := hF
    rw [dm_pret (ls := []) hs' e1]
    exact kk H1 locs1 ls hS1 hl
end DSCR
end
