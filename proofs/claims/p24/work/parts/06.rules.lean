section DRULES
variable {Y : DY} {cc : ByteArray} {own : String} {rm : Room} {cs ss pc : Nat} {st : DSt} {lv lv' : List (Nat × DV)} {stk : List DV}
theorem dm_at {ls : Array Slot} {nL : Nat} {lv : List (Nat × DV)} (h : lv_has ls nL (dm_lv lv)) (k : Nat) {i : Nat} {v : DV} (hk : lv[k]? = some (i, v)) : ls[i]? = some (.val (dm_v v)) := lv_at h k (by unfold dm_lv; rw [List.getElem?_map, hk]; rfl)
def dm_set1 (lv : List (Nat × DV)) (i : Nat) (v : DV) : List (Nat × DV) := (i, v) :: lv.filter (fun q => !(q.1 == i) && !(q.1 + 1 == i && dm_cat q.2 == 2))
def dm_set2 (lv : List (Nat × DV)) (i : Nat) (v : DV) : List (Nat × DV) := (i, v) :: lv.filter (fun q => !(q.1 == i) && (!(q.1 == i + 1) && !(q.1 + 1 == i && dm_cat q.2 == 2)))
theorem dm_set1_lv {lv : List (Nat × DV)} {i : Nat} {v : DV} {lv' : List (Nat × DV)} (h : dm_set1 lv i v = lv') : (i, dm_v v) :: (dm_lv lv).filter (fun q => !(q.1 == i) && !(q.1 + 1 == i && q.2.category == 2)) = dm_lv lv' := by
  subst h
  unfold dm_set1 dm_lv
  rw [List.map_cons, List.filter_map]
  congr 3
  funext q
  simp only [Function.comp, dm_cat_ok]
theorem dm_set2_lv {lv : List (Nat × DV)} {i : Nat} {v : DV} {lv' : List (Nat × DV)} (h : dm_set2 lv i v = lv') : (i, dm_v v) :: (dm_lv lv).filter (fun q => !(q.1 == i) && (!(q.1 == i + 1) && !(q.1 + 1 == i && q.2.category == 2))) = dm_lv lv' := by
  subst h
  unfold dm_set2 dm_lv
  rw [List.map_cons, List.filter_map]
  congr 3
  funext q
  simp only [Function.comp, dm_cat_ok]
theorem dm_sub (ks : List Nat) (h : ks.filterMap (fun k => lv[k]?) = lv') (k : dm_W Y cs ss st pc lv' stk) : dm_W Y cs ss st pc lv stk := by
  obtain ⟨⟨p, l, e, R, s⟩, ⟨m, args, below, meth, c⟩, ⟨D, dA, A0, nL, Q⟩⟩ := Y
  exact fun H locs ls hS hl => k H locs ls hS (lv_sub hl ks (by
    subst h
    unfold lv_pick dm_lv
    rw [List.map_filterMap]
    congr 1
    funext k
    rw [List.getElem?_map]))
theorem dm_to {stk' : List DV} {pc' : Nat} (hp : pc = pc') (h : stk = stk') (k : dm_W Y cs ss st pc' lv stk') : dm_W Y cs ss st pc lv stk := by subst hp; subst h; exact k
theorem dm_widen {cs' ss' : Nat} (h1 : cs ≤ cs') (h2 : ss ≤ ss') (k : dm_W Y cs' ss' st pc lv stk) : dm_W Y cs ss st pc lv stk := by
  obtain ⟨⟨p, l, e, R, s⟩, ⟨m, args, below, meth, c⟩, ⟨D, dA, A0, nL, Q⟩⟩ := Y
  exact fun H locs ls hS hl => W.widen h1 h2 (k H locs ls hS hl)
theorem r_iconst {n : Int} {v : Int32} (C : dm_C Y cc own rm) (hd : decode cc pc = .ok (.iconst n, 1)) (hv : Int32.ofInt n = v) (k : dm_W Y cs ss st (pc + 1) lv (DI v :: stk)) : dm_W Y cs ss st pc lv (stk) := by
  obtain ⟨⟨p, l, e, R, s⟩, ⟨m, args, below, meth, c⟩, ⟨D, dA, A0, nL, Q⟩⟩ := Y
  exact fun H locs ls hS hl => lv_iconst C.1 C.2.1 hd hv (k H locs ls hS hl)
theorem r_bipush {n : Int} {v : Int32} (C : dm_C Y cc own rm) (hd : decode cc pc = .ok (.bipush n, 2)) (hv : (Int8.ofInt n).toInt32 = v) (k : dm_W Y cs ss st (pc + 2) lv (DI v :: stk)) : dm_W Y cs ss st pc lv (stk) := by
  obtain ⟨⟨p, l, e, R, s⟩, ⟨m, args, below, meth, c⟩, ⟨D, dA, A0, nL, Q⟩⟩ := Y
  exact fun H locs ls hS hl => lv_bipush C.1 C.2.1 hd hv (k H locs ls hS hl)
theorem r_sipush {n : Int} {v : Int32} (C : dm_C Y cc own rm) (hd : decode cc pc = .ok (.sipush n, 3)) (hv : (Int16.ofInt n).toInt32 = v) (k : dm_W Y cs ss st (pc + 3) lv (DI v :: stk)) : dm_W Y cs ss st pc lv (stk) := by
  obtain ⟨⟨p, l, e, R, s⟩, ⟨m, args, below, meth, c⟩, ⟨D, dA, A0, nL, Q⟩⟩ := Y
  exact fun H locs ls hS hl => lv_sipush C.1 C.2.1 hd hv (k H locs ls hS hl)
theorem r_dconst0  (C : dm_C Y cc own rm) (hd : decode cc pc = .ok (.dconst 0, 1))  (k : dm_W Y cs ss st (pc + 1) lv (DD FP.dconst0 :: stk)) : dm_W Y cs ss st pc lv (stk) := by
  obtain ⟨⟨p, l, e, R, s⟩, ⟨m, args, below, meth, c⟩, ⟨D, dA, A0, nL, Q⟩⟩ := Y
  exact fun H locs ls hS hl => lv_dconst0 C.1 C.2.1 hd  (k H locs ls hS hl)
theorem r_null  (C : dm_C Y cc own rm) (hd : decode cc pc = .ok (.aconst_null, 1))  (k : dm_W Y cs ss st (pc + 1) lv (DR none :: stk)) : dm_W Y cs ss st pc lv (stk) := by
  obtain ⟨⟨p, l, e, R, s⟩, ⟨m, args, below, meth, c⟩, ⟨D, dA, A0, nL, Q⟩⟩ := Y
  exact fun H locs ls hS hl => lv_null C.1 C.2.1 hd  (k H locs ls hS hl)
theorem r_iadd {x y : Int32} (C : dm_C Y cc own rm) (hd : decode cc pc = .ok (.iadd, 1))  (k : dm_W Y cs ss st (pc + 1) lv (DI (x + y) :: stk)) : dm_W Y cs ss st pc lv (DI y :: DI x :: stk) := by
  obtain ⟨⟨p, l, e, R, s⟩, ⟨m, args, below, meth, c⟩, ⟨D, dA, A0, nL, Q⟩⟩ := Y
  exact fun H locs ls hS hl => lv_iadd C.1 C.2.1 hd  (k H locs ls hS hl)
theorem r_isub {x y : Int32} (C : dm_C Y cc own rm) (hd : decode cc pc = .ok (.isub, 1))  (k : dm_W Y cs ss st (pc + 1) lv (DI (x - y) :: stk)) : dm_W Y cs ss st pc lv (DI y :: DI x :: stk) := by
  obtain ⟨⟨p, l, e, R, s⟩, ⟨m, args, below, meth, c⟩, ⟨D, dA, A0, nL, Q⟩⟩ := Y
  exact fun H locs ls hS hl => lv_isub C.1 C.2.1 hd  (k H locs ls hS hl)
theorem r_imul {x y : Int32} (C : dm_C Y cc own rm) (hd : decode cc pc = .ok (.imul, 1))  (k : dm_W Y cs ss st (pc + 1) lv (DI (x * y) :: stk)) : dm_W Y cs ss st pc lv (DI y :: DI x :: stk) := by
  obtain ⟨⟨p, l, e, R, s⟩, ⟨m, args, below, meth, c⟩, ⟨D, dA, A0, nL, Q⟩⟩ := Y
  exact fun H locs ls hS hl => lv_imul C.1 C.2.1 hd  (k H locs ls hS hl)
theorem r_iand {x y : Int32} (C : dm_C Y cc own rm) (hd : decode cc pc = .ok (.iand, 1))  (k : dm_W Y cs ss st (pc + 1) lv (DI (x &&& y) :: stk)) : dm_W Y cs ss st pc lv (DI y :: DI x :: stk) := by
  obtain ⟨⟨p, l, e, R, s⟩, ⟨m, args, below, meth, c⟩, ⟨D, dA, A0, nL, Q⟩⟩ := Y
  exact fun H locs ls hS hl => lv_iand C.1 C.2.1 hd  (k H locs ls hS hl)
theorem r_ladd {x y : Int64} (C : dm_C Y cc own rm) (hd : decode cc pc = .ok (.ladd, 1))  (k : dm_W Y cs ss st (pc + 1) lv (DL (x + y) :: stk)) : dm_W Y cs ss st pc lv (DL y :: DL x :: stk) := by
  obtain ⟨⟨p, l, e, R, s⟩, ⟨m, args, below, meth, c⟩, ⟨D, dA, A0, nL, Q⟩⟩ := Y
  exact fun H locs ls hS hl => lv_ladd C.1 C.2.1 hd  (k H locs ls hS hl)
theorem r_lmul {x y : Int64} (C : dm_C Y cc own rm) (hd : decode cc pc = .ok (.lmul, 1))  (k : dm_W Y cs ss st (pc + 1) lv (DL (x * y) :: stk)) : dm_W Y cs ss st pc lv (DL y :: DL x :: stk) := by
  obtain ⟨⟨p, l, e, R, s⟩, ⟨m, args, below, meth, c⟩, ⟨D, dA, A0, nL, Q⟩⟩ := Y
  exact fun H locs ls hS hl => lv_lmul C.1 C.2.1 hd  (k H locs ls hS hl)
theorem r_i2l {x : Int32} (C : dm_C Y cc own rm) (hd : decode cc pc = .ok (.i2l, 1))  (k : dm_W Y cs ss st (pc + 1) lv (DL x.toInt64 :: stk)) : dm_W Y cs ss st pc lv (DI x :: stk) := by
  obtain ⟨⟨p, l, e, R, s⟩, ⟨m, args, below, meth, c⟩, ⟨D, dA, A0, nL, Q⟩⟩ := Y
  exact fun H locs ls hS hl => lv_i2l C.1 C.2.1 hd rfl (k H locs ls hS hl)
theorem r_i2d {x : Int32} (C : dm_C Y cc own rm) (hd : decode cc pc = .ok (.i2d, 1))  (k : dm_W Y cs ss st (pc + 1) lv (DD (FP.i2d x) :: stk)) : dm_W Y cs ss st pc lv (DI x :: stk) := by
  obtain ⟨⟨p, l, e, R, s⟩, ⟨m, args, below, meth, c⟩, ⟨D, dA, A0, nL, Q⟩⟩ := Y
  exact fun H locs ls hS hl => lv_i2d C.1 C.2.1 hd  (k H locs ls hS hl)
theorem r_lcmp {x y : Int64} (C : dm_C Y cc own rm) (hd : decode cc pc = .ok (.lcmp, 1))  (k : dm_W Y cs ss st (pc + 1) lv (DI (lg_cmp x y) :: stk)) : dm_W Y cs ss st pc lv (DL y :: DL x :: stk) := by
  obtain ⟨⟨p, l, e, R, s⟩, ⟨m, args, below, meth, c⟩, ⟨D, dA, A0, nL, Q⟩⟩ := Y
  exact fun H locs ls hS hl => W.lcmp C.1 C.2.1 hd  (k H locs ls hS hl)
theorem r_dcmp {x y : UInt64} {op : CmpOp} (C : dm_C Y cc own rm) (hd : decode cc pc = .ok (.dcmp op, 1))  (k : dm_W Y cs ss st (pc + 1) lv (DI (Op.cmpValue (FP.dcmp x y) op) :: stk)) : dm_W Y cs ss st pc lv (DD y :: DD x :: stk) := by
  obtain ⟨⟨p, l, e, R, s⟩, ⟨m, args, below, meth, c⟩, ⟨D, dA, A0, nL, Q⟩⟩ := Y
  exact fun H locs ls hS hl => lv_dcmp C.1 C.2.1 hd  (k H locs ls hS hl)
theorem r_ddiv {x y : UInt64} (C : dm_C Y cc own rm) (hd : decode cc pc = .ok (.ddiv, 1)) (hn : vf_n64 (FP.ddiv x y)) (k : dm_W Y cs ss st (pc + 1) lv (DD (FP.ddiv x y) :: stk)) : dm_W Y cs ss st pc lv (DD y :: DD x :: stk) := by
  obtain ⟨⟨p, l, e, R, s⟩, ⟨m, args, below, meth, c⟩, ⟨D, dA, A0, nL, Q⟩⟩ := Y
  exact fun H locs ls hS hl => lv_ddiv C.1 C.2.1 hd hn (k H locs ls hS hl)
theorem r_idiv {x y z : Int32} (C : dm_C Y cc own rm) (hd : decode cc pc = .ok (.idiv, 1)) (hz : oD x y = some z) (k : dm_W Y cs ss st (pc + 1) lv (DI z :: stk)) : dm_W Y cs ss st pc lv (DI y :: DI x :: stk) := by
  obtain ⟨⟨p, l, e, R, s⟩, ⟨m, args, below, meth, c⟩, ⟨D, dA, A0, nL, Q⟩⟩ := Y
  exact fun H locs ls hS hl => by
    obtain ⟨h0, rfl⟩ := oD_spec hz
    exact lv_idiv C.1 C.2.1 hd h0 (k H locs ls hS hl)
theorem r_dup {v : DV} (C : dm_C Y cc own rm) (hd : decode cc pc = .ok (.dup, 1)) (hv : dm_cat v = 1) (k : dm_W Y cs ss st (pc + 1) lv (v :: v :: stk)) : dm_W Y cs ss st pc lv (v :: stk) := by
  obtain ⟨⟨p, l, e, R, s⟩, ⟨m, args, below, meth, c⟩, ⟨D, dA, A0, nL, Q⟩⟩ := Y
  exact fun H locs ls hS hl => lv_dup C.1 C.2.1 hd ((dm_cat_ok v).trans hv) (k H locs ls hS hl)
theorem r_pop {v : DV} (C : dm_C Y cc own rm) (hd : decode cc pc = .ok (.pop, 1)) (hv : dm_cat v = 1) (k : dm_W Y cs ss st (pc + 1) lv (stk)) : dm_W Y cs ss st pc lv (v :: stk) := by
  obtain ⟨⟨p, l, e, R, s⟩, ⟨m, args, below, meth, c⟩, ⟨D, dA, A0, nL, Q⟩⟩ := Y
  exact fun H locs ls hS hl => lv_pop C.1 C.2.1 hd ((dm_cat_ok v).trans hv) (k H locs ls hS hl)
theorem r_dup2 {v w : DV} (C : dm_C Y cc own rm) (hd : decode cc pc = .ok (.dup2, 1)) (hv : dm_cat v = 1) (hw : dm_cat w = 1) (k : dm_W Y cs ss st (pc + 1) lv (v :: w :: v :: w :: stk)) : dm_W Y cs ss st pc lv (v :: w :: stk) := by
  obtain ⟨⟨p, l, e, R, s⟩, ⟨m, args, below, meth, c⟩, ⟨D, dA, A0, nL, Q⟩⟩ := Y
  exact fun H locs ls hS hl => lv_dup2_11 C.1 C.2.1 hd ((dm_cat_ok v).trans hv) ((dm_cat_ok w).trans hw) (k H locs ls hS hl)
theorem r_iload_n {q : Fin 4} {i : Nat} {x : Int32} (C : dm_C Y cc own rm) (hd : decode cc pc = .ok (.iload_n q, 1)) (hi : (q : Nat) = i) (pos : Nat) (hl : lv[pos]? = some (i, DI x)) (k : dm_W Y cs ss st (pc + 1) lv (DI x :: stk)) : dm_W Y cs ss st pc lv (stk) := by
  obtain ⟨⟨p, l, e, R, s⟩, ⟨m, args, below, meth, c⟩, ⟨D, dA, A0, nL, Q⟩⟩ := Y
  exact fun H locs ls hS hl => lv_iload_n C.1 C.2.1 hd hi (dm_at ‹_› pos ‹_›) (k H locs ls hS ‹_›)
theorem r_iload {i : Nat} {x : Int32} (C : dm_C Y cc own rm) (hd : decode cc pc = .ok (.iload i, 2)) (pos : Nat) (hl : lv[pos]? = some (i, DI x)) (k : dm_W Y cs ss st (pc + 2) lv (DI x :: stk)) : dm_W Y cs ss st pc lv (stk) := by
  obtain ⟨⟨p, l, e, R, s⟩, ⟨m, args, below, meth, c⟩, ⟨D, dA, A0, nL, Q⟩⟩ := Y
  exact fun H locs ls hS hl => lv_iload C.1 C.2.1 hd (dm_at ‹_› pos ‹_›) (k H locs ls hS ‹_›)
theorem r_lload_n {q : Fin 4} {i : Nat} {x : Int64} (C : dm_C Y cc own rm) (hd : decode cc pc = .ok (.lload_n q, 1)) (hi : (q : Nat) = i) (pos : Nat) (hl : lv[pos]? = some (i, DL x)) (k : dm_W Y cs ss st (pc + 1) lv (DL x :: stk)) : dm_W Y cs ss st pc lv (stk) := by
  obtain ⟨⟨p, l, e, R, s⟩, ⟨m, args, below, meth, c⟩, ⟨D, dA, A0, nL, Q⟩⟩ := Y
  exact fun H locs ls hS hl => lv_lload_n C.1 C.2.1 hd hi (dm_at ‹_› pos ‹_›) (k H locs ls hS ‹_›)
theorem r_lload {i : Nat} {x : Int64} (C : dm_C Y cc own rm) (hd : decode cc pc = .ok (.lload i, 2)) (pos : Nat) (hl : lv[pos]? = some (i, DL x)) (k : dm_W Y cs ss st (pc + 2) lv (DL x :: stk)) : dm_W Y cs ss st pc lv (stk) := by
  obtain ⟨⟨p, l, e, R, s⟩, ⟨m, args, below, meth, c⟩, ⟨D, dA, A0, nL, Q⟩⟩ := Y
  exact fun H locs ls hS hl => lv_lload C.1 C.2.1 hd (dm_at ‹_› pos ‹_›) (k H locs ls hS ‹_›)
theorem r_dload_n {q : Fin 4} {i : Nat} {x : UInt64} (C : dm_C Y cc own rm) (hd : decode cc pc = .ok (.dload_n q, 1)) (hi : (q : Nat) = i) (pos : Nat) (hl : lv[pos]? = some (i, DD x)) (k : dm_W Y cs ss st (pc + 1) lv (DD x :: stk)) : dm_W Y cs ss st pc lv (stk) := by
  obtain ⟨⟨p, l, e, R, s⟩, ⟨m, args, below, meth, c⟩, ⟨D, dA, A0, nL, Q⟩⟩ := Y
  exact fun H locs ls hS hl => lv_dload_n C.1 C.2.1 hd hi (dm_at ‹_› pos ‹_›) (k H locs ls hS ‹_›)
theorem r_dload {i : Nat} {x : UInt64} (C : dm_C Y cc own rm) (hd : decode cc pc = .ok (.dload i, 2)) (pos : Nat) (hl : lv[pos]? = some (i, DD x)) (k : dm_W Y cs ss st (pc + 2) lv (DD x :: stk)) : dm_W Y cs ss st pc lv (stk) := by
  obtain ⟨⟨p, l, e, R, s⟩, ⟨m, args, below, meth, c⟩, ⟨D, dA, A0, nL, Q⟩⟩ := Y
  exact fun H locs ls hS hl => lv_dload C.1 C.2.1 hd (dm_at ‹_› pos ‹_›) (k H locs ls hS ‹_›)
theorem r_aload_n {q : Fin 4} {i : Nat} {x : Option Nat} (C : dm_C Y cc own rm) (hd : decode cc pc = .ok (.aload_n q, 1)) (hi : (q : Nat) = i) (pos : Nat) (hv : lv[pos]? = some (i, DR x)) (k : dm_W Y cs ss st (pc + 1) lv (DR x :: stk)) : dm_W Y cs ss st pc lv (stk) := by
  obtain ⟨⟨p, l, e, R, s⟩, ⟨m, args, below, meth, c⟩, ⟨D, dA, A0, nL, Q⟩⟩ := Y
  exact fun H locs ls hS hl => by
    cases x with
    | none => exact lv_aload_nN C.1 C.2.1 hd hi (dm_at hl pos hv) (k H locs ls hS hl)
    | some a => exact lv_aload_n C.1 C.2.1 hd hi (dm_at hl pos hv) (k H locs ls hS hl)
theorem r_aload {i : Nat} {x : Option Nat} (C : dm_C Y cc own rm) (hd : decode cc pc = .ok (.aload i, 2)) (pos : Nat) (hv : lv[pos]? = some (i, DR x)) (k : dm_W Y cs ss st (pc + 2) lv (DR x :: stk)) : dm_W Y cs ss st pc lv (stk) := by
  obtain ⟨⟨p, l, e, R, s⟩, ⟨m, args, below, meth, c⟩, ⟨D, dA, A0, nL, Q⟩⟩ := Y
  exact fun H locs ls hS hl => by
    cases x with
    | none => exact lv_aloadN C.1 C.2.1 hd (dm_at hl pos hv) (k H locs ls hS hl)
    | some a => exact lv_aload C.1 C.2.1 hd (dm_at hl pos hv) (k H locs ls hS hl)
def dm_N (Y : DY) (n : Nat) : Prop := Y.2.2.2.2.2.1 = n
theorem r_istore_n {q : Fin 4} {i : Nat} {x : Int32} {nL : Nat} (C : dm_C Y cc own rm) (hm : dm_N Y nL) (hd : decode cc pc = .ok (.istore_n q, 1)) (hi : (q : Nat) = i) (hn : i < nL) (hs : dm_set1 lv i (DI x) = lv') (k : dm_W Y cs ss st (pc + 1) lv' stk) : dm_W Y cs ss st pc lv (DI x :: stk) := by
  obtain ⟨⟨p, l, e, R, s⟩, ⟨m, args, below, meth, c⟩, ⟨D, dA, A0, nL, Q⟩⟩ := Y
  have hm : nL = _ := hm
  subst hm
  exact fun H locs ls hS hl => lv_istore_n C.1 C.2.1 hd hi hl hn (dm_set1_lv hs) (fun ls hl => k H locs ls hS hl)
theorem r_istore {i : Nat} {x : Int32} {nL : Nat} (C : dm_C Y cc own rm) (hm : dm_N Y nL) (hd : decode cc pc = .ok (.istore i, 2)) (hn : i < nL) (hs : dm_set1 lv i (DI x) = lv') (k : dm_W Y cs ss st (pc + 2) lv' stk) : dm_W Y cs ss st pc lv (DI x :: stk) := by
  obtain ⟨⟨p, l, e, R, s⟩, ⟨m, args, below, meth, c⟩, ⟨D, dA, A0, nL, Q⟩⟩ := Y
  have hm : nL = _ := hm
  subst hm
  exact fun H locs ls hS hl => lv_istore C.1 C.2.1 hd hl hn (dm_set1_lv hs) (fun ls hl => k H locs ls hS hl)
theorem r_lstore_n {q : Fin 4} {i : Nat} {x : Int64} {nL : Nat} (C : dm_C Y cc own rm) (hm : dm_N Y nL) (hd : decode cc pc = .ok (.lstore_n q, 1)) (hi : (q : Nat) = i) (hn : i + 1 < nL) (hs : dm_set2 lv i (DL x) = lv') (k : dm_W Y cs ss st (pc + 1) lv' stk) : dm_W Y cs ss st pc lv (DL x :: stk) := by
  obtain ⟨⟨p, l, e, R, s⟩, ⟨m, args, below, meth, c⟩, ⟨D, dA, A0, nL, Q⟩⟩ := Y
  have hm : nL = _ := hm
  subst hm
  exact fun H locs ls hS hl => lv_lstore_n C.1 C.2.1 hd hi hl hn (dm_set2_lv hs) (fun ls hl => k H locs ls hS hl)
theorem r_lstore {i : Nat} {x : Int64} {nL : Nat} (C : dm_C Y cc own rm) (hm : dm_N Y nL) (hd : decode cc pc = .ok (.lstore i, 2)) (hn : i + 1 < nL) (hs : dm_set2 lv i (DL x) = lv') (k : dm_W Y cs ss st (pc + 2) lv' stk) : dm_W Y cs ss st pc lv (DL x :: stk) := by
  obtain ⟨⟨p, l, e, R, s⟩, ⟨m, args, below, meth, c⟩, ⟨D, dA, A0, nL, Q⟩⟩ := Y
  have hm : nL = _ := hm
  subst hm
  exact fun H locs ls hS hl => lv_lstore C.1 C.2.1 hd hl hn (dm_set2_lv hs) (fun ls hl => k H locs ls hS hl)
theorem r_dstore_n {q : Fin 4} {i : Nat} {x : UInt64} {nL : Nat} (C : dm_C Y cc own rm) (hm : dm_N Y nL) (hd : decode cc pc = .ok (.dstore_n q, 1)) (hi : (q : Nat) = i) (hn : i + 1 < nL) (hs : dm_set2 lv i (DD x) = lv') (k : dm_W Y cs ss st (pc + 1) lv' stk) : dm_W Y cs ss st pc lv (DD x :: stk) := by
  obtain ⟨⟨p, l, e, R, s⟩, ⟨m, args, below, meth, c⟩, ⟨D, dA, A0, nL, Q⟩⟩ := Y
  have hm : nL = _ := hm
  subst hm
  exact fun H locs ls hS hl => lv_dstore_n C.1 C.2.1 hd hi hl hn (dm_set2_lv hs) (fun ls hl => k H locs ls hS hl)
theorem r_dstore {i : Nat} {x : UInt64} {nL : Nat} (C : dm_C Y cc own rm) (hm : dm_N Y nL) (hd : decode cc pc = .ok (.dstore i, 2)) (hn : i + 1 < nL) (hs : dm_set2 lv i (DD x) = lv') (k : dm_W Y cs ss st (pc + 2) lv' stk) : dm_W Y cs ss st pc lv (DD x :: stk) := by
  obtain ⟨⟨p, l, e, R, s⟩, ⟨m, args, below, meth, c⟩, ⟨D, dA, A0, nL, Q⟩⟩ := Y
  have hm : nL = _ := hm
  subst hm
  exact fun H locs ls hS hl => lv_dstore C.1 C.2.1 hd hl hn (dm_set2_lv hs) (fun ls hl => k H locs ls hS hl)
theorem r_astore_n {q : Fin 4} {i : Nat} {x : Option Nat} {nL : Nat} (C : dm_C Y cc own rm) (hm : dm_N Y nL) (hd : decode cc pc = .ok (.astore_n q, 1)) (hi : (q : Nat) = i) (hn : i < nL) (hs : dm_set1 lv i (DR x) = lv') (k : dm_W Y cs ss st (pc + 1) lv' stk) : dm_W Y cs ss st pc lv (DR x :: stk) := by
  obtain ⟨⟨p, l, e, R, s⟩, ⟨m, args, below, meth, c⟩, ⟨D, dA, A0, nL, Q⟩⟩ := Y
  have hm : nL = _ := hm
  subst hm
  exact fun H locs ls hS hl => by
    cases x with
    | none => exact lv_astore_nN C.1 C.2.1 hd hi hl hn (dm_set1_lv hs) (fun ls hl => k H locs ls hS hl)
    | some a => exact lv_astore_n C.1 C.2.1 hd hi hl hn (dm_set1_lv hs) (fun ls hl => k H locs ls hS hl)
theorem r_astore {i : Nat} {x : Option Nat} {nL : Nat} (C : dm_C Y cc own rm) (hm : dm_N Y nL) (hd : decode cc pc = .ok (.astore i, 2)) (hn : i < nL) (hs : dm_set1 lv i (DR x) = lv') (k : dm_W Y cs ss st (pc + 2) lv' stk) : dm_W Y cs ss st pc lv (DR x :: stk) := by
  obtain ⟨⟨p, l, e, R, s⟩, ⟨m, args, below, meth, c⟩, ⟨D, dA, A0, nL, Q⟩⟩ := Y
  have hm : nL = _ := hm
  subst hm
  exact fun H locs ls hS hl => by
    cases x with
    | none => exact lv_astoreN C.1 C.2.1 hd hl hn (dm_set1_lv hs) (fun ls hl => k H locs ls hS hl)
    | some a => exact lv_astore C.1 C.2.1 hd hl hn (dm_set1_lv hs) (fun ls hl => k H locs ls hS hl)
theorem r_iinc {i nL pos : Nat} {n : Int} {x v : Int32} (C : dm_C Y cc own rm) (hm : dm_N Y nL) (hd : decode cc pc = .ok (.iinc i n, 3)) (hv : lv[pos]? = some (i, DI x)) (he : x + Int32.ofInt n = v) (hn : i < nL) (hs : dm_set1 lv i (DI v) = lv') (k : dm_W Y cs ss st (pc + 3) lv' stk) : dm_W Y cs ss st pc lv stk := by
  obtain ⟨⟨p, l, e, R, s⟩, ⟨m, args, below, meth, c⟩, ⟨D, dA, A0, nL, Q⟩⟩ := Y
  have hm : nL = _ := hm
  subst hm
  exact fun H locs ls hS hl => lv_iinc C.1 C.2.1 hd hl (k := pos) (by unfold dm_lv; rw [List.getElem?_map, hv]; rfl) he hn (dm_set1_lv hs) (fun ls hl => k H locs ls hS hl)
theorem r_icmp_eq {x y : Int32} {off : Int} {tgt : Nat} (C : dm_C Y cc own rm) (hd : decode cc pc = .ok (.if_icmp .eq off, 3)) (ht : (pc : Int) + off = (tgt : Int)) (kt : x = y → dm_W Y cs ss st tgt lv stk) (kf : ¬ x = y → dm_W Y cs ss st (pc + 3) lv stk) : dm_W Y cs ss st pc lv (DI y :: DI x :: stk) := by
  obtain ⟨⟨p, l, e, R, s⟩, ⟨m, args, below, meth, c⟩, ⟨D, dA, A0, nL, Q⟩⟩ := Y
  exact fun H locs ls hS hl => lv_icmp_eq C.1 C.2.1 hd ht (fun h => kt h H locs ls hS hl) (fun h => kf h H locs ls hS hl)
theorem r_if_eq {x : Int32} {off : Int} {tgt : Nat} (C : dm_C Y cc own rm) (hd : decode cc pc = .ok (.ifCond .eq off, 3)) (ht : (pc : Int) + off = (tgt : Int)) (kt : x = 0 → dm_W Y cs ss st tgt lv stk) (kf : ¬ x = 0 → dm_W Y cs ss st (pc + 3) lv stk) : dm_W Y cs ss st pc lv (DI x :: stk) := by
  obtain ⟨⟨p, l, e, R, s⟩, ⟨m, args, below, meth, c⟩, ⟨D, dA, A0, nL, Q⟩⟩ := Y
  exact fun H locs ls hS hl => lv_if_eq C.1 C.2.1 hd ht (fun h => kt h H locs ls hS hl) (fun h => kf h H locs ls hS hl)
theorem r_icmp_ne {x y : Int32} {off : Int} {tgt : Nat} (C : dm_C Y cc own rm) (hd : decode cc pc = .ok (.if_icmp .ne off, 3)) (ht : (pc : Int) + off = (tgt : Int)) (kt : ¬ x = y → dm_W Y cs ss st tgt lv stk) (kf : x = y → dm_W Y cs ss st (pc + 3) lv stk) : dm_W Y cs ss st pc lv (DI y :: DI x :: stk) := by
  obtain ⟨⟨p, l, e, R, s⟩, ⟨m, args, below, meth, c⟩, ⟨D, dA, A0, nL, Q⟩⟩ := Y
  exact fun H locs ls hS hl => lv_icmp_ne C.1 C.2.1 hd ht (fun h => kt h H locs ls hS hl) (fun h => kf h H locs ls hS hl)
theorem r_if_ne {x : Int32} {off : Int} {tgt : Nat} (C : dm_C Y cc own rm) (hd : decode cc pc = .ok (.ifCond .ne off, 3)) (ht : (pc : Int) + off = (tgt : Int)) (kt : ¬ x = 0 → dm_W Y cs ss st tgt lv stk) (kf : x = 0 → dm_W Y cs ss st (pc + 3) lv stk) : dm_W Y cs ss st pc lv (DI x :: stk) := by
  obtain ⟨⟨p, l, e, R, s⟩, ⟨m, args, below, meth, c⟩, ⟨D, dA, A0, nL, Q⟩⟩ := Y
  exact fun H locs ls hS hl => lv_if_ne C.1 C.2.1 hd ht (fun h => kt h H locs ls hS hl) (fun h => kf h H locs ls hS hl)
theorem r_icmp_lt {x y : Int32} {off : Int} {tgt : Nat} (C : dm_C Y cc own rm) (hd : decode cc pc = .ok (.if_icmp .lt off, 3)) (ht : (pc : Int) + off = (tgt : Int)) (kt : x < y → dm_W Y cs ss st tgt lv stk) (kf : ¬ x < y → dm_W Y cs ss st (pc + 3) lv stk) : dm_W Y cs ss st pc lv (DI y :: DI x :: stk) := by
  obtain ⟨⟨p, l, e, R, s⟩, ⟨m, args, below, meth, c⟩, ⟨D, dA, A0, nL, Q⟩⟩ := Y
  exact fun H locs ls hS hl => lv_icmp_lt C.1 C.2.1 hd ht (fun h => kt h H locs ls hS hl) (fun h => kf h H locs ls hS hl)
theorem r_if_lt {x : Int32} {off : Int} {tgt : Nat} (C : dm_C Y cc own rm) (hd : decode cc pc = .ok (.ifCond .lt off, 3)) (ht : (pc : Int) + off = (tgt : Int)) (kt : x < 0 → dm_W Y cs ss st tgt lv stk) (kf : ¬ x < 0 → dm_W Y cs ss st (pc + 3) lv stk) : dm_W Y cs ss st pc lv (DI x :: stk) := by
  obtain ⟨⟨p, l, e, R, s⟩, ⟨m, args, below, meth, c⟩, ⟨D, dA, A0, nL, Q⟩⟩ := Y
  exact fun H locs ls hS hl => lv_if_lt C.1 C.2.1 hd ht (fun h => kt h H locs ls hS hl) (fun h => kf h H locs ls hS hl)
theorem r_icmp_ge {x y : Int32} {off : Int} {tgt : Nat} (C : dm_C Y cc own rm) (hd : decode cc pc = .ok (.if_icmp .ge off, 3)) (ht : (pc : Int) + off = (tgt : Int)) (kt : y ≤ x → dm_W Y cs ss st tgt lv stk) (kf : ¬ y ≤ x → dm_W Y cs ss st (pc + 3) lv stk) : dm_W Y cs ss st pc lv (DI y :: DI x :: stk) := by
  obtain ⟨⟨p, l, e, R, s⟩, ⟨m, args, below, meth, c⟩, ⟨D, dA, A0, nL, Q⟩⟩ := Y
  exact fun H locs ls hS hl => lv_icmp_ge C.1 C.2.1 hd ht (fun h => kt h H locs ls hS hl) (fun h => kf h H locs ls hS hl)
theorem r_if_ge {x : Int32} {off : Int} {tgt : Nat} (C : dm_C Y cc own rm) (hd : decode cc pc = .ok (.ifCond .ge off, 3)) (ht : (pc : Int) + off = (tgt : Int)) (kt : 0 ≤ x → dm_W Y cs ss st tgt lv stk) (kf : ¬ 0 ≤ x → dm_W Y cs ss st (pc + 3) lv stk) : dm_W Y cs ss st pc lv (DI x :: stk) := by
  obtain ⟨⟨p, l, e, R, s⟩, ⟨m, args, below, meth, c⟩, ⟨D, dA, A0, nL, Q⟩⟩ := Y
  exact fun H locs ls hS hl => lv_if_ge C.1 C.2.1 hd ht (fun h => kt h H locs ls hS hl) (fun h => kf h H locs ls hS hl)
theorem r_icmp_gt {x y : Int32} {off : Int} {tgt : Nat} (C : dm_C Y cc own rm) (hd : decode cc pc = .ok (.if_icmp .gt off, 3)) (ht : (pc : Int) + off = (tgt : Int)) (kt : y < x → dm_W Y cs ss st tgt lv stk) (kf : ¬ y < x → dm_W Y cs ss st (pc + 3) lv stk) : dm_W Y cs ss st pc lv (DI y :: DI x :: stk) := by
  obtain ⟨⟨p, l, e, R, s⟩, ⟨m, args, below, meth, c⟩, ⟨D, dA, A0, nL, Q⟩⟩ := Y
  exact fun H locs ls hS hl => lv_icmp_gt C.1 C.2.1 hd ht (fun h => kt h H locs ls hS hl) (fun h => kf h H locs ls hS hl)
theorem r_if_gt {x : Int32} {off : Int} {tgt : Nat} (C : dm_C Y cc own rm) (hd : decode cc pc = .ok (.ifCond .gt off, 3)) (ht : (pc : Int) + off = (tgt : Int)) (kt : 0 < x → dm_W Y cs ss st tgt lv stk) (kf : ¬ 0 < x → dm_W Y cs ss st (pc + 3) lv stk) : dm_W Y cs ss st pc lv (DI x :: stk) := by
  obtain ⟨⟨p, l, e, R, s⟩, ⟨m, args, below, meth, c⟩, ⟨D, dA, A0, nL, Q⟩⟩ := Y
  exact fun H locs ls hS hl => lv_if_gt C.1 C.2.1 hd ht (fun h => kt h H locs ls hS hl) (fun h => kf h H locs ls hS hl)
theorem r_icmp_le {x y : Int32} {off : Int} {tgt : Nat} (C : dm_C Y cc own rm) (hd : decode cc pc = .ok (.if_icmp .le off, 3)) (ht : (pc : Int) + off = (tgt : Int)) (kt : x ≤ y → dm_W Y cs ss st tgt lv stk) (kf : ¬ x ≤ y → dm_W Y cs ss st (pc + 3) lv stk) : dm_W Y cs ss st pc lv (DI y :: DI x :: stk) := by
  obtain ⟨⟨p, l, e, R, s⟩, ⟨m, args, below, meth, c⟩, ⟨D, dA, A0, nL, Q⟩⟩ := Y
  exact fun H locs ls hS hl => lv_icmp_le C.1 C.2.1 hd ht (fun h => kt h H locs ls hS hl) (fun h => kf h H locs ls hS hl)
theorem r_if_le {x : Int32} {off : Int} {tgt : Nat} (C : dm_C Y cc own rm) (hd : decode cc pc = .ok (.ifCond .le off, 3)) (ht : (pc : Int) + off = (tgt : Int)) (kt : x ≤ 0 → dm_W Y cs ss st tgt lv stk) (kf : ¬ x ≤ 0 → dm_W Y cs ss st (pc + 3) lv stk) : dm_W Y cs ss st pc lv (DI x :: stk) := by
  obtain ⟨⟨p, l, e, R, s⟩, ⟨m, args, below, meth, c⟩, ⟨D, dA, A0, nL, Q⟩⟩ := Y
  exact fun H locs ls hS hl => lv_if_le C.1 C.2.1 hd ht (fun h => kt h H locs ls hS hl) (fun h => kf h H locs ls hS hl)
theorem r_ifnull {r : Option Nat} {off : Int} {tgt : Nat} (C : dm_C Y cc own rm) (hd : decode cc pc = .ok (.ifnull off, 3)) (ht : (pc : Int) + off = (tgt : Int)) (kt : r = none → dm_W Y cs ss st tgt lv stk) (kf : ∀ a, r = some a → dm_W Y cs ss st (pc + 3) lv stk) : dm_W Y cs ss st pc lv (DR r :: stk) := by
  obtain ⟨⟨p, l, e, R, s⟩, ⟨m, args, below, meth, c⟩, ⟨D, dA, A0, nL, Q⟩⟩ := Y
  cases r with
  | none => exact fun H locs ls hS hl => lv_ifnullN C.1 C.2.1 hd ht (kt rfl H locs ls hS hl)
  | some a => exact fun H locs ls hS hl => lv_ifnull C.1 C.2.1 hd (kf a rfl H locs ls hS hl)
theorem r_ifnonnull {r : Option Nat} {off : Int} {tgt : Nat} (C : dm_C Y cc own rm) (hd : decode cc pc = .ok (.ifnonnull off, 3)) (ht : (pc : Int) + off = (tgt : Int)) (kt : ∀ a, r = some a → dm_W Y cs ss st tgt lv stk) (kf : r = none → dm_W Y cs ss st (pc + 3) lv stk) : dm_W Y cs ss st pc lv (DR r :: stk) := by
  obtain ⟨⟨p, l, e, R, s⟩, ⟨m, args, below, meth, c⟩, ⟨D, dA, A0, nL, Q⟩⟩ := Y
  cases r with
  | none => exact fun H locs ls hS hl => lv_ifnonnullN C.1 C.2.1 hd (kf rfl H locs ls hS hl)
  | some a => exact fun H locs ls hS hl => lv_ifnonnull C.1 C.2.1 hd ht (kt a rfl H locs ls hS hl)
theorem r_goto {off : Int} {tgt : Nat} (C : dm_C Y cc own rm) (hd : decode cc pc = .ok (.goto off, 3)) (ht : (pc : Int) + off = (tgt : Int)) (k : dm_W Y cs ss st tgt lv stk) : dm_W Y cs ss st pc lv stk := by
  obtain ⟨⟨p, l, e, R, s⟩, ⟨m, args, below, meth, c⟩, ⟨D, dA, A0, nL, Q⟩⟩ := Y
  exact fun H locs ls hS hl => lv_goto C.1 C.2.1 hd ht (k H locs ls hS hl)
theorem r_tswIn {dflt lo hi : Int} {offs : Array Int} {len : Nat} {x : Int32} {off : Int} {tgt : Nat} (C : dm_C Y cc own rm) (hd : decode cc pc = .ok (.tableswitch dflt lo hi offs, len)) (h1 : ¬ x.toInt < lo) (h2 : ¬ hi < x.toInt) (ho : offs[(x.toInt - lo).toNat]? = some off) (ht : (pc : Int) + off = (tgt : Int)) (k : dm_W Y cs ss st tgt lv stk) : dm_W Y cs ss st pc lv (DI x :: stk) := by
  obtain ⟨⟨p, l, e, R, s⟩, ⟨m, args, below, meth, c⟩, ⟨D, dA, A0, nL, Q⟩⟩ := Y
  exact fun H locs ls hS hl => lv_tableIn C.1 C.2.1 hd h1 h2 ho ht (k H locs ls hS hl)
theorem r_tswOut {dflt lo hi : Int} {offs : Array Int} {len : Nat} {x : Int32} {tgt : Nat} (C : dm_C Y cc own rm) (hd : decode cc pc = .ok (.tableswitch dflt lo hi offs, len)) (h : x.toInt < lo ∨ hi < x.toInt) (ht : (pc : Int) + dflt = (tgt : Int)) (k : dm_W Y cs ss st tgt lv stk) : dm_W Y cs ss st pc lv (DI x :: stk) := by
  obtain ⟨⟨p, l, e, R, s⟩, ⟨m, args, below, meth, c⟩, ⟨D, dA, A0, nL, Q⟩⟩ := Y
  exact fun H locs ls hS hl => lv_tableOut C.1 C.2.1 hd h ht (k H locs ls hS hl)
theorem dm_out {x : Int32} {n : Nat} (hn : n < 1000) (h : ∀ k, k < n → ¬ x = nI k) : x.toInt < 0 ∨ ((n : Int) - 1) < x.toInt := by
  rcases Int.lt_or_le x.toInt 0 with q | q
  · exact Or.inl q
  · refine Or.inr ?_
    rcases Int.lt_or_le ((n : Int) - 1) x.toInt with r | r
    · exact r
    · refine absurd ?_ (h x.toInt.toNat (by omega))
      rw [← Int32.toInt_inj, nI_toInt (by omega)]
      omega
theorem r_ldc2 {index : Nat} {v : Int64} (C : dm_C Y cc own rm) (hw : Cond.constantLong own index v ∈ WALL) (hd : decode cc pc = .ok (.ldc2_w index, 3)) (k : dm_W Y cs ss st (pc + 3) lv (DL v :: stk)) : dm_W Y cs ss st pc lv stk := by
  obtain ⟨⟨p, l, e, R, s⟩, ⟨m, args, below, meth, c⟩, ⟨D, dA, A0, nL, Q⟩⟩ := Y
  obtain ⟨hx, hb, hml, hown, hts, -⟩ := C
  exact fun H locs ls hS hl => lv_ldc2 hx hb hown (hts _ hw) hd (k H locs ls hS hl)
theorem r_ldc {index : Nat} {v : Int32} (C : dm_C Y cc own rm) (hw : Cond.constant own index v ∈ WALL) (hd : decode cc pc = .ok (.ldc index, 2)) (k : dm_W Y cs ss st (pc + 2) lv (DI v :: stk)) : dm_W Y cs ss st pc lv stk := by
  obtain ⟨⟨p, l, e, R, s⟩, ⟨m, args, below, meth, c⟩, ⟨D, dA, A0, nL, Q⟩⟩ := Y
  obtain ⟨hx, hb, hml, hown, hts, -⟩ := C
  exact fun H locs ls hS hl => lv_ldc hx hb hown (hts _ hw) hd (k H locs ls hS hl)
theorem r_ishr {x y : Int32} (C : dm_C Y cc own rm) (hd : decode cc pc = .ok (.ishr, 1)) (k : dm_W Y cs ss st (pc + 1) lv (DI (x >>> (y &&& 31)) :: stk)) : dm_W Y cs ss st pc lv (DI y :: DI x :: stk) := by
  obtain ⟨⟨p, l, e, R, s⟩, ⟨m, args, below, meth, c⟩, ⟨D, dA, A0, nL, Q⟩⟩ := Y
  exact fun H locs ls hS hl => lv_ishr C.1 C.2.1 hd (k H locs ls hS hl)
theorem r_irem {x y z : Int32} (C : dm_C Y cc own rm) (hd : decode cc pc = .ok (.irem, 1)) (hz : oM x y = some z) (k : dm_W Y cs ss st (pc + 1) lv (DI z :: stk)) : dm_W Y cs ss st pc lv (DI y :: DI x :: stk) := by
  obtain ⟨⟨p, l, e, R, s⟩, ⟨m, args, below, meth, c⟩, ⟨D, dA, A0, nL, Q⟩⟩ := Y
  exact fun H locs ls hS hl => by
    obtain ⟨h0, rfl⟩ := oM_spec hz
    exact lv_irem C.1 C.2.1 hd h0 (k H locs ls hS hl)
end DRULES
