/-! THE PURE MACHINE IS SOUND, part 1: instructions that touch locals and the stack alone -/
section ZS1
variable {p : Program} {l : Launch} {e : Env} {R : Room} {s : State} {mth : MethodId} {args : Array Value} {below : List Frame} {meth : Method} {c : Code} {cells slots : Nat} {Q : State → Prop} {G : zG} {H0 : Heap} {cc : ByteArray}
/-- from this point of the pure machine the machine itself comes to Q, whatever heap holds the picture -/
def zGo (p : Program) (l : Launch) (e : Env) (R : Room) (s : State) (mth : MethodId) (args : Array Value) (below : List Frame) (meth : Method) (c : Code) (Q : State → Prop) (G : zG) (H0 : Heap) (nL cells slots pc : Nat) (lv : zLV) (st : List Value) (m : zMem) : Prop :=
  ∀ (ls : Array Slot) (H : Heap) (locs : List Loc), zSt G H0 m H locs → zLs G ls nL lv → W p l e R s mth args below meth c H locs cells slots Q (F0 mth pc ls (st.map (cvV G)))
variable {nL pc : Nat} {lv : zLV} {st : List Value} {m : zMem}
theorem zs_iconst (hx : p.tables.exec = Jvm.exec) (hb : c.code = cc) {n : Int} (hd : decode cc pc = .ok (.iconst n, 1)) (kk : zGo p l e R s mth args below meth c Q G H0 nL cells slots (pc + 1) lv (.int (Int32.ofInt n) :: st) m) : zGo p l e R s mth args below meth c Q G H0 nL cells slots pc lv st m := by
  intro ls H locs hS hl
  exact lv_iconst hx hb hd rfl (kk ls H locs hS hl)
theorem zs_bipush (hx : p.tables.exec = Jvm.exec) (hb : c.code = cc) {n : Int} (hd : decode cc pc = .ok (.bipush n, 2)) (kk : zGo p l e R s mth args below meth c Q G H0 nL cells slots (pc + 2) lv (.int ((Int8.ofInt n).toInt32) :: st) m) : zGo p l e R s mth args below meth c Q G H0 nL cells slots pc lv st m := by
  intro ls H locs hS hl
  exact lv_bipush hx hb hd rfl (kk ls H locs hS hl)
theorem zs_sipush (hx : p.tables.exec = Jvm.exec) (hb : c.code = cc) {n : Int} (hd : decode cc pc = .ok (.sipush n, 3)) (kk : zGo p l e R s mth args below meth c Q G H0 nL cells slots (pc + 3) lv (.int ((Int16.ofInt n).toInt32) :: st) m) : zGo p l e R s mth args below meth c Q G H0 nL cells slots pc lv st m := by
  intro ls H locs hS hl
  exact lv_sipush hx hb hd rfl (kk ls H locs hS hl)
theorem zs_lconst (hx : p.tables.exec = Jvm.exec) (hb : c.code = cc) {n : Fin 2} (hd : decode cc pc = .ok (.lconst n, 1)) (kk : zGo p l e R s mth args below meth c Q G H0 nL cells slots (pc + 1) lv (.long (Int64.ofNat n) :: st) m) : zGo p l e R s mth args below meth c Q G H0 nL cells slots pc lv st m := by
  intro ls H locs hS hl
  exact lv_lconst hx hb hd rfl (kk ls H locs hS hl)
theorem zs_iload (hx : p.tables.exec = Jvm.exec) (hb : c.code = cc) {n : Nat} {x : Int32} (hv : lv[n]? = some (.int x)) (hd : decode cc pc = .ok (.iload n, 2)) (kk : zGo p l e R s mth args below meth c Q G H0 nL cells slots (pc + 2) lv (.int x :: st) m) : zGo p l e R s mth args below meth c Q G H0 nL cells slots pc lv st m := by
  intro ls H locs hS hl
  exact lv_iload hx hb hd (hl.2.2 _ _ hv (fun q => by cases q)) (kk ls H locs hS hl)
theorem zs_iload_n (hx : p.tables.exec = Jvm.exec) (hb : c.code = cc) {n : Fin 4} {x : Int32} (hv : lv[(n : Nat)]? = some (.int x)) (hd : decode cc pc = .ok (.iload_n n, 1)) (kk : zGo p l e R s mth args below meth c Q G H0 nL cells slots (pc + 1) lv (.int x :: st) m) : zGo p l e R s mth args below meth c Q G H0 nL cells slots pc lv st m := by
  intro ls H locs hS hl
  exact lv_iload_n hx hb hd rfl (hl.2.2 _ _ hv (fun q => by cases q)) (kk ls H locs hS hl)
theorem zs_lload (hx : p.tables.exec = Jvm.exec) (hb : c.code = cc) {n : Nat} {x : Int64} (hv : lv[n]? = some (.long x)) (hd : decode cc pc = .ok (.lload n, 2)) (kk : zGo p l e R s mth args below meth c Q G H0 nL cells slots (pc + 2) lv (.long x :: st) m) : zGo p l e R s mth args below meth c Q G H0 nL cells slots pc lv st m := by
  intro ls H locs hS hl
  exact lv_lload hx hb hd (hl.2.2 _ _ hv (fun q => by cases q)) (kk ls H locs hS hl)
theorem zs_lload_n (hx : p.tables.exec = Jvm.exec) (hb : c.code = cc) {n : Fin 4} {x : Int64} (hv : lv[(n : Nat)]? = some (.long x)) (hd : decode cc pc = .ok (.lload_n n, 1)) (kk : zGo p l e R s mth args below meth c Q G H0 nL cells slots (pc + 1) lv (.long x :: st) m) : zGo p l e R s mth args below meth c Q G H0 nL cells slots pc lv st m := by
  intro ls H locs hS hl
  exact lv_lload_n hx hb hd rfl (hl.2.2 _ _ hv (fun q => by cases q)) (kk ls H locs hS hl)
theorem zs_aload (hx : p.tables.exec = Jvm.exec) (hb : c.code = cc) {n : Nat} {x : Nat} (hv : lv[n]? = some (.ref x)) (hd : decode cc pc = .ok (.aload n, 2)) (kk : zGo p l e R s mth args below meth c Q G H0 nL cells slots (pc + 2) lv (.ref x :: st) m) : zGo p l e R s mth args below meth c Q G H0 nL cells slots pc lv st m := by
  intro ls H locs hS hl
  exact lv_aload hx hb hd (hl.2.2 _ _ hv (fun q => by cases q)) (kk ls H locs hS hl)
theorem zs_aload_n (hx : p.tables.exec = Jvm.exec) (hb : c.code = cc) {n : Fin 4} {x : Nat} (hv : lv[(n : Nat)]? = some (.ref x)) (hd : decode cc pc = .ok (.aload_n n, 1)) (kk : zGo p l e R s mth args below meth c Q G H0 nL cells slots (pc + 1) lv (.ref x :: st) m) : zGo p l e R s mth args below meth c Q G H0 nL cells slots pc lv st m := by
  intro ls H locs hS hl
  exact lv_aload_n hx hb hd rfl (hl.2.2 _ _ hv (fun q => by cases q)) (kk ls H locs hS hl)
theorem zs_istore (hx : p.tables.exec = Jvm.exec) (hb : c.code = cc) {n : Nat} {x : Int32} (hn : n < nL) (hO : lvO lv n = true) (hd : decode cc pc = .ok (.istore n, 2)) (kk : zGo p l e R s mth args below meth c Q G H0 nL cells slots (pc + 2) (lv.set n (.int x)) st m) : zGo p l e R s mth args below meth c Q G H0 nL cells slots pc lv (.int x :: st) m := by
  intro ls H locs hS hl
  exact lv_istore hx hb hd hl.has hn rfl (fun ls2 hl2 => kk ls2 H locs hS (hl.set1 (x := .int x) hO hl2))
theorem zs_istore_n (hx : p.tables.exec = Jvm.exec) (hb : c.code = cc) {n : Fin 4} {x : Int32} (hn : (n : Nat) < nL) (hO : lvO lv n = true) (hd : decode cc pc = .ok (.istore_n n, 1)) (kk : zGo p l e R s mth args below meth c Q G H0 nL cells slots (pc + 1) (lv.set (n : Nat) (.int x)) st m) : zGo p l e R s mth args below meth c Q G H0 nL cells slots pc lv (.int x :: st) m := by
  intro ls H locs hS hl
  exact lv_istore_n hx hb hd rfl hl.has hn rfl (fun ls2 hl2 => kk ls2 H locs hS (hl.set1 (x := .int x) hO hl2))
theorem zs_lstore (hx : p.tables.exec = Jvm.exec) (hb : c.code = cc) {n : Nat} {x : Int64} (hn : n + 1 < nL) (hO : lvO lv n = true) (hd : decode cc pc = .ok (.lstore n, 2)) (kk : zGo p l e R s mth args below meth c Q G H0 nL cells slots (pc + 2) ((lv.set n (.long x)).set (n + 1) jk) st m) : zGo p l e R s mth args below meth c Q G H0 nL cells slots pc lv (.long x :: st) m := by
  intro ls H locs hS hl
  exact lv_lstore hx hb hd hl.has hn rfl (fun ls2 hl2 => kk ls2 H locs hS (hl.set2 (x := .long x) hO hl2))
theorem zs_lstore_n (hx : p.tables.exec = Jvm.exec) (hb : c.code = cc) {n : Fin 4} {x : Int64} (hn : (n : Nat) + 1 < nL) (hO : lvO lv n = true) (hd : decode cc pc = .ok (.lstore_n n, 1)) (kk : zGo p l e R s mth args below meth c Q G H0 nL cells slots (pc + 1) ((lv.set (n : Nat) (.long x)).set ((n : Nat) + 1) jk) st m) : zGo p l e R s mth args below meth c Q G H0 nL cells slots pc lv (.long x :: st) m := by
  intro ls H locs hS hl
  exact lv_lstore_n hx hb hd rfl hl.has hn rfl (fun ls2 hl2 => kk ls2 H locs hS (hl.set2 (x := .long x) hO hl2))
theorem zs_astore (hx : p.tables.exec = Jvm.exec) (hb : c.code = cc) {n : Nat} {x : Nat} (hn : n < nL) (hO : lvO lv n = true) (hd : decode cc pc = .ok (.astore n, 2)) (kk : zGo p l e R s mth args below meth c Q G H0 nL cells slots (pc + 2) (lv.set n (.ref x)) st m) : zGo p l e R s mth args below meth c Q G H0 nL cells slots pc lv (.ref x :: st) m := by
  intro ls H locs hS hl
  exact lv_astore hx hb hd hl.has hn rfl (fun ls2 hl2 => kk ls2 H locs hS (hl.set1 (x := .ref x) hO hl2))
theorem zs_astore_n (hx : p.tables.exec = Jvm.exec) (hb : c.code = cc) {n : Fin 4} {x : Nat} (hn : (n : Nat) < nL) (hO : lvO lv n = true) (hd : decode cc pc = .ok (.astore_n n, 1)) (kk : zGo p l e R s mth args below meth c Q G H0 nL cells slots (pc + 1) (lv.set (n : Nat) (.ref x)) st m) : zGo p l e R s mth args below meth c Q G H0 nL cells slots pc lv (.ref x :: st) m := by
  intro ls H locs hS hl
  exact lv_astore_n hx hb hd rfl hl.has hn rfl (fun ls2 hl2 => kk ls2 H locs hS (hl.set1 (x := .ref x) hO hl2))
theorem zs_iinc (hx : p.tables.exec = Jvm.exec) (hb : c.code = cc) {n : Nat} {k : Int} {x : Int32} (hv : lv[n]? = some (.int x)) (hn : n < nL) (hO : lvO lv n = true) (hd : decode cc pc = .ok (.iinc n k, 3)) (kk : zGo p l e R s mth args below meth c Q G H0 nL cells slots (pc + 3) (lv.set n (.int (x + Int32.ofInt k))) st m) : zGo p l e R s mth args below meth c Q G H0 nL cells slots pc lv st m := by
  intro ls H locs hS hl
  obtain ⟨i, hi⟩ := List.getElem?_of_mem (cvL_mem (G := G) hv (fun q => by cases q))
  exact lv_iinc hx hb hd hl.has hi rfl hn rfl (fun ls2 hl2 => kk ls2 H locs hS (hl.set1 (x := .int (x + Int32.ofInt k)) hO hl2))
theorem zs_iadd (hx : p.tables.exec = Jvm.exec) (hb : c.code = cc) {x y : Int32} (hd : decode cc pc = .ok (.iadd, 1)) (kk : zGo p l e R s mth args below meth c Q G H0 nL cells slots (pc + 1) lv (.int (x + y) :: st) m) : zGo p l e R s mth args below meth c Q G H0 nL cells slots pc lv (.int y :: .int x :: st) m := by
  intro ls H locs hS hl
  exact lv_iadd hx hb hd (kk ls H locs hS hl)
theorem zs_isub (hx : p.tables.exec = Jvm.exec) (hb : c.code = cc) {x y : Int32} (hd : decode cc pc = .ok (.isub, 1)) (kk : zGo p l e R s mth args below meth c Q G H0 nL cells slots (pc + 1) lv (.int (x - y) :: st) m) : zGo p l e R s mth args below meth c Q G H0 nL cells slots pc lv (.int y :: .int x :: st) m := by
  intro ls H locs hS hl
  exact lv_isub hx hb hd (kk ls H locs hS hl)
theorem zs_imul (hx : p.tables.exec = Jvm.exec) (hb : c.code = cc) {x y : Int32} (hd : decode cc pc = .ok (.imul, 1)) (kk : zGo p l e R s mth args below meth c Q G H0 nL cells slots (pc + 1) lv (.int (x * y) :: st) m) : zGo p l e R s mth args below meth c Q G H0 nL cells slots pc lv (.int y :: .int x :: st) m := by
  intro ls H locs hS hl
  exact lv_imul hx hb hd (kk ls H locs hS hl)
theorem zs_iand (hx : p.tables.exec = Jvm.exec) (hb : c.code = cc) {x y : Int32} (hd : decode cc pc = .ok (.iand, 1)) (kk : zGo p l e R s mth args below meth c Q G H0 nL cells slots (pc + 1) lv (.int (x &&& y) :: st) m) : zGo p l e R s mth args below meth c Q G H0 nL cells slots pc lv (.int y :: .int x :: st) m := by
  intro ls H locs hS hl
  exact lv_iand hx hb hd (kk ls H locs hS hl)
theorem zs_ior (hx : p.tables.exec = Jvm.exec) (hb : c.code = cc) {x y : Int32} (hd : decode cc pc = .ok (.ior, 1)) (kk : zGo p l e R s mth args below meth c Q G H0 nL cells slots (pc + 1) lv (.int (x ||| y) :: st) m) : zGo p l e R s mth args below meth c Q G H0 nL cells slots pc lv (.int y :: .int x :: st) m := by
  intro ls H locs hS hl
  exact lv_ior hx hb hd (kk ls H locs hS hl)
theorem zs_ixor (hx : p.tables.exec = Jvm.exec) (hb : c.code = cc) {x y : Int32} (hd : decode cc pc = .ok (.ixor, 1)) (kk : zGo p l e R s mth args below meth c Q G H0 nL cells slots (pc + 1) lv (.int (x ^^^ y) :: st) m) : zGo p l e R s mth args below meth c Q G H0 nL cells slots pc lv (.int y :: .int x :: st) m := by
  intro ls H locs hS hl
  exact lv_ixor hx hb hd (kk ls H locs hS hl)
theorem zs_ishl (hx : p.tables.exec = Jvm.exec) (hb : c.code = cc) {x y : Int32} (hd : decode cc pc = .ok (.ishl, 1)) (kk : zGo p l e R s mth args below meth c Q G H0 nL cells slots (pc + 1) lv (.int (x <<< (y &&& 31)) :: st) m) : zGo p l e R s mth args below meth c Q G H0 nL cells slots pc lv (.int y :: .int x :: st) m := by
  intro ls H locs hS hl
  exact lv_ishl hx hb hd (kk ls H locs hS hl)
theorem zs_ishr (hx : p.tables.exec = Jvm.exec) (hb : c.code = cc) {x y : Int32} (hd : decode cc pc = .ok (.ishr, 1)) (kk : zGo p l e R s mth args below meth c Q G H0 nL cells slots (pc + 1) lv (.int (x >>> (y &&& 31)) :: st) m) : zGo p l e R s mth args below meth c Q G H0 nL cells slots pc lv (.int y :: .int x :: st) m := by
  intro ls H locs hS hl
  exact lv_ishr hx hb hd (kk ls H locs hS hl)
theorem zs_iushr (hx : p.tables.exec = Jvm.exec) (hb : c.code = cc) {x y : Int32} (hd : decode cc pc = .ok (.iushr, 1)) (kk : zGo p l e R s mth args below meth c Q G H0 nL cells slots (pc + 1) lv (.int ((x.toUInt32 >>> (y.toUInt32 &&& Int32.toUInt32 31)).toInt32) :: st) m) : zGo p l e R s mth args below meth c Q G H0 nL cells slots pc lv (.int y :: .int x :: st) m := by
  intro ls H locs hS hl
  exact lv_iushr hx hb hd rfl (kk ls H locs hS hl)
theorem zs_idiv (hx : p.tables.exec = Jvm.exec) (hb : c.code = cc) {x y : Int32} (hy : ¬ y = 0) (hd : decode cc pc = .ok (.idiv, 1)) (kk : zGo p l e R s mth args below meth c Q G H0 nL cells slots (pc + 1) lv (.int (x / y) :: st) m) : zGo p l e R s mth args below meth c Q G H0 nL cells slots pc lv (.int y :: .int x :: st) m := by
  intro ls H locs hS hl
  exact lv_idiv hx hb hd hy (kk ls H locs hS hl)
theorem zs_irem (hx : p.tables.exec = Jvm.exec) (hb : c.code = cc) {x y : Int32} (hy : ¬ y = 0) (hd : decode cc pc = .ok (.irem, 1)) (kk : zGo p l e R s mth args below meth c Q G H0 nL cells slots (pc + 1) lv (.int (x - x / y * y) :: st) m) : zGo p l e R s mth args below meth c Q G H0 nL cells slots pc lv (.int y :: .int x :: st) m := by
  intro ls H locs hS hl
  exact lv_irem hx hb hd hy (kk ls H locs hS hl)
theorem zs_ladd (hx : p.tables.exec = Jvm.exec) (hb : c.code = cc) {x y : Int64} (hd : decode cc pc = .ok (.ladd, 1)) (kk : zGo p l e R s mth args below meth c Q G H0 nL cells slots (pc + 1) lv (.long (x + y) :: st) m) : zGo p l e R s mth args below meth c Q G H0 nL cells slots pc lv (.long y :: .long x :: st) m := by
  intro ls H locs hS hl
  exact lv_ladd hx hb hd (kk ls H locs hS hl)
theorem zs_lsub (hx : p.tables.exec = Jvm.exec) (hb : c.code = cc) {x y : Int64} (hd : decode cc pc = .ok (.lsub, 1)) (kk : zGo p l e R s mth args below meth c Q G H0 nL cells slots (pc + 1) lv (.long (x - y) :: st) m) : zGo p l e R s mth args below meth c Q G H0 nL cells slots pc lv (.long y :: .long x :: st) m := by
  intro ls H locs hS hl
  exact lv_lsub hx hb hd (kk ls H locs hS hl)
theorem zs_lmul (hx : p.tables.exec = Jvm.exec) (hb : c.code = cc) {x y : Int64} (hd : decode cc pc = .ok (.lmul, 1)) (kk : zGo p l e R s mth args below meth c Q G H0 nL cells slots (pc + 1) lv (.long (x * y) :: st) m) : zGo p l e R s mth args below meth c Q G H0 nL cells slots pc lv (.long y :: .long x :: st) m := by
  intro ls H locs hS hl
  exact lv_lmul hx hb hd (kk ls H locs hS hl)
theorem zs_ldiv (hx : p.tables.exec = Jvm.exec) (hb : c.code = cc) {x y : Int64} (hy : ¬ y = 0) (hd : decode cc pc = .ok (.ldiv, 1)) (kk : zGo p l e R s mth args below meth c Q G H0 nL cells slots (pc + 1) lv (.long (x / y) :: st) m) : zGo p l e R s mth args below meth c Q G H0 nL cells slots pc lv (.long y :: .long x :: st) m := by
  intro ls H locs hS hl
  exact lv_ldiv hx hb hd hy (kk ls H locs hS hl)
theorem zs_lrem (hx : p.tables.exec = Jvm.exec) (hb : c.code = cc) {x y : Int64} (hy : ¬ y = 0) (hd : decode cc pc = .ok (.lrem, 1)) (kk : zGo p l e R s mth args below meth c Q G H0 nL cells slots (pc + 1) lv (.long (x - x / y * y) :: st) m) : zGo p l e R s mth args below meth c Q G H0 nL cells slots pc lv (.long y :: .long x :: st) m := by
  intro ls H locs hS hl
  exact lv_lrem hx hb hd hy (kk ls H locs hS hl)
theorem zs_lneg (hx : p.tables.exec = Jvm.exec) (hb : c.code = cc) {x : Int64} (hd : decode cc pc = .ok (.lneg, 1)) (kk : zGo p l e R s mth args below meth c Q G H0 nL cells slots (pc + 1) lv (.long (-x) :: st) m) : zGo p l e R s mth args below meth c Q G H0 nL cells slots pc lv (.long x :: st) m := by
  intro ls H locs hS hl
  exact lv_lneg hx hb hd (kk ls H locs hS hl)
theorem zs_lcmp (hx : p.tables.exec = Jvm.exec) (hb : c.code = cc) {x y : Int64} (hd : decode cc pc = .ok (.lcmp, 1)) (kk : zGo p l e R s mth args below meth c Q G H0 nL cells slots (pc + 1) lv (.int (lg_cmp x y) :: st) m) : zGo p l e R s mth args below meth c Q G H0 nL cells slots pc lv (.long y :: .long x :: st) m := by
  intro ls H locs hS hl
  exact W.lcmp hx hb hd (kk ls H locs hS hl)
theorem zs_i2l (hx : p.tables.exec = Jvm.exec) (hb : c.code = cc) {x : Int32} (hd : decode cc pc = .ok (.i2l, 1)) (kk : zGo p l e R s mth args below meth c Q G H0 nL cells slots (pc + 1) lv (.long (x.toInt64) :: st) m) : zGo p l e R s mth args below meth c Q G H0 nL cells slots pc lv (.int x :: st) m := by
  intro ls H locs hS hl
  exact lv_i2l hx hb hd rfl (kk ls H locs hS hl)
theorem zs_l2i (hx : p.tables.exec = Jvm.exec) (hb : c.code = cc) {x : Int64} (hd : decode cc pc = .ok (.l2i, 1)) (kk : zGo p l e R s mth args below meth c Q G H0 nL cells slots (pc + 1) lv (.int (x.toInt32) :: st) m) : zGo p l e R s mth args below meth c Q G H0 nL cells slots pc lv (.long x :: st) m := by
  intro ls H locs hS hl
  exact lv_l2i hx hb hd rfl (kk ls H locs hS hl)
theorem zs_i2b (hx : p.tables.exec = Jvm.exec) (hb : c.code = cc) {x : Int32} (hd : decode cc pc = .ok (.i2b, 1)) (kk : zGo p l e R s mth args below meth c Q G H0 nL cells slots (pc + 1) lv (.int (x.toInt8.toInt32) :: st) m) : zGo p l e R s mth args below meth c Q G H0 nL cells slots pc lv (.int x :: st) m := by
  intro ls H locs hS hl
  exact lv_i2b hx hb hd rfl (kk ls H locs hS hl)
theorem zs_i2s (hx : p.tables.exec = Jvm.exec) (hb : c.code = cc) {x : Int32} (hd : decode cc pc = .ok (.i2s, 1)) (kk : zGo p l e R s mth args below meth c Q G H0 nL cells slots (pc + 1) lv (.int (x.toInt16.toInt32) :: st) m) : zGo p l e R s mth args below meth c Q G H0 nL cells slots pc lv (.int x :: st) m := by
  intro ls H locs hS hl
  exact lv_i2s hx hb hd rfl (kk ls H locs hS hl)
theorem zs_dupI (hx : p.tables.exec = Jvm.exec) (hb : c.code = cc) {x : Int32} (hd : decode cc pc = .ok (.dup, 1)) (kk : zGo p l e R s mth args below meth c Q G H0 nL cells slots (pc + 1) lv (.int x :: .int x :: st) m) : zGo p l e R s mth args below meth c Q G H0 nL cells slots pc lv (.int x :: st) m := by
  intro ls H locs hS hl
  exact lv_dup hx hb hd rfl (kk ls H locs hS hl)
theorem zs_dupR (hx : p.tables.exec = Jvm.exec) (hb : c.code = cc) {x : Nat} (hd : decode cc pc = .ok (.dup, 1)) (kk : zGo p l e R s mth args below meth c Q G H0 nL cells slots (pc + 1) lv (.ref x :: .ref x :: st) m) : zGo p l e R s mth args below meth c Q G H0 nL cells slots pc lv (.ref x :: st) m := by
  intro ls H locs hS hl
  exact lv_dup (va := .ref (G.1 + x)) hx hb hd rfl (kk ls H locs hS hl)
theorem zs_dup2 (hx : p.tables.exec = Jvm.exec) (hb : c.code = cc) {x : Int32} {z : Nat} (hd : decode cc pc = .ok (.dup2, 1)) (kk : zGo p l e R s mth args below meth c Q G H0 nL cells slots (pc + 1) lv (.int x :: .ref z :: .int x :: .ref z :: st) m) : zGo p l e R s mth args below meth c Q G H0 nL cells slots pc lv (.int x :: .ref z :: st) m := by
  intro ls H locs hS hl
  exact lv_dup2_11 (va := .int x) (vb := .ref (G.1 + z)) hx hb hd rfl rfl (kk ls H locs hS hl)
theorem zs_pop (hx : p.tables.exec = Jvm.exec) (hb : c.code = cc) {x : Int32} (hd : decode cc pc = .ok (.pop, 1)) (kk : zGo p l e R s mth args below meth c Q G H0 nL cells slots (pc + 1) lv st m) : zGo p l e R s mth args below meth c Q G H0 nL cells slots pc lv (.int x :: st) m := by
  intro ls H locs hS hl
  exact lv_pop (va := .int x) hx hb hd rfl (kk ls H locs hS hl)
theorem zs_goto (hx : p.tables.exec = Jvm.exec) (hb : c.code = cc) {off : Int} {tgt : Nat} (ht : (pc : Int) + off = (tgt : Int)) (hd : decode cc pc = .ok (.goto off, 3)) (kk : zGo p l e R s mth args below meth c Q G H0 nL cells slots tgt lv st m) : zGo p l e R s mth args below meth c Q G H0 nL cells slots pc lv st m := by
  intro ls H locs hS hl
  exact lv_goto hx hb hd ht (kk ls H locs hS hl)
theorem zs_if_eq (hx : p.tables.exec = Jvm.exec) (hb : c.code = cc) {x : Int32} {off : Int} {tgt : Nat} (ht : (pc : Int) + off = (tgt : Int)) (hd : decode cc pc = .ok (.ifCond .eq off, 3)) (kt : x = 0 → zGo p l e R s mth args below meth c Q G H0 nL cells slots tgt lv st m) (kf : ¬ x = 0 → zGo p l e R s mth args below meth c Q G H0 nL cells slots (pc + 3) lv st m) : zGo p l e R s mth args below meth c Q G H0 nL cells slots pc lv (.int x :: st) m := by
  intro ls H locs hS hl
  exact lv_if_eq hx hb hd ht (fun q => kt q ls H locs hS hl) (fun q => kf q ls H locs hS hl)
theorem zs_icmp_eq (hx : p.tables.exec = Jvm.exec) (hb : c.code = cc) {x y : Int32} {off : Int} {tgt : Nat} (ht : (pc : Int) + off = (tgt : Int)) (hd : decode cc pc = .ok (.if_icmp .eq off, 3)) (kt : x = y → zGo p l e R s mth args below meth c Q G H0 nL cells slots tgt lv st m) (kf : ¬ x = y → zGo p l e R s mth args below meth c Q G H0 nL cells slots (pc + 3) lv st m) : zGo p l e R s mth args below meth c Q G H0 nL cells slots pc lv (.int y :: .int x :: st) m := by
  intro ls H locs hS hl
  exact lv_icmp_eq hx hb hd ht (fun q => kt q ls H locs hS hl) (fun q => kf q ls H locs hS hl)
theorem zs_if_ne (hx : p.tables.exec = Jvm.exec) (hb : c.code = cc) {x : Int32} {off : Int} {tgt : Nat} (ht : (pc : Int) + off = (tgt : Int)) (hd : decode cc pc = .ok (.ifCond .ne off, 3)) (kt : ¬ x = 0 → zGo p l e R s mth args below meth c Q G H0 nL cells slots tgt lv st m) (kf : x = 0 → zGo p l e R s mth args below meth c Q G H0 nL cells slots (pc + 3) lv st m) : zGo p l e R s mth args below meth c Q G H0 nL cells slots pc lv (.int x :: st) m := by
  intro ls H locs hS hl
  exact lv_if_ne hx hb hd ht (fun q => kt q ls H locs hS hl) (fun q => kf q ls H locs hS hl)
theorem zs_icmp_ne (hx : p.tables.exec = Jvm.exec) (hb : c.code = cc) {x y : Int32} {off : Int} {tgt : Nat} (ht : (pc : Int) + off = (tgt : Int)) (hd : decode cc pc = .ok (.if_icmp .ne off, 3)) (kt : ¬ x = y → zGo p l e R s mth args below meth c Q G H0 nL cells slots tgt lv st m) (kf : x = y → zGo p l e R s mth args below meth c Q G H0 nL cells slots (pc + 3) lv st m) : zGo p l e R s mth args below meth c Q G H0 nL cells slots pc lv (.int y :: .int x :: st) m := by
  intro ls H locs hS hl
  exact lv_icmp_ne hx hb hd ht (fun q => kt q ls H locs hS hl) (fun q => kf q ls H locs hS hl)
theorem zs_if_lt (hx : p.tables.exec = Jvm.exec) (hb : c.code = cc) {x : Int32} {off : Int} {tgt : Nat} (ht : (pc : Int) + off = (tgt : Int)) (hd : decode cc pc = .ok (.ifCond .lt off, 3)) (kt : x < 0 → zGo p l e R s mth args below meth c Q G H0 nL cells slots tgt lv st m) (kf : ¬ x < 0 → zGo p l e R s mth args below meth c Q G H0 nL cells slots (pc + 3) lv st m) : zGo p l e R s mth args below meth c Q G H0 nL cells slots pc lv (.int x :: st) m := by
  intro ls H locs hS hl
  exact lv_if_lt hx hb hd ht (fun q => kt q ls H locs hS hl) (fun q => kf q ls H locs hS hl)
theorem zs_icmp_lt (hx : p.tables.exec = Jvm.exec) (hb : c.code = cc) {x y : Int32} {off : Int} {tgt : Nat} (ht : (pc : Int) + off = (tgt : Int)) (hd : decode cc pc = .ok (.if_icmp .lt off, 3)) (kt : x < y → zGo p l e R s mth args below meth c Q G H0 nL cells slots tgt lv st m) (kf : ¬ x < y → zGo p l e R s mth args below meth c Q G H0 nL cells slots (pc + 3) lv st m) : zGo p l e R s mth args below meth c Q G H0 nL cells slots pc lv (.int y :: .int x :: st) m := by
  intro ls H locs hS hl
  exact lv_icmp_lt hx hb hd ht (fun q => kt q ls H locs hS hl) (fun q => kf q ls H locs hS hl)
theorem zs_if_ge (hx : p.tables.exec = Jvm.exec) (hb : c.code = cc) {x : Int32} {off : Int} {tgt : Nat} (ht : (pc : Int) + off = (tgt : Int)) (hd : decode cc pc = .ok (.ifCond .ge off, 3)) (kt : 0 ≤ x → zGo p l e R s mth args below meth c Q G H0 nL cells slots tgt lv st m) (kf : ¬ 0 ≤ x → zGo p l e R s mth args below meth c Q G H0 nL cells slots (pc + 3) lv st m) : zGo p l e R s mth args below meth c Q G H0 nL cells slots pc lv (.int x :: st) m := by
  intro ls H locs hS hl
  exact lv_if_ge hx hb hd ht (fun q => kt q ls H locs hS hl) (fun q => kf q ls H locs hS hl)
theorem zs_icmp_ge (hx : p.tables.exec = Jvm.exec) (hb : c.code = cc) {x y : Int32} {off : Int} {tgt : Nat} (ht : (pc : Int) + off = (tgt : Int)) (hd : decode cc pc = .ok (.if_icmp .ge off, 3)) (kt : y ≤ x → zGo p l e R s mth args below meth c Q G H0 nL cells slots tgt lv st m) (kf : ¬ y ≤ x → zGo p l e R s mth args below meth c Q G H0 nL cells slots (pc + 3) lv st m) : zGo p l e R s mth args below meth c Q G H0 nL cells slots pc lv (.int y :: .int x :: st) m := by
  intro ls H locs hS hl
  exact lv_icmp_ge hx hb hd ht (fun q => kt q ls H locs hS hl) (fun q => kf q ls H locs hS hl)
theorem zs_if_gt (hx : p.tables.exec = Jvm.exec) (hb : c.code = cc) {x : Int32} {off : Int} {tgt : Nat} (ht : (pc : Int) + off = (tgt : Int)) (hd : decode cc pc = .ok (.ifCond .gt off, 3)) (kt : 0 < x → zGo p l e R s mth args below meth c Q G H0 nL cells slots tgt lv st m) (kf : ¬ 0 < x → zGo p l e R s mth args below meth c Q G H0 nL cells slots (pc + 3) lv st m) : zGo p l e R s mth args below meth c Q G H0 nL cells slots pc lv (.int x :: st) m := by
  intro ls H locs hS hl
  exact lv_if_gt hx hb hd ht (fun q => kt q ls H locs hS hl) (fun q => kf q ls H locs hS hl)
theorem zs_icmp_gt (hx : p.tables.exec = Jvm.exec) (hb : c.code = cc) {x y : Int32} {off : Int} {tgt : Nat} (ht : (pc : Int) + off = (tgt : Int)) (hd : decode cc pc = .ok (.if_icmp .gt off, 3)) (kt : y < x → zGo p l e R s mth args below meth c Q G H0 nL cells slots tgt lv st m) (kf : ¬ y < x → zGo p l e R s mth args below meth c Q G H0 nL cells slots (pc + 3) lv st m) : zGo p l e R s mth args below meth c Q G H0 nL cells slots pc lv (.int y :: .int x :: st) m := by
  intro ls H locs hS hl
  exact lv_icmp_gt hx hb hd ht (fun q => kt q ls H locs hS hl) (fun q => kf q ls H locs hS hl)
theorem zs_if_le (hx : p.tables.exec = Jvm.exec) (hb : c.code = cc) {x : Int32} {off : Int} {tgt : Nat} (ht : (pc : Int) + off = (tgt : Int)) (hd : decode cc pc = .ok (.ifCond .le off, 3)) (kt : x ≤ 0 → zGo p l e R s mth args below meth c Q G H0 nL cells slots tgt lv st m) (kf : ¬ x ≤ 0 → zGo p l e R s mth args below meth c Q G H0 nL cells slots (pc + 3) lv st m) : zGo p l e R s mth args below meth c Q G H0 nL cells slots pc lv (.int x :: st) m := by
  intro ls H locs hS hl
  exact lv_if_le hx hb hd ht (fun q => kt q ls H locs hS hl) (fun q => kf q ls H locs hS hl)
theorem zs_icmp_le (hx : p.tables.exec = Jvm.exec) (hb : c.code = cc) {x y : Int32} {off : Int} {tgt : Nat} (ht : (pc : Int) + off = (tgt : Int)) (hd : decode cc pc = .ok (.if_icmp .le off, 3)) (kt : x ≤ y → zGo p l e R s mth args below meth c Q G H0 nL cells slots tgt lv st m) (kf : ¬ x ≤ y → zGo p l e R s mth args below meth c Q G H0 nL cells slots (pc + 3) lv st m) : zGo p l e R s mth args below meth c Q G H0 nL cells slots pc lv (.int y :: .int x :: st) m := by
  intro ls H locs hS hl
  exact lv_icmp_le hx hb hd ht (fun q => kt q ls H locs hS hl) (fun q => kf q ls H locs hS hl)
theorem zs_tabOut (hx : p.tables.exec = Jvm.exec) (hb : c.code = cc) {x : Int32} {dflt lo hi : Int} {offs : Array Int} {len tgt : Nat} (h : x.toInt < lo ∨ hi < x.toInt) (ht : (pc : Int) + dflt = (tgt : Int)) (hd : decode cc pc = .ok (.tableswitch dflt lo hi offs, len)) (kk : zGo p l e R s mth args below meth c Q G H0 nL cells slots tgt lv st m) : zGo p l e R s mth args below meth c Q G H0 nL cells slots pc lv (.int x :: st) m := by
  intro ls H locs hS hl
  exact lv_tableOut hx hb hd h ht (kk ls H locs hS hl)
theorem zs_tabIn (hx : p.tables.exec = Jvm.exec) (hb : c.code = cc) {x : Int32} {dflt lo hi off : Int} {offs : Array Int} {len tgt : Nat} (h : ¬ (x.toInt < lo ∨ hi < x.toInt)) (ho : offs[(x.toInt - lo).toNat]? = some off) (ht : (pc : Int) + off = (tgt : Int)) (hd : decode cc pc = .ok (.tableswitch dflt lo hi offs, len)) (kk : zGo p l e R s mth args below meth c Q G H0 nL cells slots tgt lv st m) : zGo p l e R s mth args below meth c Q G H0 nL cells slots pc lv (.int x :: st) m := by
  intro ls H locs hS hl
  exact lv_tableIn hx hb hd (fun q => h (Or.inl q)) (fun q => h (Or.inr q)) ho ht (kk ls H locs hS hl)
theorem zs_look (hx : p.tables.exec = Jvm.exec) (hb : c.code = cc) {x : Int32} {dflt : Int} {ps : Array (Int × Int)} {len tgt : Nat} (hp : (ps.toList.zip (ps.toList.drop 1)).all (fun (a, next) => a.1 < next.1) = true) (ht : (pc : Int) + Op.lookupswitch.offset ps.toList dflt x.toInt = (tgt : Int)) (hd : decode cc pc = .ok (.lookupswitch dflt ps, len)) (kk : zGo p l e R s mth args below meth c Q G H0 nL cells slots tgt lv st m) : zGo p l e R s mth args below meth c Q G H0 nL cells slots pc lv (.int x :: st) m := by
  intro ls H locs hS hl
  exact lv_lookup hx hb hd hp rfl ht (kk ls H locs hS hl)
theorem zs_ldc (hx : p.tables.exec = Jvm.exec) (hb : c.code = cc) {own : String} {ix : Nat} {v : Int32} (hown : s.vm.findClass own = some mth.cls) (hc : (Jvm.Cond.constant own ix v).before args s = true) (hd : decode cc pc = .ok (.ldc ix, 2)) (kk : zGo p l e R s mth args below meth c Q G H0 nL cells slots (pc + 2) lv (.int v :: st) m) : zGo p l e R s mth args below meth c Q G H0 nL cells slots pc lv st m := by
  intro ls H locs hS hl
  exact lv_ldc hx hb hown hc hd (kk ls H locs hS hl)
theorem zs_ldc_w (hx : p.tables.exec = Jvm.exec) (hb : c.code = cc) {own : String} {ix : Nat} {v : Int32} (hown : s.vm.findClass own = some mth.cls) (hc : (Jvm.Cond.constant own ix v).before args s = true) (hd : decode cc pc = .ok (.ldc_w ix, 3)) (kk : zGo p l e R s mth args below meth c Q G H0 nL cells slots (pc + 3) lv (.int v :: st) m) : zGo p l e R s mth args below meth c Q G H0 nL cells slots pc lv st m := by
  intro ls H locs hS hl
  exact lv_ldcw hx hb hown hc hd (kk ls H locs hS hl)
theorem zs_ldc2 (hx : p.tables.exec = Jvm.exec) (hb : c.code = cc) {own : String} {ix : Nat} {v : Int64} (hown : s.vm.findClass own = some mth.cls) (hc : (Jvm.Cond.constantLong own ix v).before args s = true) (hd : decode cc pc = .ok (.ldc2_w ix, 3)) (kk : zGo p l e R s mth args below meth c Q G H0 nL cells slots (pc + 3) lv (.long v :: st) m) : zGo p l e R s mth args below meth c Q G H0 nL cells slots pc lv st m := by
  intro ls H locs hS hl
  exact lv_ldc2 hx hb hown hc hd (kk ls H locs hS hl)
end ZS1
