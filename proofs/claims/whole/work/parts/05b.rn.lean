/-! The equations of run, an instruction each -/
section RN
variable {d y pc k : Nat} {lv : zLV} {st : List Value} {m : zMem}
theorem rn_iconst {n : Int} {v : Int32} (hi : zIns y pc = some (.iconst n, k)) (hv : Int32.ofInt n = v) : run d y pc lv st m = run d y (pc + 1) lv (.int v :: st) m := by subst hv; exact run_step hi rfl rfl rfl
theorem rn_bipush {n : Int} {v : Int32} (hi : zIns y pc = some (.bipush n, k)) (hv : (Int8.ofInt n).toInt32 = v) : run d y pc lv st m = run d y (pc + 2) lv (.int v :: st) m := by subst hv; exact run_step hi rfl rfl rfl
theorem rn_sipush {n : Int} {v : Int32} (hi : zIns y pc = some (.sipush n, k)) (hv : (Int16.ofInt n).toInt32 = v) : run d y pc lv st m = run d y (pc + 3) lv (.int v :: st) m := by subst hv; exact run_step hi rfl rfl rfl
theorem rn_lconst {n : Fin 2} {v : Int64} (hi : zIns y pc = some (.lconst n, k)) (hv : Int64.ofNat n = v) : run d y pc lv st m = run d y (pc + 1) lv (.long v :: st) m := by subst hv; exact run_step hi rfl rfl rfl
theorem rn_ldc {ix : Nat} {v : Int32} (hi : zIns y pc = some (.ldc ix, k)) (h9 : ¬ (zMc y = 9 ∧ ix = 19)) (hv : zCon.lookup (zMc y, ix) = some v) : run d y pc lv st m = run d y (pc + 2) lv (.int v :: st) m := run_step hi rfl rfl (by dsimp only [zStep]; rw [if_neg h9, hv]; rfl)
theorem rn_ldc_w {ix : Nat} {v : Int32} (hi : zIns y pc = some (.ldc_w ix, k)) (hv : zCon.lookup (zMc y, ix) = some v) : run d y pc lv st m = run d y (pc + 3) lv (.int v :: st) m := run_step hi rfl rfl (by dsimp only [zStep]; rw [hv]; rfl)
theorem rn_ldc2 {ix : Nat} {v : Int64} (hi : zIns y pc = some (.ldc2_w ix, k)) (hv : zConL.lookup (zMc y, ix) = some v) : run d y pc lv st m = run d y (pc + 3) lv (.long v :: st) m := run_step hi rfl rfl (by dsimp only [zStep]; rw [hv]; rfl)
theorem rn_iload {n : Nat} {x : Int32} (hi : zIns y pc = some (.iload n, k)) (h : lv[n]? = some (.int x)) : run d y pc lv st m = run d y (pc + 2) lv (.int x :: st) m := run_step hi rfl rfl (by show zIld lv n (pc + 2) st m = _; unfold zIld; rw [h])
theorem rn_iload_n {n : Fin 4} {x : Int32} (hi : zIns y pc = some (.iload_n n, k)) (h : lv[(n : Nat)]? = some (.int x)) : run d y pc lv st m = run d y (pc + 1) lv (.int x :: st) m := run_step hi rfl rfl (by show zIld lv n (pc + 1) st m = _; unfold zIld; rw [h])
theorem rn_lload {n : Nat} {x : Int64} (hi : zIns y pc = some (.lload n, k)) (h : lv[n]? = some (.long x)) : run d y pc lv st m = run d y (pc + 2) lv (.long x :: st) m := run_step hi rfl rfl (by show zLld lv n (pc + 2) st m = _; unfold zLld; rw [h])
theorem rn_lload_n {n : Fin 4} {x : Int64} (hi : zIns y pc = some (.lload_n n, k)) (h : lv[(n : Nat)]? = some (.long x)) : run d y pc lv st m = run d y (pc + 1) lv (.long x :: st) m := run_step hi rfl rfl (by show zLld lv n (pc + 1) st m = _; unfold zLld; rw [h])
theorem rn_aload {n : Nat} {x : Nat} (hi : zIns y pc = some (.aload n, k)) (h : lv[n]? = some (.ref x)) : run d y pc lv st m = run d y (pc + 2) lv (.ref x :: st) m := run_step hi rfl rfl (by show zAld lv n (pc + 2) st m = _; unfold zAld; rw [h])
theorem rn_aload_n {n : Fin 4} {x : Nat} (hi : zIns y pc = some (.aload_n n, k)) (h : lv[(n : Nat)]? = some (.ref x)) : run d y pc lv st m = run d y (pc + 1) lv (.ref x :: st) m := run_step hi rfl rfl (by show zAld lv n (pc + 1) st m = _; unfold zAld; rw [h])
theorem rn_istore {n : Nat} {x : Int32} {lv' : zLV} (hi : zIns y pc = some (.istore n, k)) (hn : n < zML y) (hO : lvO lv n = true) (hl : lv.set n (.int x) = lv') : run d y pc lv (.int x :: st) m = run d y (pc + 2) lv' st m := by subst hl; exact run_step hi rfl rfl (if_pos ⟨hn, hO⟩)
theorem rn_istore_n {n : Fin 4} {x : Int32} {lv' : zLV} (hi : zIns y pc = some (.istore_n n, k)) (hn : (n : Nat) < zML y) (hO : lvO lv n = true) (hl : lv.set n (.int x) = lv') : run d y pc lv (.int x :: st) m = run d y (pc + 1) lv' st m := by subst hl; exact run_step hi rfl rfl (if_pos ⟨hn, hO⟩)
theorem rn_astore {n : Nat} {x : Nat} {lv' : zLV} (hi : zIns y pc = some (.astore n, k)) (hn : n < zML y) (hO : lvO lv n = true) (hl : lv.set n (.ref x) = lv') : run d y pc lv (.ref x :: st) m = run d y (pc + 2) lv' st m := by subst hl; exact run_step hi rfl rfl (if_pos ⟨hn, hO⟩)
theorem rn_astore_n {n : Fin 4} {x : Nat} {lv' : zLV} (hi : zIns y pc = some (.astore_n n, k)) (hn : (n : Nat) < zML y) (hO : lvO lv n = true) (hl : lv.set n (.ref x) = lv') : run d y pc lv (.ref x :: st) m = run d y (pc + 1) lv' st m := by subst hl; exact run_step hi rfl rfl (if_pos ⟨hn, hO⟩)
theorem rn_lstore {n : Nat} {x : Int64} {lv' : zLV} (hi : zIns y pc = some (.lstore n, k)) (hn : n + 1 < zML y) (hO : lvO lv n = true) (hl : (lv.set n (.long x)).set (n + 1) jk = lv') : run d y pc lv (.long x :: st) m = run d y (pc + 2) lv' st m := by subst hl; exact run_step hi rfl rfl (if_pos ⟨hn, hO⟩)
theorem rn_lstore_n {n : Fin 4} {x : Int64} {lv' : zLV} (hi : zIns y pc = some (.lstore_n n, k)) (hn : (n : Nat) + 1 < zML y) (hO : lvO lv n = true) (hl : (lv.set n (.long x)).set (n + 1) jk = lv') : run d y pc lv (.long x :: st) m = run d y (pc + 1) lv' st m := by subst hl; exact run_step hi rfl rfl (if_pos ⟨hn, hO⟩)
theorem rn_iinc {n : Nat} {z : Int} {w x : Int32} {lv' : zLV} (hi : zIns y pc = some (.iinc n z, k)) (h : lv[n]? = some (.int x)) (hn : n < zML y) (hO : lvO lv n = true) (hw : Int32.ofInt z = w) (hl : lv.set n (.int (x + w)) = lv') : run d y pc lv st m = run d y (pc + 3) lv' st m := by
  subst hl
  subst hw
  exact run_step hi rfl rfl (by dsimp only [zStep]; rw [h]; exact if_pos ⟨hn, hO⟩)
theorem rn_iadd {x z : Int32} (hi : zIns y pc = some (.iadd, k)) : run d y pc lv (.int z :: .int x :: st) m = run d y (pc + 1) lv (.int (x + z) :: st) m := run_step hi rfl rfl rfl
theorem rn_isub {x z : Int32} (hi : zIns y pc = some (.isub, k)) : run d y pc lv (.int z :: .int x :: st) m = run d y (pc + 1) lv (.int (x - z) :: st) m := run_step hi rfl rfl rfl
theorem rn_imul {x z : Int32} (hi : zIns y pc = some (.imul, k)) : run d y pc lv (.int z :: .int x :: st) m = run d y (pc + 1) lv (.int (x * z) :: st) m := run_step hi rfl rfl rfl
theorem rn_iand {x z : Int32} (hi : zIns y pc = some (.iand, k)) : run d y pc lv (.int z :: .int x :: st) m = run d y (pc + 1) lv (.int (x &&& z) :: st) m := run_step hi rfl rfl rfl
theorem rn_ior {x z : Int32} (hi : zIns y pc = some (.ior, k)) : run d y pc lv (.int z :: .int x :: st) m = run d y (pc + 1) lv (.int (x ||| z) :: st) m := run_step hi rfl rfl rfl
theorem rn_ixor {x z : Int32} (hi : zIns y pc = some (.ixor, k)) : run d y pc lv (.int z :: .int x :: st) m = run d y (pc + 1) lv (.int (x ^^^ z) :: st) m := run_step hi rfl rfl rfl
theorem rn_ishl {x z : Int32} (hi : zIns y pc = some (.ishl, k)) : run d y pc lv (.int z :: .int x :: st) m = run d y (pc + 1) lv (.int (x <<< (z &&& 31)) :: st) m := run_step hi rfl rfl rfl
theorem rn_ishr {x z : Int32} (hi : zIns y pc = some (.ishr, k)) : run d y pc lv (.int z :: .int x :: st) m = run d y (pc + 1) lv (.int (x >>> (z &&& 31)) :: st) m := run_step hi rfl rfl rfl
theorem rn_iushr {x z : Int32} (hi : zIns y pc = some (.iushr, k)) : run d y pc lv (.int z :: .int x :: st) m = run d y (pc + 1) lv (.int ((x.toUInt32 >>> (z.toUInt32 &&& Int32.toUInt32 31)).toInt32) :: st) m := run_step hi rfl rfl rfl
theorem rn_idiv {x z : Int32} (hi : zIns y pc = some (.idiv, k)) : run d y pc lv (.int z :: .int x :: st) m = if z = 0 then none else run d y (pc + 1) lv (.int (x / z) :: st) m := by
  split
  · exact run_stuck hi rfl rfl (if_pos (by assumption))
  · exact run_step hi rfl rfl (if_neg (by assumption))
theorem rn_irem {x z : Int32} (hi : zIns y pc = some (.irem, k)) : run d y pc lv (.int z :: .int x :: st) m = if z = 0 then none else run d y (pc + 1) lv (.int (x - x / z * z) :: st) m := by
  split
  · exact run_stuck hi rfl rfl (if_pos (by assumption))
  · exact run_step hi rfl rfl (if_neg (by assumption))
theorem rn_ladd {x z : Int64} (hi : zIns y pc = some (.ladd, k)) : run d y pc lv (.long z :: .long x :: st) m = run d y (pc + 1) lv (.long (x + z) :: st) m := run_step hi rfl rfl rfl
theorem rn_lsub {x z : Int64} (hi : zIns y pc = some (.lsub, k)) : run d y pc lv (.long z :: .long x :: st) m = run d y (pc + 1) lv (.long (x - z) :: st) m := run_step hi rfl rfl rfl
theorem rn_lmul {x z : Int64} (hi : zIns y pc = some (.lmul, k)) : run d y pc lv (.long z :: .long x :: st) m = run d y (pc + 1) lv (.long (x * z) :: st) m := run_step hi rfl rfl rfl
theorem rn_ldiv {x z : Int64} (hi : zIns y pc = some (.ldiv, k)) : run d y pc lv (.long z :: .long x :: st) m = if z = 0 then none else run d y (pc + 1) lv (.long (x / z) :: st) m := by
  split
  · exact run_stuck hi rfl rfl (if_pos (by assumption))
  · exact run_step hi rfl rfl (if_neg (by assumption))
theorem rn_lrem {x z : Int64} (hi : zIns y pc = some (.lrem, k)) : run d y pc lv (.long z :: .long x :: st) m = if z = 0 then none else run d y (pc + 1) lv (.long (x - x / z * z) :: st) m := by
  split
  · exact run_stuck hi rfl rfl (if_pos (by assumption))
  · exact run_step hi rfl rfl (if_neg (by assumption))
theorem rn_lneg {x : Int64} (hi : zIns y pc = some (.lneg, k)) : run d y pc lv (.long x :: st) m = run d y (pc + 1) lv (.long (-x) :: st) m := run_step hi rfl rfl rfl
theorem rn_lcmp {x z : Int64} (hi : zIns y pc = some (.lcmp, k)) : run d y pc lv (.long z :: .long x :: st) m = run d y (pc + 1) lv (.int (lg_cmp x z) :: st) m := run_step hi rfl rfl rfl
theorem rn_i2l {x : Int32} (hi : zIns y pc = some (.i2l, k)) : run d y pc lv (.int x :: st) m = run d y (pc + 1) lv (.long x.toInt64 :: st) m := run_step hi rfl rfl rfl
theorem rn_l2i {x : Int64} (hi : zIns y pc = some (.l2i, k)) : run d y pc lv (.long x :: st) m = run d y (pc + 1) lv (.int x.toInt32 :: st) m := run_step hi rfl rfl rfl
theorem rn_i2b {x : Int32} (hi : zIns y pc = some (.i2b, k)) : run d y pc lv (.int x :: st) m = run d y (pc + 1) lv (.int x.toInt8.toInt32 :: st) m := run_step hi rfl rfl rfl
theorem rn_i2s {x : Int32} (hi : zIns y pc = some (.i2s, k)) : run d y pc lv (.int x :: st) m = run d y (pc + 1) lv (.int x.toInt16.toInt32 :: st) m := run_step hi rfl rfl rfl
theorem rn_dupI {x : Int32} (hi : zIns y pc = some (.dup, k)) : run d y pc lv (.int x :: st) m = run d y (pc + 1) lv (.int x :: .int x :: st) m := run_step hi rfl rfl rfl
theorem rn_dupR {x : Nat} (hi : zIns y pc = some (.dup, k)) : run d y pc lv (.ref x :: st) m = run d y (pc + 1) lv (.ref x :: .ref x :: st) m := run_step hi rfl rfl rfl
theorem rn_dup2 {x : Int32} {z : Nat} (hi : zIns y pc = some (.dup2, k)) : run d y pc lv (.int x :: .ref z :: st) m = run d y (pc + 1) lv (.int x :: .ref z :: .int x :: .ref z :: st) m := run_step hi rfl rfl rfl
theorem rn_pop {x : Int32} (hi : zIns y pc = some (.pop, k)) : run d y pc lv (.int x :: st) m = run d y (pc + 1) lv st m := run_step hi rfl rfl rfl
theorem rn_goto {off : Int} {tgt : Nat} (hi : zIns y pc = some (.goto off, k)) (ht : (pc : Int) + off = (tgt : Int)) : run d y pc lv st m = run d y tgt lv st m := run_step hi rfl rfl (by dsimp only [zStep, zGoto]; rw [ht, if_pos (by omega)]; simp)
theorem rn_if {cd : ClassFile.Cond} {off : Int} {tgt : Nat} {x : Int32} (hi : zIns y pc = some (.ifCond cd off, k)) (ht : (pc : Int) + off = (tgt : Int)) : run d y pc lv (.int x :: st) m = if cndB cd x 0 = true then run d y tgt lv st m else run d y (pc + 3) lv st m := by
  have h : run d y pc lv (.int x :: st) m = run d y (if cndB cd x 0 = true then tgt else pc + 3) lv st m := run_step hi rfl rfl (by dsimp only [zStep]; rw [ht, if_pos (by omega)]; simp)
  rw [h]
  split <;> rfl
theorem rn_icmp {cd : ClassFile.Cond} {off : Int} {tgt : Nat} {x z : Int32} (hi : zIns y pc = some (.if_icmp cd off, k)) (ht : (pc : Int) + off = (tgt : Int)) : run d y pc lv (.int z :: .int x :: st) m = if cndB cd x z = true then run d y tgt lv st m else run d y (pc + 3) lv st m := by
  have h : run d y pc lv (.int z :: .int x :: st) m = run d y (if cndB cd x z = true then tgt else pc + 3) lv st m := run_step hi rfl rfl (by dsimp only [zStep]; rw [ht, if_pos (by omega)]; simp)
  rw [h]
  split <;> rfl
theorem rn_table {dflt lo hi9 off : Int} {offs : Array Int} {tgt : Nat} {x : Int32} (hi : zIns y pc = some (.tableswitch dflt lo hi9 offs, k)) (hx : (if x.toInt < lo ∨ hi9 < x.toInt then some dflt else offs[(x.toInt - lo).toNat]?) = some off) (ht : (pc : Int) + off = (tgt : Int)) : run d y pc lv (.int x :: st) m = run d y tgt lv st m := run_step hi rfl rfl (by
  dsimp only [zStep]
  split at hx
  · rename_i h
    cases hx
    rw [if_pos h]
    dsimp only [zGoto]
    rw [ht, if_pos (by omega)]
    simp
  · rename_i h
    rw [if_neg h, hx]
    dsimp only [zGoto]
    rw [ht, if_pos (by omega)]
    simp)
theorem rn_getI {ix c j a : Nat} (hi : zIns y pc = some (.getfield ix, k)) (hf : zFld.lookup (zMc y, ix) = some (c, j)) (hv : ∀ m : zMem, fldV m c a j = .int (memI m a j)) : run d y pc lv (.ref a :: st) m = if (memK m a).1 = 100 + c then run d y (pc + 3) lv (.int (memI m a j) :: st) m else none := by
  split
  · rename_i h
    exact run_step hi rfl rfl (by dsimp only [zStep]; rw [hf]; dsimp only; rw [if_pos h, hv])
  · rename_i h
    exact run_stuck hi rfl rfl (by dsimp only [zStep]; rw [hf]; dsimp only; rw [if_neg h])
theorem rn_getL {ix c j a : Nat} (hi : zIns y pc = some (.getfield ix, k)) (hf : zFld.lookup (zMc y, ix) = some (c, j)) (hv : ∀ m : zMem, fldV m c a j = .long (memL m a j)) : run d y pc lv (.ref a :: st) m = if (memK m a).1 = 100 + c then run d y (pc + 3) lv (.long (memL m a j) :: st) m else none := by
  split
  · rename_i h
    exact run_step hi rfl rfl (by dsimp only [zStep]; rw [hf]; dsimp only; rw [if_pos h, hv])
  · rename_i h
    exact run_stuck hi rfl rfl (by dsimp only [zStep]; rw [hf]; dsimp only; rw [if_neg h])
theorem rn_getR {ix c j a : Nat} (hi : zIns y pc = some (.getfield ix, k)) (hf : zFld.lookup (zMc y, ix) = some (c, j)) (hv : ∀ m : zMem, fldV m c a j = va_rf (memR m a j)) : run d y pc lv (.ref a :: st) m = if (memK m a).1 = 100 + c then run d y (pc + 3) lv (va_rf (memR m a j) :: st) m else none := by
  split
  · rename_i h
    exact run_step hi rfl rfl (by dsimp only [zStep]; rw [hf]; dsimp only; rw [if_pos h, hv])
  · rename_i h
    exact run_stuck hi rfl rfl (by dsimp only [zStep]; rw [hf]; dsimp only; rw [if_neg h])
theorem rn_put {ix c j a : Nat} {v : Value} {m' : zMem} (hi : zIns y pc = some (.putfield ix, k)) (hf : zFld.lookup (zMc y, ix) = some (c, j)) (hfin : (zU c j).2.2.2 = false ∨ ((zNm y).name = "<init>" ∧ zMc y = c)) (hp : zPut m c a j v = some m') : run d y pc lv (v :: .ref a :: st) m = if (memK m a).1 = 100 + c then run d y (pc + 3) lv st m' else none := by
  split
  · rename_i h
    exact run_step hi rfl rfl (by dsimp only [zStep]; rw [hf]; dsimp only; rw [if_pos ⟨h, hfin⟩, hp]; rfl)
  · rename_i h
    exact run_stuck hi rfl rfl (by dsimp only [zStep]; rw [hf]; dsimp only; rw [if_neg (fun q => h q.1)])
theorem zPut_Z {m : zMem} {c a j : Nat} {x : Int32} (ht : zTy c j = .boolean) (hx : x = 0 ∨ x = 1) : zPut m c a j (.int x) = some (setI m a j x) := by
  unfold zPut
  rw [ht]
  exact if_pos hx
theorem rn_putZ {ix c j a : Nat} {x : Int32} (hi : zIns y pc = some (.putfield ix, k)) (hf : zFld.lookup (zMc y, ix) = some (c, j)) (hfin : (zU c j).2.2.2 = false ∨ ((zNm y).name = "<init>" ∧ zMc y = c)) (ht : zTy c j = .boolean) : run d y pc lv (.int x :: .ref a :: st) m = if (memK m a).1 = 100 + c ∧ (x = 0 ∨ x = 1) then run d y (pc + 3) lv st (setI m a j x) else none := by
  by_cases hx : x = 0 ∨ x = 1
  · rw [rn_put hi hf hfin (zPut_Z ht hx)]
    by_cases h : (memK m a).1 = 100 + c
    · rw [if_pos h, if_pos ⟨h, hx⟩]
    · rw [if_neg h, if_neg (fun q => h q.1)]
  · rw [if_neg (fun q => hx q.2)]
    refine run_stuck hi rfl rfl ?_
    dsimp only [zStep]
    rw [hf]
    dsimp only
    have e : zPut m c a j (.int x) = none := by
      unfold zPut
      rw [ht]
      exact if_neg hx
    rw [e]
    split <;> rfl
theorem rn_iaload {a : Nat} {j : Int32} (hi : zIns y pc = some (.iaload, k)) : run d y pc lv (.int j :: .ref a :: st) m = if (memK m a).1 = 1 ∧ inB j (memK m a).2 = true then run d y (pc + 1) lv (.int (memI m a j.toNatClampNeg) :: st) m else none := by
  split
  · exact run_step hi rfl rfl (if_pos (by assumption))
  · exact run_stuck hi rfl rfl (if_neg (by assumption))
theorem rn_baload {a : Nat} {j : Int32} (hi : zIns y pc = some (.baload, k)) : run d y pc lv (.int j :: .ref a :: st) m = if ((memK m a).1 = 3 ∨ (memK m a).1 = 4) ∧ inB j (memK m a).2 = true then run d y (pc + 1) lv (.int (memI m a j.toNatClampNeg) :: st) m else none := by
  split
  · exact run_step hi rfl rfl (if_pos (by assumption))
  · exact run_stuck hi rfl rfl (if_neg (by assumption))
theorem rn_laload {a : Nat} {j : Int32} (hi : zIns y pc = some (.laload, k)) : run d y pc lv (.int j :: .ref a :: st) m = if (memK m a).1 = 2 ∧ inB j (memK m a).2 = true then run d y (pc + 1) lv (.long (memL m a j.toNatClampNeg) :: st) m else none := by
  split
  · exact run_step hi rfl rfl (if_pos (by assumption))
  · exact run_stuck hi rfl rfl (if_neg (by assumption))
theorem rn_aaload {a : Nat} {j : Int32} (hi : zIns y pc = some (.aaload, k)) : run d y pc lv (.int j :: .ref a :: st) m = if (5 ≤ (memK m a).1 ∧ (memK m a).1 ≤ 7) ∧ inB j (memK m a).2 = true then run d y (pc + 1) lv (va_rf (memR m a j.toNatClampNeg) :: st) m else none := by
  split
  · exact run_step hi rfl rfl (if_pos (by assumption))
  · exact run_stuck hi rfl rfl (if_neg (by assumption))
theorem rn_iastore {a : Nat} {j x : Int32} (hi : zIns y pc = some (.iastore, k)) : run d y pc lv (.int x :: .int j :: .ref a :: st) m = if (memK m a).1 = 1 ∧ inB j (memK m a).2 = true then run d y (pc + 1) lv st (setI m a j.toNatClampNeg x) else none := by
  split
  · exact run_step hi rfl rfl (if_pos (by assumption))
  · exact run_stuck hi rfl rfl (if_neg (by assumption))
theorem rn_lastore {a : Nat} {j : Int32} {x : Int64} (hi : zIns y pc = some (.lastore, k)) : run d y pc lv (.long x :: .int j :: .ref a :: st) m = if (memK m a).1 = 2 ∧ inB j (memK m a).2 = true then run d y (pc + 1) lv st (setL m a j.toNatClampNeg x) else none := by
  split
  · exact run_step hi rfl rfl (if_pos (by assumption))
  · exact run_stuck hi rfl rfl (if_neg (by assumption))
theorem rn_bastore {a : Nat} {j x : Int32} (hi : zIns y pc = some (.bastore, k)) : run d y pc lv (.int x :: .int j :: .ref a :: st) m = if inB j (memK m a).2 = true then (if (memK m a).1 = 3 then run d y (pc + 1) lv st (setI m a j.toNatClampNeg x.toInt8.toInt32) else if (memK m a).1 = 4 then run d y (pc + 1) lv st (setI m a j.toNatClampNeg (x &&& 1)) else none) else none := by
  by_cases h1 : inB j (memK m a).2 = true
  · rw [if_pos h1]
    by_cases h2 : (memK m a).1 = 3
    · rw [if_pos h2]
      exact run_step hi rfl rfl (by dsimp only [zStep]; rw [if_pos h1, if_pos h2])
    · rw [if_neg h2]
      by_cases h3 : (memK m a).1 = 4
      · rw [if_pos h3]
        exact run_step hi rfl rfl (by dsimp only [zStep]; rw [if_pos h1, if_neg h2, if_pos h3])
      · rw [if_neg h3]
        exact run_stuck hi rfl rfl (by dsimp only [zStep]; rw [if_pos h1, if_neg h2, if_neg h3])
  · rw [if_neg h1]
    exact run_stuck hi rfl rfl (by dsimp only [zStep]; rw [if_neg h1])
theorem rn_arraylength {a : Nat} (hi : zIns y pc = some (.arraylength, k)) : run d y pc lv (.ref a :: st) m = if 1 ≤ (memK m a).1 ∧ (memK m a).1 ≤ 7 then run d y (pc + 1) lv (.int (Int32.ofNat (memK m a).2) :: st) m else none := by
  split
  · exact run_step hi rfl rfl (if_pos (by assumption))
  · exact run_stuck hi rfl rfl (if_neg (by assumption))
theorem rn_iret {x : Int32} {ty : FieldType} (hi : zIns y pc = some (.ireturn, k)) (ht : zRt y = some ty) (hn : narrow ty (.int x) = .int x) : run d y pc lv [.int x] m = some (some (.int x), m) := run_ret hi (by dsimp only [zFin]; rw [ht]; exact if_pos hn)
theorem rn_lret {x : Int64} (hi : zIns y pc = some (.lreturn, k)) (ht : zRt y = some .long) : run d y pc lv [.long x] m = some (some (.long x), m) := run_ret hi (by dsimp only [zFin]; exact if_pos ht)
theorem rn_vret (hi : zIns y pc = some (.return_, k)) (ht : zRt y = none) : run d y pc lv [] m = some (none, m) := run_ret hi (by dsimp only [zFin]; exact if_pos ht)
/-- a boolean that is returned: 0 or 1 -/
theorem rn_zret {x : Int32} (hi : zIns y pc = some (.ireturn, k)) (ht : zRt y = some .boolean) : run d y pc lv [.int x] m = if x &&& 1 = x then some (some (.int x), m) else none := by
  split
  · rename_i h
    exact rn_iret hi ht (congrArg Value.int h)
  · rename_i h
    apply opt_ext
    intro q
    rw [run_iff]
    constructor
    · intro ⟨n, hn⟩
      cases n with
      | zero => cases hn
      | succ n =>
        rw [zRun] at hn
        have e : zFin y .ireturn [.int x] = none := by
          dsimp only [zFin]
          rw [ht]
          exact if_neg (fun w => h (Value.int.inj w))
        simp only [hi, e] at hn
        cases hn
    · intro w
      cases w
theorem rn_callS {ix z kd n : Nat} {as rest : List Value} (hi : zIns y pc = some (.invokestatic ix, k)) (hc : zCal.lookup (zMc y, ix) = some (kd, z)) (hk : kd = 0 ∨ kd = 3) (hn : zNp z = n) (hl : n ≤ st.length) (hr : st.drop n = rest) (ha : (st.take n).reverse = as) (h8 : (rest.map fun v => v.category).sum ≤ 8) (hm : (as.map fun v => v.category).sum ≤ zML z) : run (d + 1) y pc lv st m = (call d z as m).bind (fun x => run (d + 1) y (pc + 3) lv (x.1.toList ++ rest) x.2) := by
  refine run_call hi rfl ?_
  subst hn
  dsimp only [zCall]
  rw [hc]
  dsimp only
  rw [hr, ha]
  refine if_pos ⟨hk, hl, h8, ?_⟩
  rw [← ha] at hm
  rwa [List.map_reverse, List.sum_reverse] at hm
theorem rn_callV {ix z n a : Nat} {as rest : List Value} (hi : zIns y pc = some (.invokevirtual ix, k)) (hc : zCal.lookup (zMc y, ix) = some (1, z)) (hn : zNp z = n) (hl : n ≤ st.length) (hr : st.drop n = .ref a :: rest) (ha : (st.take n).reverse = as) (h8 : (rest.map fun v => v.category).sum ≤ 8) (hm : (as.map fun v => v.category).sum + 1 ≤ zML z) : run (d + 1) y pc lv st m = if (memK m a).1 = 100 + zMc z then (call d z (.ref a :: as) m).bind (fun x => run (d + 1) y (pc + 3) lv (x.1.toList ++ rest) x.2) else none := by
  subst hn
  have hm' : ((st.take (zNp z)).map fun v => v.category).sum + 1 ≤ zML z := by
    rw [← ha] at hm
    rwa [List.map_reverse, List.sum_reverse] at hm
  split
  · rename_i h
    refine run_call hi rfl ?_
    dsimp only [zCall]
    rw [hc]
    dsimp only
    rw [if_pos ⟨rfl, hl⟩, hr, ha]
    exact if_pos ⟨h, h8, hm'⟩
  · rename_i h
    have e : zCall y (.invokevirtual ix) st m = none := by
      dsimp only [zCall]
      rw [hc]
      dsimp only
      rw [if_pos ⟨rfl, hl⟩, hr]
      exact if_neg (fun q => h q.1)
    refine run_stuck hi rfl e ?_
    dsimp only [zStep]
    split
    · rw [if_neg (by rw [hc]; intro q; cases q.1)]
    · rw [if_neg (by rw [hc]; intro q; cases q.1)]
    · rfl
theorem rn_callI {ix z kd n a : Nat} {as rest : List Value} (hi : zIns y pc = some (.invokespecial ix, k)) (hc : zCal.lookup (zMc y, ix) = some (kd, z)) (hk : kd = 2 ∨ kd = 8) (hn : zNp z = n) (hl : n ≤ st.length) (hr : st.drop n = .ref a :: rest) (ha : (st.take n).reverse = as) (h8 : (rest.map fun v => v.category).sum ≤ 8) (hm : (as.map fun v => v.category).sum + 1 ≤ zML z) (h : (memK m a).1 = 100 + zMc z) : run (d + 1) y pc lv st m = (call d z (.ref a :: as) m).bind (fun x => run (d + 1) y (pc + 3) lv (x.1.toList ++ rest) x.2) := by
  subst hn
  have hm' : ((st.take (zNp z)).map fun v => v.category).sum + 1 ≤ zML z := by
    rw [← ha] at hm
    rwa [List.map_reverse, List.sum_reverse] at hm
  refine run_call hi rfl ?_
  dsimp only [zCall]
  rw [hc]
  dsimp only
  rw [if_pos ⟨hk, hl⟩, hr, ha]
  exact if_pos ⟨h, h8, hm'⟩
theorem rn_static {ix kd z : Nat} (hc : zCal.lookup (zMc y, ix) = some (kd, z)) (hk : ¬ (kd = 0 ∨ kd = 3)) : zCall y (.invokestatic ix) st m = none := by
  dsimp only [zCall]
  rw [hc]
  dsimp only
  exact if_neg (fun q => hk q.1)
theorem rn_max {ix z : Nat} {x w : Int32} (hi : zIns y pc = some (.invokestatic ix, k)) (hc : zCal.lookup (zMc y, ix) = some (9, z)) (h8 : (st.map fun v => v.category).sum ≤ 8) : run (d + 1) y pc lv (.int w :: .int x :: st) m = run (d + 1) y (pc + 3) lv (.int (if x < w then w else x) :: st) m := by
  refine run_step hi rfl (rn_static hc (by decide)) ?_
  dsimp only [zStep]
  rw [hc]
  dsimp only
  rw [if_neg (by decide), if_pos rfl]
  exact if_pos ⟨Nat.le_add_left 1 d, h8⟩
theorem rn_min {ix z : Nat} {x w : Int32} (hi : zIns y pc = some (.invokestatic ix, k)) (hc : zCal.lookup (zMc y, ix) = some (10, z)) (h8 : (st.map fun v => v.category).sum ≤ 8) : run (d + 1) y pc lv (.int w :: .int x :: st) m = run (d + 1) y (pc + 3) lv (.int (if w < x then w else x) :: st) m := by
  refine run_step hi rfl (rn_static hc (by decide)) ?_
  dsimp only [zStep]
  rw [hc]
  dsimp only
  rw [if_neg (by decide), if_neg (by decide), if_pos rfl]
  exact if_pos ⟨Nat.le_add_left 1 d, h8⟩
theorem rn_abs {ix z : Nat} {x : Int64} (hi : zIns y pc = some (.invokestatic ix, k)) (hc : zCal.lookup (zMc y, ix) = some (11, z)) (h8 : (st.map fun v => v.category).sum ≤ 8) : run (d + 1) y pc lv (.long x :: st) m = run (d + 1) y (pc + 3) lv (.long (if 0 < x then x else -x) :: st) m := by
  refine run_step hi rfl (rn_static hc (by decide)) ?_
  dsimp only [zStep]
  rw [hc]
  dsimp only
  rw [if_neg (by decide), if_neg (by decide), if_neg (by decide), if_pos rfl]
  exact if_pos ⟨Nat.le_add_left 1 d, h8⟩
/-- System.arraycopy of ints, of longs -/
theorem rn_copyI {ix z a b : Nat} {sp dp n : Int32} (hi : zIns y pc = some (.invokestatic ix, k)) (hc : zCal.lookup (zMc y, ix) = some (5, z)) (h8 : (st.map fun v => v.category).sum ≤ 8) (hs : ¬ sp < 0 ∧ ¬ dp < 0 ∧ ¬ n < 0) (ha : sp.toNatClampNeg + n.toNatClampNeg ≤ (memK m a).2) (hb : dp.toNatClampNeg + n.toNatClampNeg ≤ (memK m b).2) (hka : (memK m a).1 = 1) (hkb : (memK m b).1 = 1) : run (d + 1) y pc lv (.int n :: .int dp :: .ref b :: .int sp :: .ref a :: st) m = run (d + 1) y (pc + 3) lv st (rowI m b (va_cpy (memI m a) (memI m b) sp.toNatClampNeg dp.toNatClampNeg n.toNatClampNeg)) := by
  refine run_step hi rfl (rn_static hc (by decide)) ?_
  dsimp only [zStep]
  rw [hc]
  dsimp only
  rw [if_pos rfl, if_pos ⟨Nat.le_add_left 1 d, h8, hs, ha, hb⟩]
  exact if_pos ⟨hka, hkb⟩
theorem rn_copyL {ix z a b : Nat} {sp dp n : Int32} (hi : zIns y pc = some (.invokestatic ix, k)) (hc : zCal.lookup (zMc y, ix) = some (5, z)) (h8 : (st.map fun v => v.category).sum ≤ 8) (hs : ¬ sp < 0 ∧ ¬ dp < 0 ∧ ¬ n < 0) (ha : sp.toNatClampNeg + n.toNatClampNeg ≤ (memK m a).2) (hb : dp.toNatClampNeg + n.toNatClampNeg ≤ (memK m b).2) (hka : (memK m a).1 = 2) (hkb : (memK m b).1 = 2) : run (d + 1) y pc lv (.int n :: .int dp :: .ref b :: .int sp :: .ref a :: st) m = run (d + 1) y (pc + 3) lv st (rowL m b (va_cpy (memL m a) (memL m b) sp.toNatClampNeg dp.toNatClampNeg n.toNatClampNeg)) := by
  refine run_step hi rfl (rn_static hc (by decide)) ?_
  dsimp only [zStep]
  rw [hc]
  dsimp only
  rw [if_pos rfl, if_pos ⟨Nat.le_add_left 1 d, h8, hs, ha, hb⟩, if_neg (by rw [hka]; intro q; cases q.1)]
  exact if_pos ⟨hka, hkb⟩
end RN
theorem cnd_if {α : Type} {b : Bool} {P : Prop} [Decidable P] {x y : α} (h : b = true ↔ P) : (if b = true then x else y) = if P then x else y := by
  by_cases hp : P
  · rw [if_pos hp, if_pos (h.mpr hp)]
  · rw [if_neg hp, if_neg (fun q => hp (h.mp q))]
theorem lvO_u {lv : zLV} {i : Nat} {v : Value} (h : v.category ≠ 2) (hv : lv[i]? = some v := by rfl) : lvO lv (i + 1) = true := by
  unfold lvO
  rw [Nat.add_sub_cancel, hv]
  simp [h]
theorem rn_look {d y pc k : Nat} {lv : zLV} {st : List Value} {m : zMem} {dflt off : Int} {ps : Array (Int × Int)} {tgt : Nat} {x : Int32} (hi : zIns y pc = some (.lookupswitch dflt ps, k)) (hp : (ps.toList.zip (ps.toList.drop 1)).all (fun (a, next) => a.1 < next.1) = true) (hx : Op.lookupswitch.offset ps.toList dflt x.toInt = off) (ht : (pc : Int) + off = (tgt : Int)) : run d y pc lv (.int x :: st) m = run d y tgt lv st m := run_step hi rfl rfl (by
  dsimp only [zStep]
  rw [if_pos hp, hx]
  dsimp only [zGoto]
  rw [ht, if_pos (by omega)]
  simp)
