/-! THE PURE MACHINE IS SOUND, part 3: System.arraycopy; every step -/
section ZS3
variable {p : Program} {l : Launch} {e : Env} {R : Room} {s : State} {mth : MethodId} {args : Array Value} {below : List Frame} {meth : Method} {c : Code} {cells slots : Nat} {Q : State → Prop} {G : zG} {H0 : Heap} {cc : ByteArray}
variable {nL pc : Nat} {lv : zLV} {st : List Value} {m : zMem}
theorem z_nn (z : Int32) (hz : ¬ z < 0) : z.toInt = (z.toNatClampNeg : Int) := by
  have hz0 : (0 : Int) ≤ z.toInt := by
    have := Int32.not_lt.mp hz
    simpa using Int32.le_iff_toInt_le.mp this
  show z.toInt = ((z.toInt.toNat : Nat) : Int)
  omega
theorem zs_copyI (hx : p.tables.exec = Jvm.exec) (hb : c.code = cc) (hml : c.maxLocals = nL) (hT : zTab G s) {own : String} {ix a b : Nat} {sp dp n : Int32} (hown : s.vm.findClass own = some mth.cls) (hlink : (Jvm.Cond.methodLink own ix arraycopyName).before args s = true) (hnat : (Jvm.Cond.native arraycopyName).before args s = true) (hstat : (Jvm.Cond.static arraycopyName).before args s = true) (hini : (Jvm.Cond.initialized "java/lang/System").before args s = true)
    (hka : (memK m a).1 = 1) (hkb : (memK m b).1 = 1) (h1 : ¬ sp < 0) (h2 : ¬ dp < 0) (h3 : ¬ n < 0) (h4 : sp.toNatClampNeg + n.toNatClampNeg ≤ (memK m a).2) (h5 : dp.toNatClampNeg + n.toNatClampNeg ≤ (memK m b).2) (hsum : (st.map fun v => v.category).sum ≤ 8) (hfr : 1 ≤ R.frames) (hlo : 40 ≤ R.locals) (hd : decode cc pc = .ok (.invokestatic ix, 3))
    (kk : zGo p l e R s mth args below meth c Q G H0 nL cells slots (pc + 3) lv st (rowI m b (va_cpy (memI m a) (memI m b) sp.toNatClampNeg dp.toNatClampNeg n.toNatClampNeg))) : zGo p l e R s mth args below meth c Q G H0 nL cells slots pc lv (.int n :: .int dp :: .ref b :: .int sp :: .ref a :: st) m := by
  intro ls H locs hS hl
  generalize hn0 : (memK m a).2 = n0 at h4
  generalize hn1 : (memK m b).2 = n1 at h5
  have hc0 : H[G.1 + a]? = some (arrV (G.2.2.2.2 1) n0 (fun j => .int (memI m a j))) := by rw [← hn0]; exact (hS.arr hka (by decide) (by decide)).2
  have hc1 : H[G.1 + b]? = some (arrV (G.2.2.2.2 1) n1 (fun j => .int (memI m b j))) := by rw [← hn1]; exact (hS.arr hkb (by decide) (by decide)).2
  intro T hT' X
  obtain ⟨-, k0, hk0, cm0, hkk0⟩ := (hT.2.1 1 (by decide) (by decide)).1 n0 (fun j => .int (memI m a j))
  obtain ⟨-, k1, hk1, cm1, hkk1⟩ := (hT.2.1 1 (by decide) (by decide)).1 n1 (fun j => .int (memI m b j))
  obtain ⟨vm', X', step⟩ := X.arraycopy hx hown hlink hnat hstat hini (src := G.1 + a) (dst := G.1 + b) (cs := arrV (G.2.2.2.2 1) n0 (fun j => .int (memI m a j))) (cd := arrV (G.2.2.2.2 1) n1 (fun j => .int (memI m b j))) (srcPos := sp) (destPos := dp) (n := n) (by rw [hT']; exact hc0) (by rw [hT']; exact hc1)
    (fun _ h => by cases h) (fun _ h => by cases h) (fun h => by cases h) (fun h => by cases h) hk0 hk1 hkk0 hkk1 (by simp [zATy, refKind]) h1 h2 h3
    (by rw [z_nn sp h1, z_nn n h3, arrV_size]; omega)
    (by rw [z_nn dp h2, z_nn n h3, arrV_size]; omega)
    (fun vm₁ _ i hi => by
      have e9 : (arrV (G.2.2.2.2 1) n0 (fun j => .int (memI m a j))).slots.getD (sp.toNatClampNeg + i) .null = .int (memI m a (sp.toNatClampNeg + i)) := by
        rw [Array.getD_eq_getD_getElem?, arrV_read _ _ (by omega)]
        rfl
      refine ⟨?_, ?_⟩
      · rw [e9]
        rfl
      · rw [e9]
        exact trivial)
    (g := F0 mth pc ls (.int n :: .int dp :: .ref (G.1 + b) :: .int sp :: .ref (G.1 + a) :: st.map (cvV G))) rfl (by rw [hml]; exact hl.1) (rest := st.map (cvV G)) rfl (by rw [hb]; exact hd) hfr (by
      have e9 := cvV_sum G st
      have e8 : nativeFrameWords "java/lang/System" "arraycopy" 5 ≤ 20 := by decide +kernel
      show 2 * 0 + ((st.map (cvV G)).map fun v => v.category).sum + _ ≤ _
      omega)
  have e1 : copied (arrV (G.2.2.2.2 1) n0 (fun j => .int (memI m a j))) (arrV (G.2.2.2.2 1) n1 (fun j => .int (memI m b j))) sp dp n = arrV (G.2.2.2.2 1) n1 (fun j => .int (va_cpy (memI m a) (memI m b) sp.toNatClampNeg dp.toNatClampNeg n.toNatClampNeg j)) := va_copied (fun z => .int z) (G.2.2.2.2 1) (G.2.2.2.2 1) (memI m a) (memI m b) h4
  rw [e1] at X' step
  generalize hg : va_cpy (memI m a) (memI m b) sp.toNatClampNeg dp.toNatClampNeg n.toNatClampNeg = g at kk X' step
  have hlt : G.1 + b < H.size := (Array.getElem?_eq_some_iff.mp hc1).1
  have hheap : ((T.setVm vm').setCell (G.1 + b) (arrV (G.2.2.2.2 1) n1 (fun j => .int (g j)))).heap = H.setIfInBounds (G.1 + b) (arrV (G.2.2.2.2 1) n1 (fun j => .int (g j))) := by rw [← hT']; rfl
  obtain ⟨t, a1, b1⟩ := kk ls _ _ (hS.put' (m' := rowI m b g) (zBut_rI m b g) (Array.size_setIfInBounds ..) (fun q hq => by simp [Array.getElem?_setIfInBounds, Ne.symm hq]) (Or.inl (by
      have eK : memK (rowI m b g) b = memK m b := rfl
      rw [eK, hkb, hn1]
      refine ⟨by decide, by decide, ?_⟩
      have e2 : (fun j => cvV G (arrE (rowI m b g) 1 b j)) = fun j => Value.int (g j) := by
        funext j
        exact congrArg Value.int (show u1 _ b g b j = g j from if_pos rfl)
      rw [e2]
      simp [Array.getElem?_setIfInBounds, hlt])) (fun q hq => by
      rcases List.mem_append.mp hq with h | h
      · exact hS.2.2.2.2 q h
      · obtain ⟨z, -, hz⟩ := List.mem_map.mp h
        rw [← hz]
        exact Nat.le_add_right _ _)) hl _ hheap X'
  exact ⟨t, step t a1, b1⟩
theorem zs_copyL (hx : p.tables.exec = Jvm.exec) (hb : c.code = cc) (hml : c.maxLocals = nL) (hT : zTab G s) {own : String} {ix a b : Nat} {sp dp n : Int32} (hown : s.vm.findClass own = some mth.cls) (hlink : (Jvm.Cond.methodLink own ix arraycopyName).before args s = true) (hnat : (Jvm.Cond.native arraycopyName).before args s = true) (hstat : (Jvm.Cond.static arraycopyName).before args s = true) (hini : (Jvm.Cond.initialized "java/lang/System").before args s = true)
    (hka : (memK m a).1 = 2) (hkb : (memK m b).1 = 2) (h1 : ¬ sp < 0) (h2 : ¬ dp < 0) (h3 : ¬ n < 0) (h4 : sp.toNatClampNeg + n.toNatClampNeg ≤ (memK m a).2) (h5 : dp.toNatClampNeg + n.toNatClampNeg ≤ (memK m b).2) (hsum : (st.map fun v => v.category).sum ≤ 8) (hfr : 1 ≤ R.frames) (hlo : 40 ≤ R.locals) (hd : decode cc pc = .ok (.invokestatic ix, 3))
    (kk : zGo p l e R s mth args below meth c Q G H0 nL cells slots (pc + 3) lv st (rowL m b (va_cpy (memL m a) (memL m b) sp.toNatClampNeg dp.toNatClampNeg n.toNatClampNeg))) : zGo p l e R s mth args below meth c Q G H0 nL cells slots pc lv (.int n :: .int dp :: .ref b :: .int sp :: .ref a :: st) m := by
  intro ls H locs hS hl
  generalize hn0 : (memK m a).2 = n0 at h4
  generalize hn1 : (memK m b).2 = n1 at h5
  have hc0 : H[G.1 + a]? = some (arrV (G.2.2.2.2 2) n0 (fun j => .long (memL m a j))) := by rw [← hn0]; exact (hS.arr hka (by decide) (by decide)).2
  have hc1 : H[G.1 + b]? = some (arrV (G.2.2.2.2 2) n1 (fun j => .long (memL m b j))) := by rw [← hn1]; exact (hS.arr hkb (by decide) (by decide)).2
  intro T hT' X
  obtain ⟨-, k0, hk0, cm0, hkk0⟩ := (hT.2.1 2 (by decide) (by decide)).1 n0 (fun j => .long (memL m a j))
  obtain ⟨-, k1, hk1, cm1, hkk1⟩ := (hT.2.1 2 (by decide) (by decide)).1 n1 (fun j => .long (memL m b j))
  obtain ⟨vm', X', step⟩ := X.arraycopy hx hown hlink hnat hstat hini (src := G.1 + a) (dst := G.1 + b) (cs := arrV (G.2.2.2.2 2) n0 (fun j => .long (memL m a j))) (cd := arrV (G.2.2.2.2 2) n1 (fun j => .long (memL m b j))) (srcPos := sp) (destPos := dp) (n := n) (by rw [hT']; exact hc0) (by rw [hT']; exact hc1)
    (fun _ h => by cases h) (fun _ h => by cases h) (fun h => by cases h) (fun h => by cases h) hk0 hk1 hkk0 hkk1 (by simp [zATy, refKind]) h1 h2 h3
    (by rw [z_nn sp h1, z_nn n h3, arrV_size]; omega)
    (by rw [z_nn dp h2, z_nn n h3, arrV_size]; omega)
    (fun vm₁ _ i hi => by
      have e9 : (arrV (G.2.2.2.2 2) n0 (fun j => .long (memL m a j))).slots.getD (sp.toNatClampNeg + i) .null = .long (memL m a (sp.toNatClampNeg + i)) := by
        rw [Array.getD_eq_getD_getElem?, arrV_read _ _ (by omega)]
        rfl
      refine ⟨?_, ?_⟩
      · rw [e9]
        rfl
      · rw [e9]
        exact trivial)
    (g := F0 mth pc ls (.int n :: .int dp :: .ref (G.1 + b) :: .int sp :: .ref (G.1 + a) :: st.map (cvV G))) rfl (by rw [hml]; exact hl.1) (rest := st.map (cvV G)) rfl (by rw [hb]; exact hd) hfr (by
      have e9 := cvV_sum G st
      have e8 : nativeFrameWords "java/lang/System" "arraycopy" 5 ≤ 20 := by decide +kernel
      show 2 * 0 + ((st.map (cvV G)).map fun v => v.category).sum + _ ≤ _
      omega)
  have e1 : copied (arrV (G.2.2.2.2 2) n0 (fun j => .long (memL m a j))) (arrV (G.2.2.2.2 2) n1 (fun j => .long (memL m b j))) sp dp n = arrV (G.2.2.2.2 2) n1 (fun j => .long (va_cpy (memL m a) (memL m b) sp.toNatClampNeg dp.toNatClampNeg n.toNatClampNeg j)) := va_copied (fun z => .long z) (G.2.2.2.2 2) (G.2.2.2.2 2) (memL m a) (memL m b) h4
  rw [e1] at X' step
  generalize hg : va_cpy (memL m a) (memL m b) sp.toNatClampNeg dp.toNatClampNeg n.toNatClampNeg = g at kk X' step
  have hlt : G.1 + b < H.size := (Array.getElem?_eq_some_iff.mp hc1).1
  have hheap : ((T.setVm vm').setCell (G.1 + b) (arrV (G.2.2.2.2 2) n1 (fun j => .long (g j)))).heap = H.setIfInBounds (G.1 + b) (arrV (G.2.2.2.2 2) n1 (fun j => .long (g j))) := by rw [← hT']; rfl
  obtain ⟨t, a1, b1⟩ := kk ls _ _ (hS.put' (m' := rowL m b g) (zBut_rL m b g) (Array.size_setIfInBounds ..) (fun q hq => by simp [Array.getElem?_setIfInBounds, Ne.symm hq]) (Or.inl (by
      have eK : memK (rowL m b g) b = memK m b := rfl
      rw [eK, hkb, hn1]
      refine ⟨by decide, by decide, ?_⟩
      have e2 : (fun j => cvV G (arrE (rowL m b g) 2 b j)) = fun j => Value.long (g j) := by
        funext j
        exact congrArg Value.long (show u1 _ b g b j = g j from if_pos rfl)
      rw [e2]
      simp [Array.getElem?_setIfInBounds, hlt])) (fun q hq => by
      rcases List.mem_append.mp hq with h | h
      · exact hS.2.2.2.2 q h
      · obtain ⟨z, -, hz⟩ := List.mem_map.mp h
        rw [← hz]
        exact Nat.le_add_right _ _)) hl _ hheap X'
  exact ⟨t, step t a1, b1⟩
end ZS3
