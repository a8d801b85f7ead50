/-! THE PURE MACHINE IS SOUND, part 2: fields, arrays, new cells -/
section ZS2
variable {p : Program} {l : Launch} {e : Env} {R : Room} {s : State} {mth : MethodId} {args : Array Value} {below : List Frame} {meth : Method} {c : Code} {cells slots : Nat} {Q : State → Prop} {G : zG} {H0 : Heap} {cc : ByteArray}
variable {nL pc : Nat} {lv : zLV} {st : List Value} {m : zMem}
theorem zs_getfield (hx : p.tables.exec = Jvm.exec) (hb : c.code = cc) (hT : zTab G s) (hw : ∀ w ∈ zTw, w.before args s = true) {o ix cl k a : Nat} (hown : s.vm.findClass (zCn o) = some mth.cls) (hf : ((o, ix), (cl, k)) ∈ zFld) (hk : (memK m a).1 = 100 + cl) (hd : decode cc pc = .ok (.getfield ix, 3))
    (kk : zGo p l e R s mth args below meth c Q G H0 nL cells slots (pc + 3) lv (fldV m cl a k :: st) m) : zGo p l e R s mth args below meth c Q G H0 nL cells slots pc lv (.ref a :: st) m := by
  intro ls H locs hS hl
  obtain ⟨h13, ha, cell, q1, q2, q3, q4⟩ := hS.obj hk
  obtain ⟨-, hkN, hlk⟩ := zw_fld hf
  obtain ⟨hSl, hfc, kC, hkC, hkind⟩ := hT.1 cl h13
  obtain ⟨cf, kf, fi, f, hi, hsl⟩ := hSl k hkN
  have hi' : s.fieldFound? (zCn cl) (zU cl k).2.1 (zU cl k).2.2.1 = some (cf, kf, fi, f) := by rw [← (zf_ty h13 hkN).2.1]; exact hi
  exact W.getf hx hb hown (hw _ hlk) hi' (u_facts hfc hkC (u_lays hw (zw_lay h13) hkN) hi).1 q1 (by rw [q3]; exact fun h => by cases h) (v := cvV G (fldV m cl a k)) (by rw [hsl, q4 k hkN]) rfl rfl hd (kk ls H locs hS hl)
theorem z_apart (hT : zTab G s) (hw : ∀ w ∈ zTw, w.before args s = true) {cl : Nat} (h13 : cl < 13) : ∀ x y, x < zN cl → y < zN cl → x ≠ y → G.2.2.2.1 cl x ≠ G.2.2.2.1 cl y := by
  intro x y hx hy hne
  obtain ⟨hSl, -⟩ := hT.1 cl h13
  obtain ⟨_, _, _, fa, hia, ea⟩ := hSl x hx
  obtain ⟨_, _, _, fb, hib, eb⟩ := hSl y hy
  rw [← ea, ← eb]
  refine u_apart (u_lays hw (zw_lay h13) hx) (u_lays hw (zw_lay h13) hy) hia hib ?_
  rw [(State.fieldFound?_type hia (zf_ty h13 hx).1).1, (State.fieldFound?_type hib (zf_ty h13 hy).1).1]
  exact (zf_ty h13 hy).2.2 x hx hne
theorem u2_s {α : Type} (f : Nat → Nat → α) (a k : Nat) (v : α) : u2 f a k v a k = v := if_pos ⟨rfl, rfl⟩
theorem u2_n {α : Type} (f : Nat → Nat → α) (a k : Nat) (v : α) {j : Nat} (h : j ≠ k) : u2 f a k v a j = f a j := if_neg fun q => h q.2
theorem zPut_spec (G : zG) {m m' : zMem} {cl a k : Nat} {v : Value} (h : zPut m cl a k v = some m') : zBut m m' a ∧ narrow (zTy cl k) (cvV G v) = cvV G v ∧ fits (zTy cl k) (cvV G v) = true ∧ fldV m' cl a k = v ∧ ∀ j, j ≠ k → fldV m' cl a j = fldV m cl a j := by
  have nI' : ∀ x j, j ≠ k → fldV (setI m a k x) cl a j = fldV m cl a j := fun x j hj => by
    unfold fldV
    have e1 : memI (setI m a k x) a j = memI m a j := u2_n _ _ _ _ hj
    rw [e1]
    rfl
  have nL' : ∀ x j, j ≠ k → fldV (setL m a k x) cl a j = fldV m cl a j := fun x j hj => by
    unfold fldV
    have e1 : memL (setL m a k x) a j = memL m a j := u2_n _ _ _ _ hj
    rw [e1]
    rfl
  have nR' : ∀ x j, j ≠ k → fldV (setR m a k x) cl a j = fldV m cl a j := fun x j hj => by
    unfold fldV
    have e1 : memR (setR m a k x) a j = memR m a j := u2_n _ _ _ _ hj
    rw [e1]
    rfl
  unfold zPut at h
  split at h
  · rename_i x hty
    cases h
    refine ⟨zBut_L m a k x, by rw [hty]; rfl, by rw [hty]; rfl, ?_, nL' x⟩
    unfold fldV
    rw [hty]
    exact congrArg Value.long (u2_s _ _ _ _)
  · rename_i C b hty
    cases h
    refine ⟨zBut_R m a k _, by rw [hty]; rfl, by rw [hty]; rfl, ?_, nR' _⟩
    unfold fldV
    rw [hty]
    exact congrArg va_rf (u2_s (memR m) a k (some b))
  · rename_i C b hty
    cases h
    refine ⟨zBut_R m a k _, by rw [hty]; rfl, by rw [hty]; rfl, ?_, nR' _⟩
    unfold fldV
    rw [hty]
    exact congrArg va_rf (u2_s (memR m) a k (some b))
  · rename_i x hty
    cases h
    refine ⟨zBut_I m a k x, by rw [hty]; rfl, by rw [hty]; rfl, ?_, nI' x⟩
    unfold fldV
    rw [hty]
    exact congrArg Value.int (u2_s _ _ _ _)
  · rename_i x hty
    split at h
    · rename_i h01
      cases h
      refine ⟨zBut_I m a k x, ?_, ?_, ?_, nI' x⟩
      · rw [hty]
        rcases h01 with rfl | rfl <;> rfl
      · rw [hty]
        rcases h01 with rfl | rfl <;> rfl
      · unfold fldV
        rw [hty]
        exact congrArg Value.int (u2_s _ _ _ _)
    · cases h
  · cases h
theorem zs_putfield (hx : p.tables.exec = Jvm.exec) (hb : c.code = cc) (hT : zTab G s) (hw : ∀ w ∈ zTw, w.before args s = true) {o ix cl k a : Nat} (hown : s.vm.findClass (zCn o) = some mth.cls) (hf : ((o, ix), (cl, k)) ∈ zFld) (hk : (memK m a).1 = 100 + cl) {v : Value} {m' : zMem} (hp : zPut m cl a k v = some m')
    (hfin : (zU cl k).2.2.2 = false ∨ (meth.name = "<init>" ∧ o = cl)) (hd : decode cc pc = .ok (.putfield ix, 3))
    (kk : zGo p l e R s mth args below meth c Q G H0 nL cells slots (pc + 3) lv st m') : zGo p l e R s mth args below meth c Q G H0 nL cells slots pc lv (v :: .ref a :: st) m := by
  intro ls H locs hS hl
  obtain ⟨h13, ha, cell, q1, q2, q3, q4⟩ := hS.obj hk
  obtain ⟨-, hkN, hlk⟩ := zw_fld hf
  obtain ⟨hSl, hfc, kC, hkC, hkind⟩ := hT.1 cl h13
  obtain ⟨cf, kf, fi, f, hi, hsl⟩ := hSl k hkN
  have hdc := (zf_ty h13 hkN).2.1
  have hi' : s.fieldFound? (zCn cl) (zU cl k).2.1 (zU cl k).2.2.1 = some (cf, kf, fi, f) := by rw [← hdc]; exact hi
  have hap := z_apart hT hw h13
  have hst := (u_facts hfc hkC (u_lays hw (zw_lay h13) hkN) hi).1
  obtain ⟨hbut, hn, hfit, e5, e6⟩ := zPut_spec G hp
  have hlay := hw _ (zw_lay h13 _ (u_in_lay hkN))
  unfold u_lay at hlay
  have fin : ∀ H' : Heap, H'[G.1 + a]? = some (cell.setSlot (G.2.2.2.1 cl k) (cvV G v)) → H'.size = H.size → (∀ q, q ≠ G.1 + a → H'[q]? = H[q]?) → W p l e R s mth args below meth c H' (locs ++ [⟨G.1 + a, G.2.2.2.1 cl k⟩]) cells slots Q (F0 mth (pc + 3) ls (st.map (cvV G))) := by
    intro H' e1 e2 e3
    refine kk ls H' _ (hS.put hbut e2 e3 (Or.inr ⟨cl, by rw [hbut.1]; exact hk, h13, t_OB.to (V := updV (fun j => cvV G (fldV m cl a j)) k (cvV G v)) ⟨_, e1, q2, q3, t_set q4 hap hkN (cvV G v)⟩ (fun j _ => ?_)⟩)) hl
    unfold updV
    by_cases ej : j = k
    · subst ej
      rw [if_pos rfl, e5]
    · rw [if_neg ej, e6 j ej]
  by_cases hff : (zU cl k).2.2.2 = true
  · rcases hfin with h0 | ⟨hin, ho⟩
    · rw [hff] at h0
      cases h0
    · rw [if_pos hff] at hlay
      have hcf : mth.cls = cf := by
        obtain ⟨_, _, c', _, _, _, -, -, hf', -, -, -, hown2, -⟩ := Cond.laysFinal_spec hlay
        have e1 : c' = cf := by have := hi.symm.trans hf'; simp at this; exact this.1.symm
        rw [hdc] at hown2
        subst ho
        rw [← e1]; exact Option.some.inj (hown.symm.trans hown2)
      have h6 := u_fits hfc hkC hkind (Or.inr hlay) hi (zf_ty h13 hkN).1 hn hfit
      refine W.putFinK hx hb hown (hw _ hlk) hi' hst hcf hin (by rw [q2]; exact h6) q1 q3 (by rw [hsl]; exact k2_hasslot (q4 k hkN)) rfl rfl hd fun H' e1 e2 e3 => ?_
      rw [hsl] at e1 ⊢
      exact fin H' e1 e2 e3
  · rw [if_neg hff] at hlay
    have h6 := u_store hfc hkC hkind hlay hi (zf_ty h13 hkN).1 hn hfit
    refine W.putK hx hb (f := f) ⟨hown, hw _ hlk, ⟨_, _, _, hi'⟩, hst⟩ (by rw [q2]; exact h6) q1 q3 (by rw [hsl]; exact k2_hasslot (q4 k hkN)) rfl rfl hd fun H' e1 e2 e3 => ?_
    rw [hsl] at e1 ⊢
    exact fin H' e1 e2 e3
theorem inB_out {i : Int32} {n : Nat} (h : inB i n = true) : ¬ (i < 0 ∨ n ≤ i.toNatClampNeg) := by
  unfold inB at h
  exact of_decide_eq_true h
theorem inB_lt {i : Int32} {n : Nat} (h : inB i n = true) : i.toNatClampNeg < n := Nat.not_le.mp fun q => inB_out h (Or.inr q)
theorem zs_iaload (hx : p.tables.exec = Jvm.exec) (hb : c.code = cc) (hT : zTab G s) {a : Nat} {j : Int32} (hk : (memK m a).1 = 1) (hj : inB j (memK m a).2 = true) (hd : decode cc pc = .ok (.iaload, 1))
    (kk : zGo p l e R s mth args below meth c Q G H0 nL cells slots (pc + 1) lv (.int (memI m a j.toNatClampNeg) :: st) m) : zGo p l e R s mth args below meth c Q G H0 nL cells slots pc lv (.int j :: .ref a :: st) m := by
  intro ls H locs hS hl
  obtain ⟨ha, q1⟩ := hS.arr hk (by decide) (by decide)
  exact W.iald (v := cvV G (.int (memI m a j.toNatClampNeg))) hx hb q1 ((hT.2.1 1 (by decide) (by decide)).1 _ _) (fun q => by cases q) (by rw [arrV_size]; exact inB_out hj) (by rw [arrV_read _ _ (inB_lt hj)]; rfl) rfl rfl hd (kk ls H locs hS hl)
theorem zs_baloadB (hx : p.tables.exec = Jvm.exec) (hb : c.code = cc) (hT : zTab G s) {a : Nat} {j : Int32} (hk : (memK m a).1 = 3) (hj : inB j (memK m a).2 = true) (hd : decode cc pc = .ok (.baload, 1))
    (kk : zGo p l e R s mth args below meth c Q G H0 nL cells slots (pc + 1) lv (.int (memI m a j.toNatClampNeg) :: st) m) : zGo p l e R s mth args below meth c Q G H0 nL cells slots pc lv (.int j :: .ref a :: st) m := by
  intro ls H locs hS hl
  obtain ⟨ha, q1⟩ := hS.arr hk (by decide) (by decide)
  exact W.bald (v := cvV G (.int (memI m a j.toNatClampNeg))) hx hb q1 ((hT.2.1 3 (by decide) (by decide)).1 _ _) (fun q => by cases q) (by rw [arrV_size]; exact inB_out hj) (by rw [arrV_read _ _ (inB_lt hj)]; rfl) rfl rfl hd (kk ls H locs hS hl)
theorem zs_baloadZ (hx : p.tables.exec = Jvm.exec) (hb : c.code = cc) (hT : zTab G s) {a : Nat} {j : Int32} (hk : (memK m a).1 = 4) (hj : inB j (memK m a).2 = true) (hd : decode cc pc = .ok (.baload, 1))
    (kk : zGo p l e R s mth args below meth c Q G H0 nL cells slots (pc + 1) lv (.int (memI m a j.toNatClampNeg) :: st) m) : zGo p l e R s mth args below meth c Q G H0 nL cells slots pc lv (.int j :: .ref a :: st) m := by
  intro ls H locs hS hl
  obtain ⟨ha, q1⟩ := hS.arr hk (by decide) (by decide)
  exact W.zald (v := cvV G (.int (memI m a j.toNatClampNeg))) hx hb q1 ((hT.2.1 4 (by decide) (by decide)).1 _ _) (fun q => by cases q) (by rw [arrV_size]; exact inB_out hj) (by rw [arrV_read _ _ (inB_lt hj)]; rfl) rfl rfl hd (kk ls H locs hS hl)
theorem zs_laload (hx : p.tables.exec = Jvm.exec) (hb : c.code = cc) (hT : zTab G s) {a : Nat} {j : Int32} (hk : (memK m a).1 = 2) (hj : inB j (memK m a).2 = true) (hd : decode cc pc = .ok (.laload, 1))
    (kk : zGo p l e R s mth args below meth c Q G H0 nL cells slots (pc + 1) lv (.long (memL m a j.toNatClampNeg) :: st) m) : zGo p l e R s mth args below meth c Q G H0 nL cells slots pc lv (.int j :: .ref a :: st) m := by
  intro ls H locs hS hl
  obtain ⟨ha, q1⟩ := hS.arr hk (by decide) (by decide)
  exact W.lald (v := cvV G (.long (memL m a j.toNatClampNeg))) hx hb q1 ((hT.2.1 2 (by decide) (by decide)).1 _ _) (fun q => by cases q) (by rw [arrV_size]; exact inB_out hj) (by rw [arrV_read _ _ (inB_lt hj)]; rfl) rfl rfl hd (kk ls H locs hS hl)
theorem zs_aaload (hx : p.tables.exec = Jvm.exec) (hb : c.code = cc) (hT : zTab G s) {a : Nat} {j : Int32} (h5 : 5 ≤ (memK m a).1) (h7 : (memK m a).1 ≤ 7) (hj : inB j (memK m a).2 = true) (hd : decode cc pc = .ok (.aaload, 1))
    (kk : zGo p l e R s mth args below meth c Q G H0 nL cells slots (pc + 1) lv (va_rf (memR m a j.toNatClampNeg) :: st) m) : zGo p l e R s mth args below meth c Q G H0 nL cells slots pc lv (.int j :: .ref a :: st) m := by
  intro ls H locs hS hl
  obtain ⟨ha, q1⟩ := hS.arr rfl (by omega) h7
  refine W.aald (v := cvV G (va_rf (memR m a j.toNatClampNeg))) (ty := zATy (memK m a).1) hx hb q1 ((hT.2.1 _ (by omega) h7).1 _ _) ?_ (fun q => by cases q) (by rw [arrV_size]; exact inB_out hj) (by rw [arrV_read _ _ (inB_lt hj)]; unfold arrE; rw [if_neg (by omega), if_pos h5]) rfl rfl hd (kk ls H locs hS hl)
  have h567 : (memK m a).1 = 5 ∨ (memK m a).1 = 6 ∨ (memK m a).1 = 7 := by omega
  rcases h567 with h | h | h <;> rw [h] <;> rfl
theorem zs_arraylength (hx : p.tables.exec = Jvm.exec) (hb : c.code = cc) (hT : zTab G s) {a : Nat} (h1 : 1 ≤ (memK m a).1) (h7 : (memK m a).1 ≤ 7) (hd : decode cc pc = .ok (.arraylength, 1))
    (kk : zGo p l e R s mth args below meth c Q G H0 nL cells slots (pc + 1) lv (.int (Int32.ofNat (memK m a).2) :: st) m) : zGo p l e R s mth args below meth c Q G H0 nL cells slots pc lv (.ref a :: st) m := by
  intro ls H locs hS hl
  obtain ⟨ha, q1⟩ := hS.arr rfl h1 h7
  exact W.alen (n := Int32.ofNat (memK m a).2) hx hb q1 ((hT.2.1 _ h1 h7).1 _ _) (by rw [arrV_size]) rfl rfl hd (kk ls H locs hS hl)
theorem z_arr_set {t a k n : Nat} {m m' : zMem} {v : Value} (cA : ClassId) (e1 : arrE m' t a k = v) (e2 : ∀ j, j ≠ k → arrE m' t a j = arrE m t a j) : (arrV cA n (fun j => cvV G (arrE m t a j))).setSlot k (cvV G v) = arrV cA n (fun j => cvV G (arrE m' t a j)) := by
  rw [arrV_store]
  congr 1
  funext j
  unfold updV
  by_cases ej : j = k
  · subst ej
    rw [if_pos rfl, e1]
  · rw [if_neg ej, e2 j ej]
theorem arrE_I {t : Nat} (h2 : t ≠ 2) (h5 : t < 5) (a k : Nat) (x : Int32) : arrE (setI m a k x) t a k = .int x ∧ ∀ j, j ≠ k → arrE (setI m a k x) t a j = arrE m t a j := by
  unfold arrE
  refine ⟨?_, fun j hj => ?_⟩
  · rw [if_neg h2, if_neg (by omega)]
    exact congrArg Value.int (u2_s _ _ _ _)
  · rw [if_neg h2, if_neg (by omega), if_neg h2, if_neg (by omega)]
    exact congrArg Value.int (u2_n _ _ _ _ hj)
theorem zs_iastore (hx : p.tables.exec = Jvm.exec) (hb : c.code = cc) (hT : zTab G s) {a : Nat} {j x : Int32} (hk : (memK m a).1 = 1) (hj : inB j (memK m a).2 = true) (hd : decode cc pc = .ok (.iastore, 1))
    (kk : zGo p l e R s mth args below meth c Q G H0 nL cells slots (pc + 1) lv st (setI m a j.toNatClampNeg x)) : zGo p l e R s mth args below meth c Q G H0 nL cells slots pc lv (.int x :: .int j :: .ref a :: st) m := by
  intro ls H locs hS hl
  obtain ⟨ha, q1⟩ := hS.arr hk (by decide) (by decide)
  refine W.iast hx hb q1 ((hT.2.1 1 (by decide) (by decide)).1 _ _) (fun q => by cases q) (by rw [arrV_size]; exact inB_out hj) rfl rfl hd fun H1 e z oq => ?_
  refine kk ls H1 _ (hS.put (zBut_I m a _ _) z oq (Or.inl ?_)) hl
  have eK : memK (setI m a j.toNatClampNeg x) a = memK m a := rfl
  rw [eK, hk]
  refine ⟨by decide, by decide, ?_⟩
  rw [e]
  exact congrArg some (z_arr_set (v := .int x) (k := j.toNatClampNeg) _ (arrE_I (by decide) (by decide) a _ _).1 (arrE_I (by decide) (by decide) a _ _).2)
theorem zs_bastoreB (hx : p.tables.exec = Jvm.exec) (hb : c.code = cc) (hT : zTab G s) {a : Nat} {j x : Int32} (hk : (memK m a).1 = 3) (hj : inB j (memK m a).2 = true) (hd : decode cc pc = .ok (.bastore, 1))
    (kk : zGo p l e R s mth args below meth c Q G H0 nL cells slots (pc + 1) lv st (setI m a j.toNatClampNeg x.toInt8.toInt32)) : zGo p l e R s mth args below meth c Q G H0 nL cells slots pc lv (.int x :: .int j :: .ref a :: st) m := by
  intro ls H locs hS hl
  obtain ⟨ha, q1⟩ := hS.arr hk (by decide) (by decide)
  refine W.bast hx hb q1 ((hT.2.1 3 (by decide) (by decide)).1 _ _) (fun q => by cases q) (by rw [arrV_size]; exact inB_out hj) rfl rfl hd fun H1 e z oq => ?_
  refine kk ls H1 _ (hS.put (zBut_I m a _ _) z oq (Or.inl ?_)) hl
  have eK : memK (setI m a j.toNatClampNeg x.toInt8.toInt32) a = memK m a := rfl
  rw [eK, hk]
  refine ⟨by decide, by decide, ?_⟩
  rw [e]
  exact congrArg some (z_arr_set (v := .int x.toInt8.toInt32) (k := j.toNatClampNeg) _ (arrE_I (by decide) (by decide) a _ _).1 (arrE_I (by decide) (by decide) a _ _).2)
theorem zs_bastoreZ (hx : p.tables.exec = Jvm.exec) (hb : c.code = cc) (hT : zTab G s) {a : Nat} {j x : Int32} (hk : (memK m a).1 = 4) (hj : inB j (memK m a).2 = true) (hd : decode cc pc = .ok (.bastore, 1))
    (kk : zGo p l e R s mth args below meth c Q G H0 nL cells slots (pc + 1) lv st (setI m a j.toNatClampNeg (x &&& 1))) : zGo p l e R s mth args below meth c Q G H0 nL cells slots pc lv (.int x :: .int j :: .ref a :: st) m := by
  intro ls H locs hS hl
  obtain ⟨ha, q1⟩ := hS.arr hk (by decide) (by decide)
  refine W.zast hx hb q1 ((hT.2.1 4 (by decide) (by decide)).1 _ _) (fun q => by cases q) (by rw [arrV_size]; exact inB_out hj) rfl rfl hd fun H1 e z oq => ?_
  refine kk ls H1 _ (hS.put (zBut_I m a _ _) z oq (Or.inl ?_)) hl
  have eK : memK (setI m a j.toNatClampNeg (x &&& 1)) a = memK m a := rfl
  rw [eK, hk]
  refine ⟨by decide, by decide, ?_⟩
  rw [e]
  exact congrArg some (z_arr_set (v := .int (x &&& 1)) (k := j.toNatClampNeg) _ (arrE_I (by decide) (by decide) a _ _).1 (arrE_I (by decide) (by decide) a _ _).2)
theorem zs_lastore (hx : p.tables.exec = Jvm.exec) (hb : c.code = cc) (hT : zTab G s) {a : Nat} {j : Int32} {x : Int64} (hk : (memK m a).1 = 2) (hj : inB j (memK m a).2 = true) (hd : decode cc pc = .ok (.lastore, 1))
    (kk : zGo p l e R s mth args below meth c Q G H0 nL cells slots (pc + 1) lv st (setL m a j.toNatClampNeg x)) : zGo p l e R s mth args below meth c Q G H0 nL cells slots pc lv (.long x :: .int j :: .ref a :: st) m := by
  intro ls H locs hS hl
  obtain ⟨ha, q1⟩ := hS.arr hk (by decide) (by decide)
  refine W.last hx hb q1 ((hT.2.1 2 (by decide) (by decide)).1 _ _) (fun q => by cases q) (by rw [arrV_size]; exact inB_out hj) rfl rfl hd fun H1 e z oq => ?_
  refine kk ls H1 _ (hS.put (zBut_L m a _ _) z oq (Or.inl ?_)) hl
  have eK : memK (setL m a j.toNatClampNeg x) a = memK m a := rfl
  rw [eK, hk]
  refine ⟨by decide, by decide, ?_⟩
  rw [e]
  exact congrArg some (z_arr_set (v := .long x) (k := j.toNatClampNeg) _ (congrArg Value.long (u2_s _ _ _ _)) (fun i hi => congrArg Value.long (u2_n _ _ _ _ hi)))
theorem zs_aastore (hx : p.tables.exec = Jvm.exec) (hb : c.code = cc) (hT : zTab G s) {a b t cl : Nat} {j : Int32} (hk : (memK m a).1 = t) (ht : t = 5 ∧ cl = 10 ∨ t = 6 ∧ cl = 3) (hkb : (memK m b).1 = 100 + cl) (hj : inB j (memK m a).2 = true) (hd : decode cc pc = .ok (.aastore, 1))
    (kk : zGo p l e R s mth args below meth c Q G H0 nL cells slots (pc + 1) lv st (setR m a j.toNatClampNeg (some b))) : zGo p l e R s mth args below meth c Q G H0 nL cells slots pc lv (.ref b :: .int j :: .ref a :: st) m := by
  intro ls H locs hS hl
  obtain ⟨ha, q1⟩ := hS.arr hk (by omega) (by omega)
  obtain ⟨h13, hbN, cellV, g1, g2, g3, -⟩ := hS.obj hkb
  obtain ⟨-, hfc, kC, hkC, hkind⟩ := hT.1 cl h13
  have hcls : ClassAt s (zCn cl) (G.2.2.1 cl) := ⟨hfc, kC, hkC, hkind⟩
  have hty : zATy t = .object (zCn cl) := by rcases ht with ⟨rfl, rfl⟩ | ⟨rfl, rfl⟩ <;> rfl
  have hra := (hT.2.1 t (by omega) (by omega)).2
  rw [hty] at hra
  obtain ⟨kA, comp, k1, k2, k3, -⟩ := hra
  have hcomp : comp = G.2.2.1 cl := Option.some.inj (k3.symm.trans hfc)
  subst hcomp
  have h0 : ¬ j < 0 := fun q => inB_out hj (Or.inl q)
  refine W.aast hx hb q1 (fun q h => by cases h) (fun h => by cases h) k1 k2 rfl hkC ⟨h0, by rw [arrV_size]; exact inB_lt hj⟩ g1 (fun q h => by rw [g3] at h; cases h) (by rw [g2]; exact hkC) (by rw [g2]; exact va_assign hcls) rfl rfl hd fun H1 e z oq => ?_
  refine kk ls H1 _ (hS.put (zBut_R m a _ _) z oq (Or.inl ?_)) hl
  have eK : memK (setR m a j.toNatClampNeg (some b)) a = memK m a := rfl
  rw [eK, hk]
  refine ⟨by omega, by omega, ?_⟩
  rw [e]
  refine congrArg some (z_arr_set (v := .ref b) (k := j.toNatClampNeg) _ ?_ (fun i hi => ?_))
  · unfold arrE
    rw [if_neg (by omega), if_pos (by omega)]
    exact congrArg va_rf (u2_s (memR m) a _ (some b))
  · unfold arrE
    rw [if_neg (by omega), if_pos (by omega), if_neg (by omega), if_pos (by omega)]
    exact congrArg va_rf (u2_n _ _ _ _ hi)
set_option maxRecDepth 100000 in
theorem zck_plain : (List.range 13).all (fun c => (List.range (zN c)).all (fun k => match zTy c k with | .float => false | .double => false | _ => true)) = true := by decide +kernel
theorem z_born (m : zMem) (t n : Nat) {cl k : Nat} (h13 : cl < 13) (hk : k < zN cl) : defaultValue (zTy cl k) = cvV G (fldV (mkCell m t n) cl (memN m) k) := by
  have h1 := List.all_eq_true.mp (List.all_eq_true.mp zck_plain cl (List.mem_range.mpr h13)) k (List.mem_range.mpr hk)
  have eI : memI (mkCell m t n) (memN m) k = 0 := if_pos rfl
  have eL : memL (mkCell m t n) (memN m) k = 0 := if_pos rfl
  have eR : memR (mkCell m t n) (memN m) k = none := if_pos rfl
  unfold fldV
  rw [eI, eL, eR]
  cases hty : zTy cl k <;> simp only [hty] at h1 <;> first | rfl | cases h1
theorem zw_new {o ix cl : Nat} (h : ((o, ix), cl) ∈ zNew) : (if cl = 99 then Jvm.Cond.classLink (zCn o) ix "[[I" else Jvm.Cond.classLink (zCn o) ix (zCn cl)) ∈ zTw := by
  have h1 : zwNew ((o, ix), cl) ∈ zTw := zTw_of zwNew_ok _ (List.mem_map.mpr ⟨_, h, rfl⟩) rfl
  unfold zwNew at h1
  by_cases e : cl = 99
  · rw [if_pos e]
    simp only [e, if_true] at h1
    exact h1
  · rw [if_neg e]
    simp only [e, if_false] at h1
    exact h1
theorem zs_new (hx : p.tables.exec = Jvm.exec) (hb : c.code = cc) (hT : zTab G s) (hw : ∀ w ∈ zTw, w.before args s = true) {o ix cl : Nat} (hown : s.vm.findClass (zCn o) = some mth.cls) (hf : ((o, ix), cl) ∈ zNew) (h13 : cl < 13) (hc1 : cells + 1 ≤ R.cells) (hs1 : slots + zN cl ≤ R.slots) (hd : decode cc pc = .ok (.new ix, 3))
    (kk : zGo p l e R s mth args below meth c Q G H0 nL (cells + 1) (slots + zN cl) (pc + 3) lv (.ref (memN m) :: st) (mkCell m (100 + cl) (zN cl))) : zGo p l e R s mth args below meth c Q G H0 nL cells slots pc lv st m := by
  intro ls H locs hS hl
  have hKn := hT.1 cl h13
  have hlk := zw_new hf
  rw [if_neg (by omega)] at hlk
  refine W.newcK hx hb hown (hw _ hlk) (hw _ (zw_inst h13).1) (hw _ (zw_inst h13).2) rfl hd hc1 hs1 hKn.2.1 hS.1 fun H1 kC hkC e1 z1 o1 => ?_
  have eK : memK (mkCell m (100 + cl) (zN cl)) (memN m) = (100 + cl, zN cl) := if_pos rfl
  refine kk ls H1 locs (hS.make (by rw [z1, hS.1]) (fun q hq => o1 q (by rw [← hS.1]; exact hq)) (Or.inr ⟨cl, by rw [eK], h13, ?_⟩)) hl
  exact (u_born (zTy cl) hw (zw_lay h13) hKn hkC e1 (fun k hk => (zf_ty h13 hk).1)).to (fun k hk => z_born m _ _ h13 hk)
theorem z_fresh (m : zMem) (t n : Nat) (h1 : 1 ≤ t) (h7 : t ≤ 7) (j : Nat) : cvV G (arrE (mkCell m t n) t (memN m) j) = defaultValue (zATy t) := by
  have eI : memI (mkCell m t n) (memN m) j = 0 := if_pos rfl
  have eL : memL (mkCell m t n) (memN m) j = 0 := if_pos rfl
  have eR : memR (mkCell m t n) (memN m) j = none := if_pos rfl
  unfold arrE
  rw [eI, eL, eR]
  have h : t = 1 ∨ t = 2 ∨ t = 3 ∨ t = 4 ∨ t = 5 ∨ t = 6 ∨ t = 7 := by omega
  rcases h with rfl | rfl | rfl | rfl | rfl | rfl | rfl <;> rfl
theorem zck_arr : [FieldType.byte, .int, .long, .boolean].all (fun t => tables_1.contains (.arrayClass t)) = true := by decide +kernel
theorem zw_arr {t : FieldType} (h : t ∈ [FieldType.byte, .int, .long, .boolean]) : Jvm.Cond.arrayClass t ∈ zTw := by
  have h1 := List.all_eq_true.mp zck_arr t h
  exact List.mem_filter.mpr ⟨List.mem_append_right _ (by simpa using h1), rfl⟩
theorem zs_newarray (hx : p.tables.exec = Jvm.exec) (hb : c.code = cc) (hT : zTab G s) (hw : ∀ w ∈ zTw, w.before args s = true) {at_ : ArrayType} {n : Int32} (ht : zATag at_ ≠ 0) (hn : ¬ n < 0) (hsm : n.toNatClampNeg ≤ 100000) (hc1 : cells + 1 ≤ R.cells) (hs1 : slots + n.toNatClampNeg ≤ R.slots) (hd : decode cc pc = .ok (.newarray at_, 2))
    (kk : zGo p l e R s mth args below meth c Q G H0 nL (cells + 1) (slots + n.toNatClampNeg) (pc + 2) lv (.ref (memN m) :: st) (mkCell m (zATag at_) n.toNatClampNeg)) : zGo p l e R s mth args below meth c Q G H0 nL cells slots pc lv (.int n :: st) m := by
  intro ls H locs hS hl
  have key : 1 ≤ zATag at_ ∧ zATag at_ ≤ 7 ∧ newarray.typeOf at_ = zATy (zATag at_) ∧ newarray.typeOf at_ ∈ [FieldType.byte, .int, .long, .boolean] ∧ componentBytes (newarray.typeOf at_) ≤ 8 := by
    cases at_ <;> first | exact absurd rfl ht | exact ⟨by decide, by decide, rfl, by decide, by decide⟩
  obtain ⟨k1, k7, kty, kin, kb⟩ := key
  refine va_newaK hx hb (hw _ (zw_arr kin)) rfl hd rfl hn rfl (Nat.le_trans (Nat.mul_le_mul hsm kb) (by decide)) hc1 hs1 hS.1 fun H1 cA e1 z1 o1 hAr hNm => ?_
  have hra := (hT.2.1 _ k1 k7).2
  rw [← kty] at hra
  have hcA : cA = G.2.2.2.2 (zATag at_) := by
    have h2 : s.vm.findClass ("[" ++ (newarray.typeOf at_).toString) = some (G.2.2.2.2 (zATag at_)) := by
      cases at_ <;> exact hra
    exact Option.some.inj (hNm.symm.trans h2)
  subst hcA
  have eK : memK (mkCell m (zATag at_) n.toNatClampNeg) (memN m) = (zATag at_, n.toNatClampNeg) := if_pos rfl
  refine kk ls H1 locs (hS.make (by rw [z1, hS.1]) (fun q hq => o1 q (by rw [← hS.1]; exact hq)) (Or.inl ?_)) hl
  rw [eK]
  refine ⟨k1, k7, ?_⟩
  rw [e1]
  congr 2
  funext j
  rw [z_fresh m _ _ k1 k7, kty]
theorem zs_anewarray (hx : p.tables.exec = Jvm.exec) (hb : c.code = cc) (hT : zTab G s) (hw : ∀ w ∈ zTw, w.before args s = true) {o ix cl t : Nat} {n : Int32} (hown : s.vm.findClass (zCn o) = some mth.cls) (hf : ((o, ix), cl) ∈ zNew) (ht : t = 5 ∧ cl = 10 ∨ t = 6 ∧ cl = 3) (hn : ¬ n < 0) (hsm : n.toNatClampNeg ≤ 100000) (hc1 : cells + 1 ≤ R.cells) (hs1 : slots + n.toNatClampNeg ≤ R.slots) (hd : decode cc pc = .ok (.anewarray ix, 3))
    (kk : zGo p l e R s mth args below meth c Q G H0 nL (cells + 1) (slots + n.toNatClampNeg) (pc + 3) lv (.ref (memN m) :: st) (mkCell m t n.toNatClampNeg)) : zGo p l e R s mth args below meth c Q G H0 nL cells slots pc lv (.int n :: st) m := by
  intro ls H locs hS hl
  have hlk := zw_new hf
  rw [if_neg (by omega)] at hlk
  have hty : zATy t = .object (zCn cl) := by rcases ht with ⟨rfl, rfl⟩ | ⟨rfl, rfl⟩ <;> rfl
  have hover : va_AO (zCn cl) s := by
    rcases ht with ⟨rfl, rfl⟩ | ⟨rfl, rfl⟩
    · exact hT.2.2.2.1
    · exact hT.2.2.2.2.1
  have hra := (hT.2.1 t (by omega) (by omega)).2
  rw [hty] at hra
  obtain ⟨kA', comp', -, -, -, hfA⟩ := hra
  refine W.anew hx hb hown (hw _ hlk) (va_AO.use hover) rfl hd rfl hn (by omega) hc1 hs1 fun cA kA comp f1 f2 f3 f4 => ?_
  have hcA : cA = G.2.2.2.2 t := Option.some.inj (f1.symm.trans hfA)
  subst hcA
  have eK : memK (mkCell m t n.toNatClampNeg) (memN m) = (t, n.toNatClampNeg) := if_pos rfl
  refine W.eq (g2 := F0 mth (pc + 3) ls (.ref H.size :: st.map (cvV G))) rfl ?_
  rw [show (Value.ref H.size) = Value.ref (G.1 + memN m) by rw [hS.1]]
  refine kk ls _ locs (hS.make (by rw [Array.size_push]) (fun q hq => by rw [Array.getElem?_push, if_neg (Nat.ne_of_lt hq)]) (Or.inl ?_)) hl
  rw [eK]
  refine ⟨by omega, by omega, ?_⟩
  rw [← hS.1, Array.getElem?_push_size, arrV_new]
  congr 2
  funext j
  rw [z_fresh m _ _ (by omega) (by omega), hty]
  rfl
theorem zs_objInit (hx : p.tables.exec = Jvm.exec) (hb : c.code = cc) (hml : c.maxLocals = nL) {own : String} {ix a : Nat} (hown : s.vm.findClass own = some mth.cls) (h1 : (Jvm.Cond.methodLink own ix Lib.objectInit).before args s = true) (h2 : (Jvm.Cond.instanceMethod Lib.objectInit).before args s = true) (h3 : (Jvm.Cond.code Lib.objectInit ⟨#[0xb1]⟩ 1 none).before args s = true) (hsum : (st.map fun v => v.category).sum ≤ 8) (hfr : 1 ≤ R.frames) (hlo : 40 ≤ R.locals) (hd : decode cc pc = .ok (.invokespecial ix, 3))
    (kk : zGo p l e R s mth args below meth c Q G H0 nL cells slots (pc + 3) lv st m) : zGo p l e R s mth args below meth c Q G H0 nL cells slots pc lv (.ref a :: st) m := by
  intro ls H locs hS hl
  refine W.objInit hx hb hown h1 h2 h3 rfl (by rw [hml]; exact hl.1) rfl hd hfr ?_ (kk ls H locs hS hl)
  have e := cvV_sum G st
  show 2 * 0 + ((st.map (cvV G)).map fun v => v.category).sum + 12 ≤ R.locals
  omega
end ZS2
