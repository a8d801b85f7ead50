/-! THE PURE MACHINE IS SOUND, part 4: every step -/
def zBod (G : zG) (d y : Nat) (p : Program) (R : Room) (s : State) (mth : MethodId) (args : Array Value) (meth : Method) (c : Code) : Prop :=
  p.tables.exec = Jvm.exec ∧ c.code = zB y ∧ meth.sig.returnType = zRt y ∧ c.maxLocals = zML y ∧ s.vm.findClass (zCn (zMc y)) = some mth.cls ∧ (∀ w ∈ zTw, w.before args s = true) ∧ zTab G s ∧ zStr G s ∧ meth.locks = false ∧ meth.name = (zNm y).name ∧ d ≤ R.frames ∧ 40 * d ≤ R.locals
section ZS4
variable {p : Program} {l : Launch} {e : Env} {R : Room} {s : State} {mth : MethodId} {args : Array Value} {below : List Frame} {meth : Method} {c : Code} {cells slots : Nat} {Q : State → Prop} {G : zG} {H0 : Heap} {cc : ByteArray}
variable {nL pc : Nat} {lv : zLV} {st : List Value} {m : zMem}
theorem zs_ldcS (hx : p.tables.exec = Jvm.exec) (hb : c.code = cc) (hX : zStr G s) (hown : s.vm.findClass "AlmostTax$Tokens" = some mth.cls) (hd : decode cc pc = .ok (.ldc 19, 2))
    (kk : zGo p l e R s mth args below meth c Q G H0 nL cells slots (pc + 2) lv (.float 0 :: st) m) : zGo p l e R s mth args below meth c Q G H0 nL cells slots pc lv st m := by
  intro ls H locs hS hl
  exact va_ldcS hx hb hown hX.1 hd (kk ls H locs hS hl)
theorem zs_strlen (hx : p.tables.exec = Jvm.exec) (hb : c.code = cc) (hml : c.maxLocals = nL) (hw2 : ∀ w ∈ zTw, w.before args s = true) (hX : zStr G s) {o ix : Nat} {u : UInt32} (hown : s.vm.findClass (zCn o) = some mth.cls) (hf : ((o, ix), (6, 0)) ∈ zCal) (hsum : (st.map fun v => v.category).sum ≤ 8) (hfr : 5 ≤ R.frames) (hlo : 200 ≤ R.locals) (hcl : cells ≤ R.cells) (hsl : slots ≤ R.slots) (hH : H0 = s.heap) (hd : decode cc pc = .ok (.invokevirtual ix, 3))
    (kk : zGo p l e R s mth args below meth c Q G H0 nL cells slots (pc + 3) lv (.int (Int32.ofNat zWordsText.length) :: st) m) : zGo p l e R s mth args below meth c Q G H0 nL cells slots pc lv (.float u :: st) m := by
  intro ls H locs hS hl
  subst hH
  obtain ⟨aV, hV⟩ := hX.2.1
  obtain ⟨⟨cell, q1, q2, q3, q4⟩, -⟩ := hV.1 0 (by decide)
  have hrec : ∃ cellB : Cell, H[G.2.1]? = some cellB ∧ cellB.vm.isStatics = false ∧ s.vm.findClass "java/lang/String" = some cellB.cls := ⟨cell, by rw [hS.2.2.2.1 _ (Nat.not_le.mp q4)]; exact q1, q2, q3⟩
  refine zs_cs (rest := st.map (cvV G)) (va_runV (C := "java/lang/String") (As := []) (b := G.2.1) (rest := st.map (cvV G)) ⟨hx, hb, hml, hown, hw2⟩ (st_length l G) (cwV (Ts := zTw) 0 hw2 ?_ (zWs_eq 6) rfl rfl (by rw [zs_nm.1]; decide) ⟨by show 1 + 1 ≤ _; omega, by rw [zs_ml.1.1]; show 8 + (1 + 11) + 20 ≤ _; omega⟩) ⟨zStr.blind G _, hrec, fun U hU hW => ⟨rfl, hX.warm hW (fun q hq => by rw [hU]; exact hS.2.2.2.1 q hq)⟩⟩ rfl rfl hl.1 rfl (lv_room (by rw [cvV_sum]; exact hsum)) hd ⟨hcl, hsl⟩) (kk ls H locs hS hl)
  intro x hx2
  unfold wsV at hx2
  rw [zs_nm.1] at hx2
  rcases List.mem_append.mp hx2 with hx2 | hx2
  · rcases List.mem_cons.mp hx2 with rfl | hx2
    · exact zTw_good _ (zTw_of zwCal_ok _ (List.mem_map.mpr ⟨((o, ix), (6, 0)), List.mem_filter.mpr ⟨hf, rfl⟩, rfl⟩) rfl)
    · rcases List.mem_cons.mp hx2 with rfl | hx2
      · exact zTw_good _ zw_s
      · rcases List.mem_cons.mp hx2 with rfl | hx2
        · exact zTw_good _ zw_s
        · rw [List.mem_singleton.mp hx2]
          exact zTw_good _ (zw_s (w := .initialized "java/lang/String"))
  · exact zWs_goodS (z := 6) (by decide) x hx2
theorem zs_charAt (hx : p.tables.exec = Jvm.exec) (hb : c.code = cc) (hml : c.maxLocals = nL) (hw2 : ∀ w ∈ zTw, w.before args s = true) (hX : zStr G s) {o ix : Nat} {u : UInt32} {j : Int32} (hown : s.vm.findClass (zCn o) = some mth.cls) (hf : ((o, ix), (7, 0)) ∈ zCal) (hj : inB j zWordsText.length = true) (hsum : (st.map fun v => v.category).sum ≤ 8) (hfr : 5 ≤ R.frames) (hlo : 200 ≤ R.locals) (hcl : cells ≤ R.cells) (hsl : slots ≤ R.slots) (hH : H0 = s.heap) (hd : decode cc pc = .ok (.invokevirtual ix, 3))
    (kk : zGo p l e R s mth args below meth c Q G H0 nL cells slots (pc + 3) lv (.int (Int32.ofNat (zWordsText.getD j.toNatClampNeg 0)) :: st) m) : zGo p l e R s mth args below meth c Q G H0 nL cells slots pc lv (.int j :: .float u :: st) m := by
  intro ls H locs hS hl
  subst hH
  obtain ⟨aV, hV⟩ := hX.2.1
  obtain ⟨⟨cell, q1, q2, q3, q4⟩, -⟩ := hV.1 0 (by decide)
  have hrec : ∃ cellB : Cell, H[G.2.1]? = some cellB ∧ cellB.vm.isStatics = false ∧ s.vm.findClass "java/lang/String" = some cellB.cls := ⟨cell, by rw [hS.2.2.2.1 _ (Nat.not_le.mp q4)]; exact q1, q2, q3⟩
  refine zs_cs (rest := st.map (cvV G)) (va_runV (C := "java/lang/String") (As := [.int j]) (b := G.2.1) (rest := st.map (cvV G)) ⟨hx, hb, hml, hown, hw2⟩ (st_charAt l G j hj) (cwV (Ts := zTw) 1 hw2 ?_ (zWs_eq 8) rfl rfl (by rw [zs_nm.2.2.1]; decide) ⟨by show 3 + 1 ≤ _; omega, by rw [zs_ml.1.2.2.1]; show 8 + (2 + 11) + 64 ≤ _; omega⟩) ⟨zStr.blind G _, hrec, fun U hU hW => ⟨rfl, hX.warm hW (fun q hq => by rw [hU]; exact hS.2.2.2.1 q hq)⟩⟩ rfl rfl hl.1 rfl (lv_room (by rw [cvV_sum]; exact hsum)) hd ⟨hcl, hsl⟩) (kk ls H locs hS hl)
  intro x hx2
  unfold wsV at hx2
  rw [zs_nm.2.2.1] at hx2
  rcases List.mem_append.mp hx2 with hx2 | hx2
  · rcases List.mem_cons.mp hx2 with rfl | hx2
    · exact zTw_good _ (zTw_of zwCal_ok _ (List.mem_map.mpr ⟨((o, ix), (7, 0)), List.mem_filter.mpr ⟨hf, rfl⟩, rfl⟩) rfl)
    · rcases List.mem_cons.mp hx2 with rfl | hx2
      · exact zTw_good _ zw_s
      · rcases List.mem_cons.mp hx2 with rfl | hx2
        · exact zTw_good _ zw_s
        · rw [List.mem_singleton.mp hx2]
          exact zTw_good _ (zw_s (w := .initialized "java/lang/String"))
  · exact zWs_goodS (z := 8) (by decide) x hx2
end ZS4
theorem zGoto_inv {pc : Nat} {off : Int} {lv : zLV} {st : List Value} {m : zMem} {x : Nat × zLV × List Value × zMem} (h : zGoto pc off lv st m = some x) : (pc : Int) + off = (x.1 : Int) ∧ x.2 = (lv, st, m) := by
  unfold zGoto at h
  split at h
  · cases h
    exact ⟨by show _ = ((((pc : Int) + off).toNat : Nat) : Int); omega, rfl⟩
  · cases h
theorem zCon_in {o ix : Nat} {v : Int32} (h : zCon.lookup (o, ix) = some v) : Jvm.Cond.constant (zCn o) ix v ∈ zTw := zTw_of zwCon_ok _ (List.mem_map.mpr ⟨((o, ix), v), zk_look2 _ _ _ h, rfl⟩) rfl
theorem zConL_in {o ix : Nat} {v : Int64} (h : zConL.lookup (o, ix) = some v) : Jvm.Cond.constantLong (zCn o) ix v ∈ zTw := zTw_of zwConL_ok _ (List.mem_map.mpr ⟨((o, ix), v), zk_look2 _ _ _ h, rfl⟩) rfl
def zIn0 (w : Jvm.Cond) : Bool := decide (w ∈ tables_1)
set_option maxRecDepth 100000 in
theorem zck_misc : zIn0 (.instanceMethod Lib.objectInit) && zIn0 (.code Lib.objectInit ⟨#[0xb1]⟩ 1 none) && zIn0 (.native arraycopyName) && zIn0 (.static arraycopyName) && zIn0 (.initialized "java/lang/System") && zIn0 (.static Lib.Math.max.name) && zIn0 (.static Lib.Math.min.name) && zIn0 (.static Lib.MathLoose.abs_long.x) && zIn0 (.initialized "java/lang/Math") && zIn0 (.code Lib.Math.max.name Lib.Math.max.code 2 (some .int)) && zIn0 (.code Lib.Math.min.name Lib.Math.min.code 2 (some .int)) && zIn0 (.code Lib.MathLoose.abs_long.x Lib.MathLoose.abs_long.code 2 (some .long)) = true := by decide +kernel
theorem zg_code (x : MethodName) (b : ByteArray) (n : Nat) (r : Option FieldType) : goodWord (.code x b n r) = true := rfl
set_option maxRecDepth 100000 in
theorem zw_miscs : ∀ w ∈ ([.instanceMethod Lib.objectInit, .code Lib.objectInit ⟨#[0xb1]⟩ 1 none, .native arraycopyName, .static arraycopyName, .initialized "java/lang/System", .static Lib.Math.max.name, .static Lib.Math.min.name, .static Lib.MathLoose.abs_long.x, .initialized "java/lang/Math", .code Lib.Math.max.name Lib.Math.max.code 2 (some .int), .code Lib.Math.min.name Lib.Math.min.code 2 (some .int), .code Lib.MathLoose.abs_long.x Lib.MathLoose.abs_long.code 2 (some .long)] : List Jvm.Cond), w ∈ zTw := by
  have h := zck_misc
  simp only [Bool.and_eq_true] at h
  have f : ∀ w : Jvm.Cond, zIn0 w = true → goodWord w = true → w ∈ zTw := fun w h1 h2 => List.mem_filter.mpr ⟨List.mem_append_right _ (of_decide_eq_true h1), h2⟩
  obtain ⟨⟨⟨⟨⟨⟨⟨⟨⟨⟨⟨h1, h2⟩, h3⟩, h4⟩, h5⟩, h6⟩, h7⟩, h8⟩, h9⟩, h10⟩, h11⟩, h12⟩ := h
  exact List.forall_mem_cons.mpr ⟨f _ h1 rfl, List.forall_mem_cons.mpr ⟨f _ h2 (zg_code _ _ _ _), List.forall_mem_cons.mpr ⟨f _ h3 rfl, List.forall_mem_cons.mpr ⟨f _ h4 rfl, List.forall_mem_cons.mpr ⟨f _ h5 rfl, List.forall_mem_cons.mpr ⟨f _ h6 rfl, List.forall_mem_cons.mpr ⟨f _ h7 rfl, List.forall_mem_cons.mpr ⟨f _ h8 rfl, List.forall_mem_cons.mpr ⟨f _ h9 rfl, List.forall_mem_cons.mpr ⟨f _ h10 (zg_code _ _ _ _), List.forall_mem_cons.mpr ⟨f _ h11 (zg_code _ _ _ _), List.forall_mem_cons.mpr ⟨f _ h12 (zg_code _ _ _ _), fun _ h => absurd h List.not_mem_nil⟩⟩⟩⟩⟩⟩⟩⟩⟩⟩⟩⟩
theorem zw_misc : Jvm.Cond.instanceMethod Lib.objectInit ∈ zTw ∧ Jvm.Cond.code Lib.objectInit ⟨#[0xb1]⟩ 1 none ∈ zTw ∧ Jvm.Cond.native arraycopyName ∈ zTw ∧ Jvm.Cond.static arraycopyName ∈ zTw ∧ Jvm.Cond.initialized "java/lang/System" ∈ zTw := ⟨zw_miscs _ (by simp), zw_miscs _ (by simp), zw_miscs _ (by simp), zw_miscs _ (by simp), zw_miscs _ (by simp)⟩
theorem zw_math : Jvm.Cond.static Lib.Math.max.name ∈ zTw ∧ Jvm.Cond.static Lib.Math.min.name ∈ zTw ∧ Jvm.Cond.static Lib.MathLoose.abs_long.x ∈ zTw ∧ Jvm.Cond.initialized "java/lang/Math" ∈ zTw ∧ Jvm.Cond.code Lib.Math.max.name Lib.Math.max.code 2 (some .int) ∈ zTw ∧ Jvm.Cond.code Lib.Math.min.name Lib.Math.min.code 2 (some .int) ∈ zTw ∧ Jvm.Cond.code Lib.MathLoose.abs_long.x Lib.MathLoose.abs_long.code 2 (some .long) ∈ zTw := ⟨zw_miscs _ (by simp), zw_miscs _ (by simp), zw_miscs _ (by simp), zw_miscs _ (by simp), zw_miscs _ (by simp), zw_miscs _ (by simp), zw_miscs _ (by simp)⟩
theorem zw_cal {o ix k z : Nat} (h : zCal.lookup (o, ix) = some (k, z)) (hn : k ≠ 2 ∧ k ≠ 3) : zwCal ((o, ix), (k, z)) ∈ zTw := by
  refine zTw_of zwCal_ok _ (List.mem_map.mpr ⟨((o, ix), (k, z)), List.mem_filter.mpr ⟨zk_look2 _ _ _ h, ?_⟩, rfl⟩) rfl
  simp [zNest, hn.1, hn.2]
set_option maxHeartbeats 4000000 in
theorem zStep_ok {d y pc n : Nat} {i : Instr} {lv : zLV} {st : List Value} {m : zMem} {x : Nat × zLV × List Value × zMem} (hi : zIns y pc = some (i, n)) (h : zStep d y pc i lv st m = some x) :
    (memN m ≤ memN x.2.2.2 ∧ memS m ≤ memS x.2.2.2) ∧ ∀ (p : Program) (l : Launch) (e : Env) (R : Room) (s : State) (mth : MethodId) (args : Array Value) (below : List Frame) (meth : Method) (c : Code) (cells slots : Nat) (Q : State → Prop) (G : zG), zBod G d y p R s mth args meth c →
      cells + (memN x.2.2.2 - memN m) ≤ R.cells → slots + (memS x.2.2.2 - memS m) ≤ R.slots → zGo p l e R s mth args below meth c Q G s.heap (zML y) (cells + (memN x.2.2.2 - memN m)) (slots + (memS x.2.2.2 - memS m)) x.1 x.2.1 x.2.2.1 x.2.2.2 → zGo p l e R s mth args below meth c Q G s.heap (zML y) cells slots pc lv st m := by
  obtain ⟨hd, hlen⟩ := zDec hi
  clear hi
  cases i
  case iconst k =>
    cases (show n = 1 from eq_of_beq hlen)
    cases (show some (pc + 1, lv, Value.int (Int32.ofInt k) :: st, m) = some x from h)
    refine ⟨⟨Nat.le_refl _, Nat.le_refl _⟩, ?_⟩
    intro p l e R s mth args below meth c cells slots Q G hB hc1 hs1 kk
    obtain ⟨hx, hb, hr, hml, hown, hw, hT, hX, hlk, hnm, hfr, hlo⟩ := hB
    (dsimp only at kk; rw [Nat.sub_self, Nat.sub_self, Nat.add_zero, Nat.add_zero] at kk; dsimp only at hc1 hs1; rw [Nat.sub_self, Nat.add_zero] at hc1 hs1)
    exact zs_iconst hx hb hd kk
  case bipush k =>
    cases (show n = 2 from eq_of_beq hlen)
    cases (show some (pc + 2, lv, Value.int ((Int8.ofInt k).toInt32) :: st, m) = some x from h)
    refine ⟨⟨Nat.le_refl _, Nat.le_refl _⟩, ?_⟩
    intro p l e R s mth args below meth c cells slots Q G hB hc1 hs1 kk
    obtain ⟨hx, hb, hr, hml, hown, hw, hT, hX, hlk, hnm, hfr, hlo⟩ := hB
    (dsimp only at kk; rw [Nat.sub_self, Nat.sub_self, Nat.add_zero, Nat.add_zero] at kk; dsimp only at hc1 hs1; rw [Nat.sub_self, Nat.add_zero] at hc1 hs1)
    exact zs_bipush hx hb hd kk
  case sipush k =>
    cases (show n = 3 from eq_of_beq hlen)
    cases (show some (pc + 3, lv, Value.int ((Int16.ofInt k).toInt32) :: st, m) = some x from h)
    refine ⟨⟨Nat.le_refl _, Nat.le_refl _⟩, ?_⟩
    intro p l e R s mth args below meth c cells slots Q G hB hc1 hs1 kk
    obtain ⟨hx, hb, hr, hml, hown, hw, hT, hX, hlk, hnm, hfr, hlo⟩ := hB
    (dsimp only at kk; rw [Nat.sub_self, Nat.sub_self, Nat.add_zero, Nat.add_zero] at kk; dsimp only at hc1 hs1; rw [Nat.sub_self, Nat.add_zero] at hc1 hs1)
    exact zs_sipush hx hb hd kk
  case lconst k =>
    cases (show n = 1 from eq_of_beq hlen)
    cases (show some (pc + 1, lv, Value.long (Int64.ofNat k) :: st, m) = some x from h)
    refine ⟨⟨Nat.le_refl _, Nat.le_refl _⟩, ?_⟩
    intro p l e R s mth args below meth c cells slots Q G hB hc1 hs1 kk
    obtain ⟨hx, hb, hr, hml, hown, hw, hT, hX, hlk, hnm, hfr, hlo⟩ := hB
    (dsimp only at kk; rw [Nat.sub_self, Nat.sub_self, Nat.add_zero, Nat.add_zero] at kk; dsimp only at hc1 hs1; rw [Nat.sub_self, Nat.add_zero] at hc1 hs1)
    exact zs_lconst hx hb hd kk
  case iload k =>
    cases (show n = 2 from eq_of_beq hlen)
    have h : zIld lv k (pc + 2) st m = some x := h
    unfold zIld at h
    split at h
    · rename_i hv
      cases h
      refine ⟨⟨Nat.le_refl _, Nat.le_refl _⟩, ?_⟩
      intro p l e R s mth args below meth c cells slots Q G hB hc1 hs1 kk
      obtain ⟨hx, hb, hr, hml, hown, hw, hT, hX, hlk, hnm, hfr, hlo⟩ := hB
      (dsimp only at kk; rw [Nat.sub_self, Nat.sub_self, Nat.add_zero, Nat.add_zero] at kk; dsimp only at hc1 hs1; rw [Nat.sub_self, Nat.add_zero] at hc1 hs1)
      exact zs_iload hx hb hv hd kk
    · cases h
  case iload_n k =>
    cases (show n = 1 from eq_of_beq hlen)
    have h : zIld lv k (pc + 1) st m = some x := h
    unfold zIld at h
    split at h
    · rename_i hv
      cases h
      refine ⟨⟨Nat.le_refl _, Nat.le_refl _⟩, ?_⟩
      intro p l e R s mth args below meth c cells slots Q G hB hc1 hs1 kk
      obtain ⟨hx, hb, hr, hml, hown, hw, hT, hX, hlk, hnm, hfr, hlo⟩ := hB
      (dsimp only at kk; rw [Nat.sub_self, Nat.sub_self, Nat.add_zero, Nat.add_zero] at kk; dsimp only at hc1 hs1; rw [Nat.sub_self, Nat.add_zero] at hc1 hs1)
      exact zs_iload_n hx hb hv hd kk
    · cases h
  case lload k =>
    cases (show n = 2 from eq_of_beq hlen)
    have h : zLld lv k (pc + 2) st m = some x := h
    unfold zLld at h
    split at h
    · rename_i hv
      cases h
      refine ⟨⟨Nat.le_refl _, Nat.le_refl _⟩, ?_⟩
      intro p l e R s mth args below meth c cells slots Q G hB hc1 hs1 kk
      obtain ⟨hx, hb, hr, hml, hown, hw, hT, hX, hlk, hnm, hfr, hlo⟩ := hB
      (dsimp only at kk; rw [Nat.sub_self, Nat.sub_self, Nat.add_zero, Nat.add_zero] at kk; dsimp only at hc1 hs1; rw [Nat.sub_self, Nat.add_zero] at hc1 hs1)
      exact zs_lload hx hb hv hd kk
    · cases h
  case lload_n k =>
    cases (show n = 1 from eq_of_beq hlen)
    have h : zLld lv k (pc + 1) st m = some x := h
    unfold zLld at h
    split at h
    · rename_i hv
      cases h
      refine ⟨⟨Nat.le_refl _, Nat.le_refl _⟩, ?_⟩
      intro p l e R s mth args below meth c cells slots Q G hB hc1 hs1 kk
      obtain ⟨hx, hb, hr, hml, hown, hw, hT, hX, hlk, hnm, hfr, hlo⟩ := hB
      (dsimp only at kk; rw [Nat.sub_self, Nat.sub_self, Nat.add_zero, Nat.add_zero] at kk; dsimp only at hc1 hs1; rw [Nat.sub_self, Nat.add_zero] at hc1 hs1)
      exact zs_lload_n hx hb hv hd kk
    · cases h
  case aload k =>
    cases (show n = 2 from eq_of_beq hlen)
    have h : zAld lv k (pc + 2) st m = some x := h
    unfold zAld at h
    split at h
    · rename_i hv
      cases h
      refine ⟨⟨Nat.le_refl _, Nat.le_refl _⟩, ?_⟩
      intro p l e R s mth args below meth c cells slots Q G hB hc1 hs1 kk
      obtain ⟨hx, hb, hr, hml, hown, hw, hT, hX, hlk, hnm, hfr, hlo⟩ := hB
      (dsimp only at kk; rw [Nat.sub_self, Nat.sub_self, Nat.add_zero, Nat.add_zero] at kk; dsimp only at hc1 hs1; rw [Nat.sub_self, Nat.add_zero] at hc1 hs1)
      exact zs_aload hx hb hv hd kk
    · cases h
  case aload_n k =>
    cases (show n = 1 from eq_of_beq hlen)
    have h : zAld lv k (pc + 1) st m = some x := h
    unfold zAld at h
    split at h
    · rename_i hv
      cases h
      refine ⟨⟨Nat.le_refl _, Nat.le_refl _⟩, ?_⟩
      intro p l e R s mth args below meth c cells slots Q G hB hc1 hs1 kk
      obtain ⟨hx, hb, hr, hml, hown, hw, hT, hX, hlk, hnm, hfr, hlo⟩ := hB
      (dsimp only at kk; rw [Nat.sub_self, Nat.sub_self, Nat.add_zero, Nat.add_zero] at kk; dsimp only at hc1 hs1; rw [Nat.sub_self, Nat.add_zero] at hc1 hs1)
      exact zs_aload_n hx hb hv hd kk
    · cases h
  case istore k =>
    cases (show n = 2 from eq_of_beq hlen)
    have h : zIst y lv k (pc + 2) st m = some x := h
    unfold zIst at h
    split at h
    · split at h
      · rename_i hk
        cases h
        refine ⟨⟨Nat.le_refl _, Nat.le_refl _⟩, ?_⟩
        intro p l e R s mth args below meth c cells slots Q G hB hc1 hs1 kk
        obtain ⟨hx, hb, hr, hml, hown, hw, hT, hX, hlk, hnm, hfr, hlo⟩ := hB
        (dsimp only at kk; rw [Nat.sub_self, Nat.sub_self, Nat.add_zero, Nat.add_zero] at kk; dsimp only at hc1 hs1; rw [Nat.sub_self, Nat.add_zero] at hc1 hs1)
        exact zs_istore hx hb hk.1 hk.2 hd kk
      · cases h
    · cases h
  case istore_n k =>
    cases (show n = 1 from eq_of_beq hlen)
    have h : zIst y lv k (pc + 1) st m = some x := h
    unfold zIst at h
    split at h
    · split at h
      · rename_i hk
        cases h
        refine ⟨⟨Nat.le_refl _, Nat.le_refl _⟩, ?_⟩
        intro p l e R s mth args below meth c cells slots Q G hB hc1 hs1 kk
        obtain ⟨hx, hb, hr, hml, hown, hw, hT, hX, hlk, hnm, hfr, hlo⟩ := hB
        (dsimp only at kk; rw [Nat.sub_self, Nat.sub_self, Nat.add_zero, Nat.add_zero] at kk; dsimp only at hc1 hs1; rw [Nat.sub_self, Nat.add_zero] at hc1 hs1)
        exact zs_istore_n hx hb hk.1 hk.2 hd kk
      · cases h
    · cases h
  case lstore k =>
    cases (show n = 2 from eq_of_beq hlen)
    have h : zLst y lv k (pc + 2) st m = some x := h
    unfold zLst at h
    split at h
    · split at h
      · rename_i hk
        cases h
        refine ⟨⟨Nat.le_refl _, Nat.le_refl _⟩, ?_⟩
        intro p l e R s mth args below meth c cells slots Q G hB hc1 hs1 kk
        obtain ⟨hx, hb, hr, hml, hown, hw, hT, hX, hlk, hnm, hfr, hlo⟩ := hB
        (dsimp only at kk; rw [Nat.sub_self, Nat.sub_self, Nat.add_zero, Nat.add_zero] at kk; dsimp only at hc1 hs1; rw [Nat.sub_self, Nat.add_zero] at hc1 hs1)
        exact zs_lstore hx hb hk.1 hk.2 hd kk
      · cases h
    · cases h
  case lstore_n k =>
    cases (show n = 1 from eq_of_beq hlen)
    have h : zLst y lv k (pc + 1) st m = some x := h
    unfold zLst at h
    split at h
    · split at h
      · rename_i hk
        cases h
        refine ⟨⟨Nat.le_refl _, Nat.le_refl _⟩, ?_⟩
        intro p l e R s mth args below meth c cells slots Q G hB hc1 hs1 kk
        obtain ⟨hx, hb, hr, hml, hown, hw, hT, hX, hlk, hnm, hfr, hlo⟩ := hB
        (dsimp only at kk; rw [Nat.sub_self, Nat.sub_self, Nat.add_zero, Nat.add_zero] at kk; dsimp only at hc1 hs1; rw [Nat.sub_self, Nat.add_zero] at hc1 hs1)
        exact zs_lstore_n hx hb hk.1 hk.2 hd kk
      · cases h
    · cases h
  case astore k =>
    cases (show n = 2 from eq_of_beq hlen)
    have h : zAst y lv k (pc + 2) st m = some x := h
    unfold zAst at h
    split at h
    · split at h
      · rename_i hk
        cases h
        refine ⟨⟨Nat.le_refl _, Nat.le_refl _⟩, ?_⟩
        intro p l e R s mth args below meth c cells slots Q G hB hc1 hs1 kk
        obtain ⟨hx, hb, hr, hml, hown, hw, hT, hX, hlk, hnm, hfr, hlo⟩ := hB
        (dsimp only at kk; rw [Nat.sub_self, Nat.sub_self, Nat.add_zero, Nat.add_zero] at kk; dsimp only at hc1 hs1; rw [Nat.sub_self, Nat.add_zero] at hc1 hs1)
        exact zs_astore hx hb hk.1 hk.2 hd kk
      · cases h
    · cases h
  case astore_n k =>
    cases (show n = 1 from eq_of_beq hlen)
    have h : zAst y lv k (pc + 1) st m = some x := h
    unfold zAst at h
    split at h
    · split at h
      · rename_i hk
        cases h
        refine ⟨⟨Nat.le_refl _, Nat.le_refl _⟩, ?_⟩
        intro p l e R s mth args below meth c cells slots Q G hB hc1 hs1 kk
        obtain ⟨hx, hb, hr, hml, hown, hw, hT, hX, hlk, hnm, hfr, hlo⟩ := hB
        (dsimp only at kk; rw [Nat.sub_self, Nat.sub_self, Nat.add_zero, Nat.add_zero] at kk; dsimp only at hc1 hs1; rw [Nat.sub_self, Nat.add_zero] at hc1 hs1)
        exact zs_astore_n hx hb hk.1 hk.2 hd kk
      · cases h
    · cases h
  case iinc k z =>
    cases (show n = 3 from eq_of_beq hlen)
    dsimp only [zStep] at h
    split at h
    · rename_i hv
      split at h
      · rename_i hk
        cases h
        refine ⟨⟨Nat.le_refl _, Nat.le_refl _⟩, ?_⟩
        intro p l e R s mth args below meth c cells slots Q G hB hc1 hs1 kk
        obtain ⟨hx, hb, hr, hml, hown, hw, hT, hX, hlk, hnm, hfr, hlo⟩ := hB
        (dsimp only at kk; rw [Nat.sub_self, Nat.sub_self, Nat.add_zero, Nat.add_zero] at kk; dsimp only at hc1 hs1; rw [Nat.sub_self, Nat.add_zero] at hc1 hs1)
        exact zs_iinc hx hb hv hk.1 hk.2 hd kk
      · cases h
    · cases h
  case iadd =>
    cases (show n = 1 from eq_of_beq hlen)
    dsimp only [zStep, zI2] at h
    split at h
    · cases h
      refine ⟨⟨Nat.le_refl _, Nat.le_refl _⟩, ?_⟩
      intro p l e R s mth args below meth c cells slots Q G hB hc1 hs1 kk
      obtain ⟨hx, hb, hr, hml, hown, hw, hT, hX, hlk, hnm, hfr, hlo⟩ := hB
      (dsimp only at kk; rw [Nat.sub_self, Nat.sub_self, Nat.add_zero, Nat.add_zero] at kk; dsimp only at hc1 hs1; rw [Nat.sub_self, Nat.add_zero] at hc1 hs1)
      exact zs_iadd hx hb hd kk
    · cases h
  case isub =>
    cases (show n = 1 from eq_of_beq hlen)
    dsimp only [zStep, zI2] at h
    split at h
    · cases h
      refine ⟨⟨Nat.le_refl _, Nat.le_refl _⟩, ?_⟩
      intro p l e R s mth args below meth c cells slots Q G hB hc1 hs1 kk
      obtain ⟨hx, hb, hr, hml, hown, hw, hT, hX, hlk, hnm, hfr, hlo⟩ := hB
      (dsimp only at kk; rw [Nat.sub_self, Nat.sub_self, Nat.add_zero, Nat.add_zero] at kk; dsimp only at hc1 hs1; rw [Nat.sub_self, Nat.add_zero] at hc1 hs1)
      exact zs_isub hx hb hd kk
    · cases h
  case imul =>
    cases (show n = 1 from eq_of_beq hlen)
    dsimp only [zStep, zI2] at h
    split at h
    · cases h
      refine ⟨⟨Nat.le_refl _, Nat.le_refl _⟩, ?_⟩
      intro p l e R s mth args below meth c cells slots Q G hB hc1 hs1 kk
      obtain ⟨hx, hb, hr, hml, hown, hw, hT, hX, hlk, hnm, hfr, hlo⟩ := hB
      (dsimp only at kk; rw [Nat.sub_self, Nat.sub_self, Nat.add_zero, Nat.add_zero] at kk; dsimp only at hc1 hs1; rw [Nat.sub_self, Nat.add_zero] at hc1 hs1)
      exact zs_imul hx hb hd kk
    · cases h
  case iand =>
    cases (show n = 1 from eq_of_beq hlen)
    dsimp only [zStep, zI2] at h
    split at h
    · cases h
      refine ⟨⟨Nat.le_refl _, Nat.le_refl _⟩, ?_⟩
      intro p l e R s mth args below meth c cells slots Q G hB hc1 hs1 kk
      obtain ⟨hx, hb, hr, hml, hown, hw, hT, hX, hlk, hnm, hfr, hlo⟩ := hB
      (dsimp only at kk; rw [Nat.sub_self, Nat.sub_self, Nat.add_zero, Nat.add_zero] at kk; dsimp only at hc1 hs1; rw [Nat.sub_self, Nat.add_zero] at hc1 hs1)
      exact zs_iand hx hb hd kk
    · cases h
  case ior =>
    cases (show n = 1 from eq_of_beq hlen)
    dsimp only [zStep, zI2] at h
    split at h
    · cases h
      refine ⟨⟨Nat.le_refl _, Nat.le_refl _⟩, ?_⟩
      intro p l e R s mth args below meth c cells slots Q G hB hc1 hs1 kk
      obtain ⟨hx, hb, hr, hml, hown, hw, hT, hX, hlk, hnm, hfr, hlo⟩ := hB
      (dsimp only at kk; rw [Nat.sub_self, Nat.sub_self, Nat.add_zero, Nat.add_zero] at kk; dsimp only at hc1 hs1; rw [Nat.sub_self, Nat.add_zero] at hc1 hs1)
      exact zs_ior hx hb hd kk
    · cases h
  case ixor =>
    cases (show n = 1 from eq_of_beq hlen)
    dsimp only [zStep, zI2] at h
    split at h
    · cases h
      refine ⟨⟨Nat.le_refl _, Nat.le_refl _⟩, ?_⟩
      intro p l e R s mth args below meth c cells slots Q G hB hc1 hs1 kk
      obtain ⟨hx, hb, hr, hml, hown, hw, hT, hX, hlk, hnm, hfr, hlo⟩ := hB
      (dsimp only at kk; rw [Nat.sub_self, Nat.sub_self, Nat.add_zero, Nat.add_zero] at kk; dsimp only at hc1 hs1; rw [Nat.sub_self, Nat.add_zero] at hc1 hs1)
      exact zs_ixor hx hb hd kk
    · cases h
  case ishl =>
    cases (show n = 1 from eq_of_beq hlen)
    dsimp only [zStep, zI2] at h
    split at h
    · cases h
      refine ⟨⟨Nat.le_refl _, Nat.le_refl _⟩, ?_⟩
      intro p l e R s mth args below meth c cells slots Q G hB hc1 hs1 kk
      obtain ⟨hx, hb, hr, hml, hown, hw, hT, hX, hlk, hnm, hfr, hlo⟩ := hB
      (dsimp only at kk; rw [Nat.sub_self, Nat.sub_self, Nat.add_zero, Nat.add_zero] at kk; dsimp only at hc1 hs1; rw [Nat.sub_self, Nat.add_zero] at hc1 hs1)
      exact zs_ishl hx hb hd kk
    · cases h
  case ishr =>
    cases (show n = 1 from eq_of_beq hlen)
    dsimp only [zStep, zI2] at h
    split at h
    · cases h
      refine ⟨⟨Nat.le_refl _, Nat.le_refl _⟩, ?_⟩
      intro p l e R s mth args below meth c cells slots Q G hB hc1 hs1 kk
      obtain ⟨hx, hb, hr, hml, hown, hw, hT, hX, hlk, hnm, hfr, hlo⟩ := hB
      (dsimp only at kk; rw [Nat.sub_self, Nat.sub_self, Nat.add_zero, Nat.add_zero] at kk; dsimp only at hc1 hs1; rw [Nat.sub_self, Nat.add_zero] at hc1 hs1)
      exact zs_ishr hx hb hd kk
    · cases h
  case iushr =>
    cases (show n = 1 from eq_of_beq hlen)
    dsimp only [zStep, zI2] at h
    split at h
    · cases h
      refine ⟨⟨Nat.le_refl _, Nat.le_refl _⟩, ?_⟩
      intro p l e R s mth args below meth c cells slots Q G hB hc1 hs1 kk
      obtain ⟨hx, hb, hr, hml, hown, hw, hT, hX, hlk, hnm, hfr, hlo⟩ := hB
      (dsimp only at kk; rw [Nat.sub_self, Nat.sub_self, Nat.add_zero, Nat.add_zero] at kk; dsimp only at hc1 hs1; rw [Nat.sub_self, Nat.add_zero] at hc1 hs1)
      exact zs_iushr hx hb hd kk
    · cases h
  case ladd =>
    cases (show n = 1 from eq_of_beq hlen)
    dsimp only [zStep, zL2] at h
    split at h
    · cases h
      refine ⟨⟨Nat.le_refl _, Nat.le_refl _⟩, ?_⟩
      intro p l e R s mth args below meth c cells slots Q G hB hc1 hs1 kk
      obtain ⟨hx, hb, hr, hml, hown, hw, hT, hX, hlk, hnm, hfr, hlo⟩ := hB
      (dsimp only at kk; rw [Nat.sub_self, Nat.sub_self, Nat.add_zero, Nat.add_zero] at kk; dsimp only at hc1 hs1; rw [Nat.sub_self, Nat.add_zero] at hc1 hs1)
      exact zs_ladd hx hb hd kk
    · cases h
  case lsub =>
    cases (show n = 1 from eq_of_beq hlen)
    dsimp only [zStep, zL2] at h
    split at h
    · cases h
      refine ⟨⟨Nat.le_refl _, Nat.le_refl _⟩, ?_⟩
      intro p l e R s mth args below meth c cells slots Q G hB hc1 hs1 kk
      obtain ⟨hx, hb, hr, hml, hown, hw, hT, hX, hlk, hnm, hfr, hlo⟩ := hB
      (dsimp only at kk; rw [Nat.sub_self, Nat.sub_self, Nat.add_zero, Nat.add_zero] at kk; dsimp only at hc1 hs1; rw [Nat.sub_self, Nat.add_zero] at hc1 hs1)
      exact zs_lsub hx hb hd kk
    · cases h
  case lmul =>
    cases (show n = 1 from eq_of_beq hlen)
    dsimp only [zStep, zL2] at h
    split at h
    · cases h
      refine ⟨⟨Nat.le_refl _, Nat.le_refl _⟩, ?_⟩
      intro p l e R s mth args below meth c cells slots Q G hB hc1 hs1 kk
      obtain ⟨hx, hb, hr, hml, hown, hw, hT, hX, hlk, hnm, hfr, hlo⟩ := hB
      (dsimp only at kk; rw [Nat.sub_self, Nat.sub_self, Nat.add_zero, Nat.add_zero] at kk; dsimp only at hc1 hs1; rw [Nat.sub_self, Nat.add_zero] at hc1 hs1)
      exact zs_lmul hx hb hd kk
    · cases h
  case idiv =>
    cases (show n = 1 from eq_of_beq hlen)
    dsimp only [zStep] at h
    split at h
    · split at h
      · cases h
      · rename_i hy
        cases h
        refine ⟨⟨Nat.le_refl _, Nat.le_refl _⟩, ?_⟩
        intro p l e R s mth args below meth c cells slots Q G hB hc1 hs1 kk
        obtain ⟨hx, hb, hr, hml, hown, hw, hT, hX, hlk, hnm, hfr, hlo⟩ := hB
        (dsimp only at kk; rw [Nat.sub_self, Nat.sub_self, Nat.add_zero, Nat.add_zero] at kk; dsimp only at hc1 hs1; rw [Nat.sub_self, Nat.add_zero] at hc1 hs1)
        exact zs_idiv hx hb hy hd kk
    · cases h
  case irem =>
    cases (show n = 1 from eq_of_beq hlen)
    dsimp only [zStep] at h
    split at h
    · split at h
      · cases h
      · rename_i hy
        cases h
        refine ⟨⟨Nat.le_refl _, Nat.le_refl _⟩, ?_⟩
        intro p l e R s mth args below meth c cells slots Q G hB hc1 hs1 kk
        obtain ⟨hx, hb, hr, hml, hown, hw, hT, hX, hlk, hnm, hfr, hlo⟩ := hB
        (dsimp only at kk; rw [Nat.sub_self, Nat.sub_self, Nat.add_zero, Nat.add_zero] at kk; dsimp only at hc1 hs1; rw [Nat.sub_self, Nat.add_zero] at hc1 hs1)
        exact zs_irem hx hb hy hd kk
    · cases h
  case ldiv =>
    cases (show n = 1 from eq_of_beq hlen)
    dsimp only [zStep] at h
    split at h
    · split at h
      · cases h
      · rename_i hy
        cases h
        refine ⟨⟨Nat.le_refl _, Nat.le_refl _⟩, ?_⟩
        intro p l e R s mth args below meth c cells slots Q G hB hc1 hs1 kk
        obtain ⟨hx, hb, hr, hml, hown, hw, hT, hX, hlk, hnm, hfr, hlo⟩ := hB
        (dsimp only at kk; rw [Nat.sub_self, Nat.sub_self, Nat.add_zero, Nat.add_zero] at kk; dsimp only at hc1 hs1; rw [Nat.sub_self, Nat.add_zero] at hc1 hs1)
        exact zs_ldiv hx hb hy hd kk
    · cases h
  case lrem =>
    cases (show n = 1 from eq_of_beq hlen)
    dsimp only [zStep] at h
    split at h
    · split at h
      · cases h
      · rename_i hy
        cases h
        refine ⟨⟨Nat.le_refl _, Nat.le_refl _⟩, ?_⟩
        intro p l e R s mth args below meth c cells slots Q G hB hc1 hs1 kk
        obtain ⟨hx, hb, hr, hml, hown, hw, hT, hX, hlk, hnm, hfr, hlo⟩ := hB
        (dsimp only at kk; rw [Nat.sub_self, Nat.sub_self, Nat.add_zero, Nat.add_zero] at kk; dsimp only at hc1 hs1; rw [Nat.sub_self, Nat.add_zero] at hc1 hs1)
        exact zs_lrem hx hb hy hd kk
    · cases h
  case lneg =>
    cases (show n = 1 from eq_of_beq hlen)
    dsimp only [zStep] at h
    split at h
    · cases h
      refine ⟨⟨Nat.le_refl _, Nat.le_refl _⟩, ?_⟩
      intro p l e R s mth args below meth c cells slots Q G hB hc1 hs1 kk
      obtain ⟨hx, hb, hr, hml, hown, hw, hT, hX, hlk, hnm, hfr, hlo⟩ := hB
      (dsimp only at kk; rw [Nat.sub_self, Nat.sub_self, Nat.add_zero, Nat.add_zero] at kk; dsimp only at hc1 hs1; rw [Nat.sub_self, Nat.add_zero] at hc1 hs1)
      exact zs_lneg hx hb hd kk
    · cases h
  case lcmp =>
    cases (show n = 1 from eq_of_beq hlen)
    dsimp only [zStep] at h
    split at h
    · cases h
      refine ⟨⟨Nat.le_refl _, Nat.le_refl _⟩, ?_⟩
      intro p l e R s mth args below meth c cells slots Q G hB hc1 hs1 kk
      obtain ⟨hx, hb, hr, hml, hown, hw, hT, hX, hlk, hnm, hfr, hlo⟩ := hB
      (dsimp only at kk; rw [Nat.sub_self, Nat.sub_self, Nat.add_zero, Nat.add_zero] at kk; dsimp only at hc1 hs1; rw [Nat.sub_self, Nat.add_zero] at hc1 hs1)
      exact zs_lcmp hx hb hd kk
    · cases h
  case i2l =>
    cases (show n = 1 from eq_of_beq hlen)
    dsimp only [zStep] at h
    split at h
    · cases h
      refine ⟨⟨Nat.le_refl _, Nat.le_refl _⟩, ?_⟩
      intro p l e R s mth args below meth c cells slots Q G hB hc1 hs1 kk
      obtain ⟨hx, hb, hr, hml, hown, hw, hT, hX, hlk, hnm, hfr, hlo⟩ := hB
      (dsimp only at kk; rw [Nat.sub_self, Nat.sub_self, Nat.add_zero, Nat.add_zero] at kk; dsimp only at hc1 hs1; rw [Nat.sub_self, Nat.add_zero] at hc1 hs1)
      exact zs_i2l hx hb hd kk
    · cases h
  case l2i =>
    cases (show n = 1 from eq_of_beq hlen)
    dsimp only [zStep] at h
    split at h
    · cases h
      refine ⟨⟨Nat.le_refl _, Nat.le_refl _⟩, ?_⟩
      intro p l e R s mth args below meth c cells slots Q G hB hc1 hs1 kk
      obtain ⟨hx, hb, hr, hml, hown, hw, hT, hX, hlk, hnm, hfr, hlo⟩ := hB
      (dsimp only at kk; rw [Nat.sub_self, Nat.sub_self, Nat.add_zero, Nat.add_zero] at kk; dsimp only at hc1 hs1; rw [Nat.sub_self, Nat.add_zero] at hc1 hs1)
      exact zs_l2i hx hb hd kk
    · cases h
  case i2b =>
    cases (show n = 1 from eq_of_beq hlen)
    dsimp only [zStep] at h
    split at h
    · cases h
      refine ⟨⟨Nat.le_refl _, Nat.le_refl _⟩, ?_⟩
      intro p l e R s mth args below meth c cells slots Q G hB hc1 hs1 kk
      obtain ⟨hx, hb, hr, hml, hown, hw, hT, hX, hlk, hnm, hfr, hlo⟩ := hB
      (dsimp only at kk; rw [Nat.sub_self, Nat.sub_self, Nat.add_zero, Nat.add_zero] at kk; dsimp only at hc1 hs1; rw [Nat.sub_self, Nat.add_zero] at hc1 hs1)
      exact zs_i2b hx hb hd kk
    · cases h
  case i2s =>
    cases (show n = 1 from eq_of_beq hlen)
    dsimp only [zStep] at h
    split at h
    · cases h
      refine ⟨⟨Nat.le_refl _, Nat.le_refl _⟩, ?_⟩
      intro p l e R s mth args below meth c cells slots Q G hB hc1 hs1 kk
      obtain ⟨hx, hb, hr, hml, hown, hw, hT, hX, hlk, hnm, hfr, hlo⟩ := hB
      (dsimp only at kk; rw [Nat.sub_self, Nat.sub_self, Nat.add_zero, Nat.add_zero] at kk; dsimp only at hc1 hs1; rw [Nat.sub_self, Nat.add_zero] at hc1 hs1)
      exact zs_i2s hx hb hd kk
    · cases h
  case pop =>
    cases (show n = 1 from eq_of_beq hlen)
    dsimp only [zStep] at h
    split at h
    · cases h
      refine ⟨⟨Nat.le_refl _, Nat.le_refl _⟩, ?_⟩
      intro p l e R s mth args below meth c cells slots Q G hB hc1 hs1 kk
      obtain ⟨hx, hb, hr, hml, hown, hw, hT, hX, hlk, hnm, hfr, hlo⟩ := hB
      (dsimp only at kk; rw [Nat.sub_self, Nat.sub_self, Nat.add_zero, Nat.add_zero] at kk; dsimp only at hc1 hs1; rw [Nat.sub_self, Nat.add_zero] at hc1 hs1)
      exact zs_pop hx hb hd kk
    · cases h
  case dup2 =>
    cases (show n = 1 from eq_of_beq hlen)
    dsimp only [zStep] at h
    split at h
    · cases h
      refine ⟨⟨Nat.le_refl _, Nat.le_refl _⟩, ?_⟩
      intro p l e R s mth args below meth c cells slots Q G hB hc1 hs1 kk
      obtain ⟨hx, hb, hr, hml, hown, hw, hT, hX, hlk, hnm, hfr, hlo⟩ := hB
      (dsimp only at kk; rw [Nat.sub_self, Nat.sub_self, Nat.add_zero, Nat.add_zero] at kk; dsimp only at hc1 hs1; rw [Nat.sub_self, Nat.add_zero] at hc1 hs1)
      exact zs_dup2 hx hb hd kk
    · cases h
  case dup =>
    cases (show n = 1 from eq_of_beq hlen)
    dsimp only [zStep] at h
    split at h
    · cases h
      refine ⟨⟨Nat.le_refl _, Nat.le_refl _⟩, ?_⟩
      intro p l e R s mth args below meth c cells slots Q G hB hc1 hs1 kk
      obtain ⟨hx, hb, hr, hml, hown, hw, hT, hX, hlk, hnm, hfr, hlo⟩ := hB
      (dsimp only at kk; rw [Nat.sub_self, Nat.sub_self, Nat.add_zero, Nat.add_zero] at kk; dsimp only at hc1 hs1; rw [Nat.sub_self, Nat.add_zero] at hc1 hs1)
      exact zs_dupI hx hb hd kk
    · cases h
      refine ⟨⟨Nat.le_refl _, Nat.le_refl _⟩, ?_⟩
      intro p l e R s mth args below meth c cells slots Q G hB hc1 hs1 kk
      obtain ⟨hx, hb, hr, hml, hown, hw, hT, hX, hlk, hnm, hfr, hlo⟩ := hB
      (dsimp only at kk; rw [Nat.sub_self, Nat.sub_self, Nat.add_zero, Nat.add_zero] at kk; dsimp only at hc1 hs1; rw [Nat.sub_self, Nat.add_zero] at hc1 hs1)
      exact zs_dupR hx hb hd kk
    · cases h
  case goto off =>
    cases (show n = 3 from eq_of_beq hlen)
    have h : zGoto pc off lv st m = some x := h
    obtain ⟨ht, hq⟩ := zGoto_inv h
    obtain ⟨x1, x2⟩ := x
    cases hq
    refine ⟨⟨Nat.le_refl _, Nat.le_refl _⟩, ?_⟩
    intro p l e R s mth args below meth c cells slots Q G hB hc1 hs1 kk
    obtain ⟨hx, hb, hr, hml, hown, hw, hT, hX, hlk, hnm, hfr, hlo⟩ := hB
    (dsimp only at kk; rw [Nat.sub_self, Nat.sub_self, Nat.add_zero, Nat.add_zero] at kk; dsimp only at hc1 hs1; rw [Nat.sub_self, Nat.add_zero] at hc1 hs1)
    exact zs_goto hx hb ht hd kk
  case ifCond cd off =>
    cases (show n = 3 from eq_of_beq hlen)
    dsimp only [zStep] at h
    split at h
    · split at h
      · rename_i hq0
        cases h
        refine ⟨⟨Nat.le_refl _, Nat.le_refl _⟩, ?_⟩
        intro p l e R s mth args below meth c cells slots Q G hB hc1 hs1 kk
        obtain ⟨hx, hb, hr, hml, hown, hw, hT, hX, hlk, hnm, hfr, hlo⟩ := hB
        (dsimp only at kk; rw [Nat.sub_self, Nat.sub_self, Nat.add_zero, Nat.add_zero] at kk; dsimp only at hc1 hs1; rw [Nat.sub_self, Nat.add_zero] at hc1 hs1)
        have ht : (pc : Int) + off = ((((pc : Int) + off).toNat : Nat) : Int) := by omega
        cases cd
        · exact zs_if_eq hx hb ht hd (fun q => by rw [if_pos (show cndB .eq _ _ = true from decide_eq_true q)] at kk; exact kk) (fun q => by rw [if_neg (show ¬ cndB .eq _ _ = true from fun w => absurd q (fun z => z (of_decide_eq_true w)))] at kk; exact kk)
        · exact zs_if_ne hx hb ht hd (fun q => by rw [if_pos (show cndB .ne _ _ = true from decide_eq_true q)] at kk; exact kk) (fun q => by rw [if_neg (show ¬ cndB .ne _ _ = true from fun w => absurd q (of_decide_eq_true w))] at kk; exact kk)
        · exact zs_if_lt hx hb ht hd (fun q => by rw [if_pos (show cndB .lt _ _ = true from decide_eq_true q)] at kk; exact kk) (fun q => by rw [if_neg (show ¬ cndB .lt _ _ = true from fun w => absurd q (fun z => z (of_decide_eq_true w)))] at kk; exact kk)
        · exact zs_if_ge hx hb ht hd (fun q => by rw [if_pos (show cndB .ge _ _ = true from decide_eq_true q)] at kk; exact kk) (fun q => by rw [if_neg (show ¬ cndB .ge _ _ = true from fun w => absurd q (fun z => z (of_decide_eq_true w)))] at kk; exact kk)
        · exact zs_if_gt hx hb ht hd (fun q => by rw [if_pos (show cndB .gt _ _ = true from decide_eq_true q)] at kk; exact kk) (fun q => by rw [if_neg (show ¬ cndB .gt _ _ = true from fun w => absurd q (fun z => z (of_decide_eq_true w)))] at kk; exact kk)
        · exact zs_if_le hx hb ht hd (fun q => by rw [if_pos (show cndB .le _ _ = true from decide_eq_true q)] at kk; exact kk) (fun q => by rw [if_neg (show ¬ cndB .le _ _ = true from fun w => absurd q (fun z => z (of_decide_eq_true w)))] at kk; exact kk)
      · cases h
    · cases h
  case if_icmp cd off =>
    cases (show n = 3 from eq_of_beq hlen)
    dsimp only [zStep] at h
    split at h
    · split at h
      · rename_i hq0
        cases h
        refine ⟨⟨Nat.le_refl _, Nat.le_refl _⟩, ?_⟩
        intro p l e R s mth args below meth c cells slots Q G hB hc1 hs1 kk
        obtain ⟨hx, hb, hr, hml, hown, hw, hT, hX, hlk, hnm, hfr, hlo⟩ := hB
        (dsimp only at kk; rw [Nat.sub_self, Nat.sub_self, Nat.add_zero, Nat.add_zero] at kk; dsimp only at hc1 hs1; rw [Nat.sub_self, Nat.add_zero] at hc1 hs1)
        have ht : (pc : Int) + off = ((((pc : Int) + off).toNat : Nat) : Int) := by omega
        cases cd
        · exact zs_icmp_eq hx hb ht hd (fun q => by rw [if_pos (show cndB .eq _ _ = true from decide_eq_true q)] at kk; exact kk) (fun q => by rw [if_neg (show ¬ cndB .eq _ _ = true from fun w => absurd q (fun z => z (of_decide_eq_true w)))] at kk; exact kk)
        · exact zs_icmp_ne hx hb ht hd (fun q => by rw [if_pos (show cndB .ne _ _ = true from decide_eq_true q)] at kk; exact kk) (fun q => by rw [if_neg (show ¬ cndB .ne _ _ = true from fun w => absurd q (of_decide_eq_true w))] at kk; exact kk)
        · exact zs_icmp_lt hx hb ht hd (fun q => by rw [if_pos (show cndB .lt _ _ = true from decide_eq_true q)] at kk; exact kk) (fun q => by rw [if_neg (show ¬ cndB .lt _ _ = true from fun w => absurd q (fun z => z (of_decide_eq_true w)))] at kk; exact kk)
        · exact zs_icmp_ge hx hb ht hd (fun q => by rw [if_pos (show cndB .ge _ _ = true from decide_eq_true q)] at kk; exact kk) (fun q => by rw [if_neg (show ¬ cndB .ge _ _ = true from fun w => absurd q (fun z => z (of_decide_eq_true w)))] at kk; exact kk)
        · exact zs_icmp_gt hx hb ht hd (fun q => by rw [if_pos (show cndB .gt _ _ = true from decide_eq_true q)] at kk; exact kk) (fun q => by rw [if_neg (show ¬ cndB .gt _ _ = true from fun w => absurd q (fun z => z (of_decide_eq_true w)))] at kk; exact kk)
        · exact zs_icmp_le hx hb ht hd (fun q => by rw [if_pos (show cndB .le _ _ = true from decide_eq_true q)] at kk; exact kk) (fun q => by rw [if_neg (show ¬ cndB .le _ _ = true from fun w => absurd q (fun z => z (of_decide_eq_true w)))] at kk; exact kk)
      · cases h
    · cases h
  case tableswitch dflt lo hi offs =>
    dsimp only [zStep] at h
    split at h
    · split at h
      · rename_i hq0
        obtain ⟨ht, hq⟩ := zGoto_inv h
        obtain ⟨x1, x2⟩ := x
        cases hq
        refine ⟨⟨Nat.le_refl _, Nat.le_refl _⟩, ?_⟩
        intro p l e R s mth args below meth c cells slots Q G hB hc1 hs1 kk
        obtain ⟨hx, hb, hr, hml, hown, hw, hT, hX, hlk, hnm, hfr, hlo⟩ := hB
        (dsimp only at kk; rw [Nat.sub_self, Nat.sub_self, Nat.add_zero, Nat.add_zero] at kk; dsimp only at hc1 hs1; rw [Nat.sub_self, Nat.add_zero] at hc1 hs1)
        exact zs_tabOut hx hb hq0 ht hd kk
      · rename_i hq0
        split at h
        · rename_i ho
          obtain ⟨ht, hq⟩ := zGoto_inv h
          obtain ⟨x1, x2⟩ := x
          cases hq
          refine ⟨⟨Nat.le_refl _, Nat.le_refl _⟩, ?_⟩
          intro p l e R s mth args below meth c cells slots Q G hB hc1 hs1 kk
          obtain ⟨hx, hb, hr, hml, hown, hw, hT, hX, hlk, hnm, hfr, hlo⟩ := hB
          (dsimp only at kk; rw [Nat.sub_self, Nat.sub_self, Nat.add_zero, Nat.add_zero] at kk; dsimp only at hc1 hs1; rw [Nat.sub_self, Nat.add_zero] at hc1 hs1)
          exact zs_tabIn hx hb hq0 ho ht hd kk
        · cases h
    · cases h
  case lookupswitch dflt ps =>
    dsimp only [zStep] at h
    split at h
    · split at h
      · rename_i hq0
        obtain ⟨ht, hq⟩ := zGoto_inv h
        obtain ⟨x1, x2⟩ := x
        cases hq
        refine ⟨⟨Nat.le_refl _, Nat.le_refl _⟩, ?_⟩
        intro p l e R s mth args below meth c cells slots Q G hB hc1 hs1 kk
        obtain ⟨hx, hb, hr, hml, hown, hw, hT, hX, hlk, hnm, hfr, hlo⟩ := hB
        (dsimp only at kk; rw [Nat.sub_self, Nat.sub_self, Nat.add_zero, Nat.add_zero] at kk; dsimp only at hc1 hs1; rw [Nat.sub_self, Nat.add_zero] at hc1 hs1)
        exact zs_look hx hb hq0 ht hd kk
      · cases h
    · cases h
  case getfield ix =>
    cases (show n = 3 from eq_of_beq hlen)
    dsimp only [zStep] at h
    split at h
    · split at h
      · rename_i hf
        split at h
        · rename_i hk
          cases h
          refine ⟨⟨Nat.le_refl _, Nat.le_refl _⟩, ?_⟩
          intro p l e R s mth args below meth c cells slots Q G hB hc1 hs1 kk
          obtain ⟨hx, hb, hr, hml, hown, hw, hT, hX, hlk, hnm, hfr, hlo⟩ := hB
          (dsimp only at kk; rw [Nat.sub_self, Nat.sub_self, Nat.add_zero, Nat.add_zero] at kk; dsimp only at hc1 hs1; rw [Nat.sub_self, Nat.add_zero] at hc1 hs1)
          exact zs_getfield hx hb hT hw hown (zk_look2 _ _ _ hf) hk hd kk
        · cases h
      · cases h
    · cases h
  case putfield ix =>
    cases (show n = 3 from eq_of_beq hlen)
    dsimp only [zStep] at h
    split at h
    · split at h
      · rename_i hf
        split at h
        · rename_i hk
          rw [Option.map_eq_some_iff] at h
          obtain ⟨m1, hp, rfl⟩ := h
          have hbut := (zPut_spec (0, 0, fun _ => 0, fun _ _ => 0, fun _ => 0) hp).1
          refine ⟨⟨Nat.le_of_eq hbut.2.1.symm, Nat.le_of_eq hbut.2.2.1.symm⟩, ?_⟩
          intro p l e R s mth args below meth c cells slots Q G hB hc1 hs1 kk
          obtain ⟨hx, hb, hr, hml, hown, hw, hT, hX, hlk, hnm, hfr, hlo⟩ := hB
          dsimp only at kk
          rw [hbut.2.1, hbut.2.2.1, Nat.sub_self, Nat.sub_self, Nat.add_zero, Nat.add_zero] at kk
          exact zs_putfield hx hb hT hw hown (zk_look2 _ _ _ hf) hk.1 hp (hk.2.imp id (fun q => ⟨hnm.trans q.1, q.2⟩)) hd kk
        · cases h
      · cases h
    · cases h
  case iaload =>
    cases (show n = 1 from eq_of_beq hlen)
    dsimp only [zStep] at h
    split at h
    · split at h
      · rename_i hk
        cases h
        refine ⟨⟨Nat.le_refl _, Nat.le_refl _⟩, ?_⟩
        intro p l e R s mth args below meth c cells slots Q G hB hc1 hs1 kk
        obtain ⟨hx, hb, hr, hml, hown, hw, hT, hX, hlk, hnm, hfr, hlo⟩ := hB
        (dsimp only at kk; rw [Nat.sub_self, Nat.sub_self, Nat.add_zero, Nat.add_zero] at kk; dsimp only at hc1 hs1; rw [Nat.sub_self, Nat.add_zero] at hc1 hs1)
        exact zs_iaload hx hb hT hk.1 hk.2 hd kk
      · cases h
    · cases h
  case laload =>
    cases (show n = 1 from eq_of_beq hlen)
    dsimp only [zStep] at h
    split at h
    · split at h
      · rename_i hk
        cases h
        refine ⟨⟨Nat.le_refl _, Nat.le_refl _⟩, ?_⟩
        intro p l e R s mth args below meth c cells slots Q G hB hc1 hs1 kk
        obtain ⟨hx, hb, hr, hml, hown, hw, hT, hX, hlk, hnm, hfr, hlo⟩ := hB
        (dsimp only at kk; rw [Nat.sub_self, Nat.sub_self, Nat.add_zero, Nat.add_zero] at kk; dsimp only at hc1 hs1; rw [Nat.sub_self, Nat.add_zero] at hc1 hs1)
        exact zs_laload hx hb hT hk.1 hk.2 hd kk
      · cases h
    · cases h
  case baload =>
    cases (show n = 1 from eq_of_beq hlen)
    dsimp only [zStep] at h
    split at h
    · split at h
      · rename_i hk
        cases h
        refine ⟨⟨Nat.le_refl _, Nat.le_refl _⟩, ?_⟩
        intro p l e R s mth args below meth c cells slots Q G hB hc1 hs1 kk
        obtain ⟨hx, hb, hr, hml, hown, hw, hT, hX, hlk, hnm, hfr, hlo⟩ := hB
        (dsimp only at kk; rw [Nat.sub_self, Nat.sub_self, Nat.add_zero, Nat.add_zero] at kk; dsimp only at hc1 hs1; rw [Nat.sub_self, Nat.add_zero] at hc1 hs1)
        rcases hk.1 with h3 | h4
        · exact zs_baloadB hx hb hT h3 hk.2 hd kk
        · exact zs_baloadZ hx hb hT h4 hk.2 hd kk
      · cases h
    · cases h
  case aaload =>
    cases (show n = 1 from eq_of_beq hlen)
    dsimp only [zStep] at h
    split at h
    · split at h
      · rename_i hk
        cases h
        refine ⟨⟨Nat.le_refl _, Nat.le_refl _⟩, ?_⟩
        intro p l e R s mth args below meth c cells slots Q G hB hc1 hs1 kk
        obtain ⟨hx, hb, hr, hml, hown, hw, hT, hX, hlk, hnm, hfr, hlo⟩ := hB
        (dsimp only at kk; rw [Nat.sub_self, Nat.sub_self, Nat.add_zero, Nat.add_zero] at kk; dsimp only at hc1 hs1; rw [Nat.sub_self, Nat.add_zero] at hc1 hs1)
        exact zs_aaload hx hb hT hk.1.1 hk.1.2 hk.2 hd kk
      · cases h
    · cases h
  case iastore =>
    cases (show n = 1 from eq_of_beq hlen)
    dsimp only [zStep] at h
    split at h
    · split at h
      · rename_i hk
        cases h
        refine ⟨⟨Nat.le_refl _, Nat.le_refl _⟩, ?_⟩
        intro p l e R s mth args below meth c cells slots Q G hB hc1 hs1 kk
        obtain ⟨hx, hb, hr, hml, hown, hw, hT, hX, hlk, hnm, hfr, hlo⟩ := hB
        have kk : zGo p l e R s mth args below meth c Q G s.heap (zML y) (cells + (memN m - memN m)) (slots + (memS m - memS m)) _ _ _ _ := kk
        rw [Nat.sub_self, Nat.sub_self, Nat.add_zero, Nat.add_zero] at kk
        exact zs_iastore hx hb hT hk.1 hk.2 hd kk
      · cases h
    · cases h
  case lastore =>
    cases (show n = 1 from eq_of_beq hlen)
    dsimp only [zStep] at h
    split at h
    · split at h
      · rename_i hk
        cases h
        refine ⟨⟨Nat.le_refl _, Nat.le_refl _⟩, ?_⟩
        intro p l e R s mth args below meth c cells slots Q G hB hc1 hs1 kk
        obtain ⟨hx, hb, hr, hml, hown, hw, hT, hX, hlk, hnm, hfr, hlo⟩ := hB
        have kk : zGo p l e R s mth args below meth c Q G s.heap (zML y) (cells + (memN m - memN m)) (slots + (memS m - memS m)) _ _ _ _ := kk
        rw [Nat.sub_self, Nat.sub_self, Nat.add_zero, Nat.add_zero] at kk
        exact zs_lastore hx hb hT hk.1 hk.2 hd kk
      · cases h
    · cases h
  case bastore =>
    cases (show n = 1 from eq_of_beq hlen)
    dsimp only [zStep] at h
    split at h
    · split at h
      · rename_i hj
        split at h
        · rename_i hk
          cases h
          refine ⟨⟨Nat.le_refl _, Nat.le_refl _⟩, ?_⟩
          intro p l e R s mth args below meth c cells slots Q G hB hc1 hs1 kk
          obtain ⟨hx, hb, hr, hml, hown, hw, hT, hX, hlk, hnm, hfr, hlo⟩ := hB
          have kk : zGo p l e R s mth args below meth c Q G s.heap (zML y) (cells + (memN m - memN m)) (slots + (memS m - memS m)) _ _ _ _ := kk
          rw [Nat.sub_self, Nat.sub_self, Nat.add_zero, Nat.add_zero] at kk
          exact zs_bastoreB hx hb hT hk hj hd kk
        · split at h
          · rename_i hk
            cases h
            refine ⟨⟨Nat.le_refl _, Nat.le_refl _⟩, ?_⟩
            intro p l e R s mth args below meth c cells slots Q G hB hc1 hs1 kk
            obtain ⟨hx, hb, hr, hml, hown, hw, hT, hX, hlk, hnm, hfr, hlo⟩ := hB
            have kk : zGo p l e R s mth args below meth c Q G s.heap (zML y) (cells + (memN m - memN m)) (slots + (memS m - memS m)) _ _ _ _ := kk
            rw [Nat.sub_self, Nat.sub_self, Nat.add_zero, Nat.add_zero] at kk
            exact zs_bastoreZ hx hb hT hk hj hd kk
          · cases h
      · cases h
    · cases h
  case aastore =>
    cases (show n = 1 from eq_of_beq hlen)
    dsimp only [zStep] at h
    split at h
    · split at h
      · rename_i hk
        cases h
        refine ⟨⟨Nat.le_refl _, Nat.le_refl _⟩, ?_⟩
        intro p l e R s mth args below meth c cells slots Q G hB hc1 hs1 kk
        obtain ⟨hx, hb, hr, hml, hown, hw, hT, hX, hlk, hnm, hfr, hlo⟩ := hB
        have kk : zGo p l e R s mth args below meth c Q G s.heap (zML y) (cells + (memN m - memN m)) (slots + (memS m - memS m)) _ _ _ _ := kk
        rw [Nat.sub_self, Nat.sub_self, Nat.add_zero, Nat.add_zero] at kk
        rcases hk.1 with h5 | h6
        · exact zs_aastore (cl := 10) hx hb hT h5.1 (Or.inl ⟨rfl, rfl⟩) h5.2 hk.2 hd kk
        · exact zs_aastore (cl := 3) hx hb hT h6.1 (Or.inr ⟨rfl, rfl⟩) h6.2 hk.2 hd kk
      · cases h
    · cases h
  case arraylength =>
    cases (show n = 1 from eq_of_beq hlen)
    dsimp only [zStep] at h
    split at h
    · split at h
      · rename_i hk
        cases h
        refine ⟨⟨Nat.le_refl _, Nat.le_refl _⟩, ?_⟩
        intro p l e R s mth args below meth c cells slots Q G hB hc1 hs1 kk
        obtain ⟨hx, hb, hr, hml, hown, hw, hT, hX, hlk, hnm, hfr, hlo⟩ := hB
        (dsimp only at kk; rw [Nat.sub_self, Nat.sub_self, Nat.add_zero, Nat.add_zero] at kk; dsimp only at hc1 hs1; rw [Nat.sub_self, Nat.add_zero] at hc1 hs1)
        exact zs_arraylength hx hb hT hk.1 hk.2 hd kk
      · cases h
    · cases h
  case new ix =>
    cases (show n = 3 from eq_of_beq hlen)
    dsimp only [zStep] at h
    split at h
    · rename_i cl hf
      split at h
      · rename_i hk
        cases h
        refine ⟨⟨Nat.le_succ _, Nat.le_add_right _ _⟩, ?_⟩
        intro p l e R s mth args below meth c cells slots Q G hB hc1 hs1 kk
        obtain ⟨hx, hb, hr, hml, hown, hw, hT, hX, hlk, hnm, hfr, hlo⟩ := hB
        have eN : memN (mkCell m (100 + cl) (zN cl)) - memN m = 1 := by show memN m + 1 - memN m = 1; omega
        have eS : memS (mkCell m (100 + cl) (zN cl)) - memS m = zN cl := by show memS m + zN cl - memS m = zN cl; omega
        dsimp only at hc1 hs1 kk
        rw [eN] at hc1 kk
        rw [eS] at hs1 kk
        exact zs_new hx hb hT hw hown (zk_look2 _ _ _ hf) hk hc1 hs1 hd kk
      · cases h
    · cases h
  case newarray at9 =>
    cases (show n = 2 from eq_of_beq hlen)
    dsimp only [zStep] at h
    split at h
    · rename_i k9 r9
      split at h
      · rename_i hk
        cases h
        refine ⟨⟨Nat.le_succ _, Nat.le_add_right _ _⟩, ?_⟩
        intro p l e R s mth args below meth c cells slots Q G hB hc1 hs1 kk
        obtain ⟨hx, hb, hr, hml, hown, hw, hT, hX, hlk, hnm, hfr, hlo⟩ := hB
        have eN : memN (mkCell m (zATag at9) k9.toNatClampNeg) - memN m = 1 := by show memN m + 1 - memN m = 1; omega
        have eS : memS (mkCell m (zATag at9) k9.toNatClampNeg) - memS m = k9.toNatClampNeg := by show memS m + k9.toNatClampNeg - memS m = k9.toNatClampNeg; omega
        dsimp only at hc1 hs1 kk
        rw [eN] at hc1 kk
        rw [eS] at hs1 kk
        exact zs_newarray hx hb hT hw hk.1 hk.2.1 hk.2.2 hc1 hs1 hd kk
      · cases h
    · cases h
  case anewarray ix =>
    cases (show n = 3 from eq_of_beq hlen)
    dsimp only [zStep] at h
    split at h
    · rename_i k9 r9
      split at h
      · rename_i cl hf
        split at h
        · rename_i hk
          cases h
          refine ⟨⟨Nat.le_succ _, Nat.le_add_right _ _⟩, ?_⟩
          intro p l e R s mth args below meth c cells slots Q G hB hc1 hs1 kk
          obtain ⟨hx, hb, hr, hml, hown, hw, hT, hX, hlk, hnm, hfr, hlo⟩ := hB
          have eN : memN (mkCell m (if cl = 10 then 5 else 6) k9.toNatClampNeg) - memN m = 1 := by show memN m + 1 - memN m = 1; omega
          have eS : memS (mkCell m (if cl = 10 then 5 else 6) k9.toNatClampNeg) - memS m = k9.toNatClampNeg := by show memS m + k9.toNatClampNeg - memS m = k9.toNatClampNeg; omega
          dsimp only at hc1 hs1 kk
          rw [eN] at hc1 kk
          rw [eS] at hs1 kk
          exact zs_anewarray hx hb hT hw hown (zk_look2 _ _ _ hf) (by rcases hk.1 with rfl | rfl <;> decide) hk.2.1 hk.2.2 hc1 hs1 hd kk
        · cases h
      · cases h
    · cases h
  case multianewarray ix k =>
    cases (show n = 4 from eq_of_beq hlen)
    dsimp only [zStep] at h
    split at h
    · rename_i b9 a9 r9
      split at h
      · rename_i hk
        cases h
        obtain ⟨gN, gS⟩ := mkGrid_N m a9.toNatClampNeg b9.toNatClampNeg
        refine ⟨⟨by rw [gN]; exact Nat.le_add_right _ _, by rw [gS]; exact Nat.le_add_right _ _⟩, ?_⟩
        intro p l e R s mth args below meth c cells slots Q G hB hc1 hs1 kk
        obtain ⟨hx, hb, hr, hml, hown, hw, hT, hX, hlk, hnm, hfr, hlo⟩ := hB
        dsimp only at hc1 hs1 kk
        rw [gN, Nat.add_sub_cancel_left] at hc1 kk
        rw [gS, Nat.add_sub_cancel_left] at hs1 kk
        obtain ⟨rfl, hf, h3, h4, h5, h6⟩ := hk
        exact zs_mna hx hb hT hw hown (zk_look2 _ _ _ hf) h3 h4 h5 h6 hc1 hs1 hd kk
      · cases h
    · cases h
  case invokespecial ix =>
    cases (show n = 3 from eq_of_beq hlen)
    dsimp only [zStep] at h
    split at h
    · split at h
      · rename_i hk
        cases h
        refine ⟨⟨Nat.le_refl _, Nat.le_refl _⟩, ?_⟩
        intro p l e R s mth args below meth c cells slots Q G hB hc1 hs1 kk
        obtain ⟨hx, hb, hr, hml, hown, hw, hT, hX, hlk, hnm, hfr, hlo⟩ := hB
        (dsimp only at kk; rw [Nat.sub_self, Nat.sub_self, Nat.add_zero, Nat.add_zero] at kk; dsimp only at hc1 hs1; rw [Nat.sub_self, Nat.add_zero] at hc1 hs1)
        have hl1 := hw _ (zw_cal hk.1 (by decide))
        exact zs_objInit hx hb hml hown hl1 (hw _ zw_misc.1) (hw _ zw_misc.2.1) hk.2.2 (by omega) (by omega) hd kk
      · cases h
    · cases h
  case invokestatic ix =>
    cases (show n = 3 from eq_of_beq hlen)
    dsimp only [zStep] at h
    split at h
    · rename_i k9 z9 hcl
      split at h
      · rename_i hk5
        subst hk5
        split at h
        · split at h
          · rename_i hk
            obtain ⟨k2, k3, ⟨k4, k5, k6⟩, k7, k8⟩ := hk
            split at h
            · rename_i hkk
              cases h
              refine ⟨⟨Nat.le_refl _, Nat.le_refl _⟩, ?_⟩
              intro p l e R s mth args below meth c cells slots Q G hB hc1 hs1 kk
              obtain ⟨hx, hb, hr, hml, hown, hw, hT, hX, hlk, hnm, hfr, hlo⟩ := hB
              have kk : zGo p l e R s mth args below meth c Q G s.heap (zML y) (cells + (memN m - memN m)) (slots + (memS m - memS m)) _ _ _ _ := kk
              rw [Nat.sub_self, Nat.sub_self, Nat.add_zero, Nat.add_zero] at kk
              have hl1 := hw _ (zw_cal hcl (by decide))
              exact zs_copyI hx hb hml hT hown hl1 (hw _ zw_misc.2.2.1) (hw _ zw_misc.2.2.2.1) (hw _ zw_misc.2.2.2.2) hkk.1 hkk.2 k4 k5 k6 k7 k8 k3 (by omega) (by omega) hd kk
            · split at h
              · rename_i hkk
                cases h
                refine ⟨⟨Nat.le_refl _, Nat.le_refl _⟩, ?_⟩
                intro p l e R s mth args below meth c cells slots Q G hB hc1 hs1 kk
                obtain ⟨hx, hb, hr, hml, hown, hw, hT, hX, hlk, hnm, hfr, hlo⟩ := hB
                have kk : zGo p l e R s mth args below meth c Q G s.heap (zML y) (cells + (memN m - memN m)) (slots + (memS m - memS m)) _ _ _ _ := kk
                rw [Nat.sub_self, Nat.sub_self, Nat.add_zero, Nat.add_zero] at kk
                have hl1 := hw _ (zw_cal hcl (by decide))
                exact zs_copyL hx hb hml hT hown hl1 (hw _ zw_misc.2.2.1) (hw _ zw_misc.2.2.2.1) (hw _ zw_misc.2.2.2.2) hkk.1 hkk.2 k4 k5 k6 k7 k8 k3 (by omega) (by omega) hd kk
              · cases h
          · cases h
        · cases h
      · split at h
        · rename_i hk5
          subst hk5
          split at h
          · split at h
            · rename_i hk
              cases h
              refine ⟨⟨Nat.le_refl _, Nat.le_refl _⟩, ?_⟩
              intro p l e R s mth args below meth c cells slots Q G hB hc1 hs1 kk
              obtain ⟨hx, hb, hr, hml, hown, hw, hT, hX, hlk, hnm, hfr, hlo⟩ := hB
              (dsimp only at kk; rw [Nat.sub_self, Nat.sub_self, Nat.add_zero, Nat.add_zero] at kk; dsimp only at hc1 hs1; rw [Nat.sub_self, Nat.add_zero] at hc1 hs1)
              have hl1 := hw _ (zw_cal hcl (by decide))
              intro ls H locs hS hl
              exact va_mmax hx hb (by rw [hml]; exact hl.1.symm) hown hl1 (hw _ zw_math.1) (hw _ zw_math.2.2.2.1) (hw _ zw_math.2.2.2.2.1) (by omega) (by rw [cvV_sum]; omega) (by omega) (by omega) hd (kk ls H locs hS hl)
            · cases h
          · cases h
        · split at h
          · rename_i hk5
            subst hk5
            split at h
            · split at h
              · rename_i hk
                cases h
                refine ⟨⟨Nat.le_refl _, Nat.le_refl _⟩, ?_⟩
                intro p l e R s mth args below meth c cells slots Q G hB hc1 hs1 kk
                obtain ⟨hx, hb, hr, hml, hown, hw, hT, hX, hlk, hnm, hfr, hlo⟩ := hB
                (dsimp only at kk; rw [Nat.sub_self, Nat.sub_self, Nat.add_zero, Nat.add_zero] at kk; dsimp only at hc1 hs1; rw [Nat.sub_self, Nat.add_zero] at hc1 hs1)
                have hl1 := hw _ (zw_cal hcl (by decide))
                intro ls H locs hS hl
                exact va_mmin hx hb (by rw [hml]; exact hl.1.symm) hown hl1 (hw _ zw_math.2.1) (hw _ zw_math.2.2.2.1) (hw _ zw_math.2.2.2.2.2.1) (by omega) (by rw [cvV_sum]; omega) (by omega) (by omega) hd (kk ls H locs hS hl)
              · cases h
            · cases h
          · split at h
            · rename_i hk5
              subst hk5
              split at h
              · split at h
                · rename_i hk
                  cases h
                  refine ⟨⟨Nat.le_refl _, Nat.le_refl _⟩, ?_⟩
                  intro p l e R s mth args below meth c cells slots Q G hB hc1 hs1 kk
                  obtain ⟨hx, hb, hr, hml, hown, hw, hT, hX, hlk, hnm, hfr, hlo⟩ := hB
                  (dsimp only at kk; rw [Nat.sub_self, Nat.sub_self, Nat.add_zero, Nat.add_zero] at kk; dsimp only at hc1 hs1; rw [Nat.sub_self, Nat.add_zero] at hc1 hs1)
                  have hl1 := hw _ (zw_cal hcl (by decide))
                  intro ls H locs hS hl
                  exact va_mabs_long hx hb (by rw [hml]; exact hl.1.symm) hown hl1 (hw _ zw_math.2.2.1) (hw _ zw_math.2.2.2.1) (hw _ zw_math.2.2.2.2.2.2) (by omega) (by rw [cvV_sum]; omega) (by omega) (by omega) hd (kk ls H locs hS hl)
                · cases h
              · cases h
            · cases h
    · cases h
  case invokevirtual ix =>
    cases (show n = 3 from eq_of_beq hlen)
    dsimp only [zStep] at h
    split at h
    · split at h
      · rename_i hk
        cases h
        refine ⟨⟨Nat.le_refl _, Nat.le_refl _⟩, ?_⟩
        intro p l e R s mth args below meth c cells slots Q G hB hc1 hs1 kk
        obtain ⟨hx, hb, hr, hml, hown, hw, hT, hX, hlk, hnm, hfr, hlo⟩ := hB
        (dsimp only at kk; rw [Nat.sub_self, Nat.sub_self, Nat.add_zero, Nat.add_zero] at kk; dsimp only at hc1 hs1; rw [Nat.sub_self, Nat.add_zero] at hc1 hs1)
        exact zs_strlen hx hb hml hw hX hown (zk_look2 _ _ _ hk.1) hk.2.2 (by omega) (by omega) (by omega) (by omega) rfl hd kk
      · cases h
    · split at h
      · rename_i hk
        cases h
        refine ⟨⟨Nat.le_refl _, Nat.le_refl _⟩, ?_⟩
        intro p l e R s mth args below meth c cells slots Q G hB hc1 hs1 kk
        obtain ⟨hx, hb, hr, hml, hown, hw, hT, hX, hlk, hnm, hfr, hlo⟩ := hB
        (dsimp only at kk; rw [Nat.sub_self, Nat.sub_self, Nat.add_zero, Nat.add_zero] at kk; dsimp only at hc1 hs1; rw [Nat.sub_self, Nat.add_zero] at hc1 hs1)
        exact zs_charAt hx hb hml hw hX hown (zk_look2 _ _ _ hk.1) hk.2.2.2 hk.2.2.1 (by omega) (by omega) (by omega) (by omega) rfl hd kk
      · cases h
    · cases h
  case ldc ix =>
    cases (show n = 2 from eq_of_beq hlen)
    dsimp only [zStep] at h
    split at h
    · rename_i hk
      cases h
      refine ⟨⟨Nat.le_refl _, Nat.le_refl _⟩, ?_⟩
      intro p l e R s mth args below meth c cells slots Q G hB hc1 hs1 kk
      obtain ⟨hx, hb, hr, hml, hown, hw, hT, hX, hlk, hnm, hfr, hlo⟩ := hB
      (dsimp only at kk; rw [Nat.sub_self, Nat.sub_self, Nat.add_zero, Nat.add_zero] at kk; dsimp only at hc1 hs1; rw [Nat.sub_self, Nat.add_zero] at hc1 hs1)
      rw [hk.1] at hown
      rw [hk.2] at hd
      exact zs_ldcS hx hb hX hown hd kk
    · rw [Option.map_eq_some_iff] at h
      obtain ⟨v9, hv, rfl⟩ := h
      refine ⟨⟨Nat.le_refl _, Nat.le_refl _⟩, ?_⟩
      intro p l e R s mth args below meth c cells slots Q G hB hc1 hs1 kk
      obtain ⟨hx, hb, hr, hml, hown, hw, hT, hX, hlk, hnm, hfr, hlo⟩ := hB
      (dsimp only at kk; rw [Nat.sub_self, Nat.sub_self, Nat.add_zero, Nat.add_zero] at kk; dsimp only at hc1 hs1; rw [Nat.sub_self, Nat.add_zero] at hc1 hs1)
      exact zs_ldc hx hb hown (hw _ (zCon_in hv)) hd kk
  case ldc_w ix =>
    cases (show n = 3 from eq_of_beq hlen)
    dsimp only [zStep] at h
    rw [Option.map_eq_some_iff] at h
    obtain ⟨v9, hv, rfl⟩ := h
    refine ⟨⟨Nat.le_refl _, Nat.le_refl _⟩, ?_⟩
    intro p l e R s mth args below meth c cells slots Q G hB hc1 hs1 kk
    obtain ⟨hx, hb, hr, hml, hown, hw, hT, hX, hlk, hnm, hfr, hlo⟩ := hB
    (dsimp only at kk; rw [Nat.sub_self, Nat.sub_self, Nat.add_zero, Nat.add_zero] at kk; dsimp only at hc1 hs1; rw [Nat.sub_self, Nat.add_zero] at hc1 hs1)
    exact zs_ldc_w hx hb hown (hw _ (zCon_in hv)) hd kk
  case ldc2_w ix =>
    cases (show n = 3 from eq_of_beq hlen)
    dsimp only [zStep] at h
    rw [Option.map_eq_some_iff] at h
    obtain ⟨v9, hv, rfl⟩ := h
    refine ⟨⟨Nat.le_refl _, Nat.le_refl _⟩, ?_⟩
    intro p l e R s mth args below meth c cells slots Q G hB hc1 hs1 kk
    obtain ⟨hx, hb, hr, hml, hown, hw, hT, hX, hlk, hnm, hfr, hlo⟩ := hB
    (dsimp only at kk; rw [Nat.sub_self, Nat.sub_self, Nat.add_zero, Nat.add_zero] at kk; dsimp only at hc1 hs1; rw [Nat.sub_self, Nat.add_zero] at hc1 hs1)
    exact zs_ldc2 hx hb hown (hw _ (zConL_in hv)) hd kk
  all_goals exact nomatch (show (none : zNx) = some x from h)
