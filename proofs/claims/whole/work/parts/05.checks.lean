/-! What the tables of the program say is what the Statement's tables say: decided, each family of words by one pass along the Statement's list -/
def zSub : List Jvm.Cond → List Jvm.Cond → Bool
  | [], ws => ws.isEmpty
  | _ :: _, [] => true
  | b :: bs, w :: ws => if w = b then zSub bs ws else zSub bs (w :: ws)
theorem zSub_mem : ∀ (bs ws : List Jvm.Cond), zSub bs ws = true → ∀ w ∈ ws, w ∈ bs
  | [], ws, h, w, hw => by
    cases ws with
    | nil => exact hw
    | cons a l => simp [zSub] at h
  | b :: bs, [], _, w, hw => by cases hw
  | b :: bs, a :: ws, h, w, hw => by
    unfold zSub at h
    split at h
    · rename_i e
      subst e
      rcases List.mem_cons.mp hw with e | e
      · exact e ▸ List.mem_cons_self
      · exact List.mem_cons_of_mem _ (zSub_mem bs ws h w e)
    · exact List.mem_cons_of_mem _ (zSub_mem bs (a :: ws) h w hw)
def zTw : List Jvm.Cond := lw_tbl.filter goodWord
theorem zTw_good : ∀ w ∈ zTw, w ∈ zTw ∧ ((w.onTables && w.keeps) = true ∨ ∃ ty, w = .arrayClass ty) := fun w h => ⟨h, good_of_word (List.mem_filter.mp h).2⟩
theorem zTw_in : ∀ w ∈ zTw, w ∈ lw_tbl := fun w h => (List.mem_filter.mp h).1
theorem zTw_of {ws : List Jvm.Cond} (h : zSub tables_1 ws = true) (w : Jvm.Cond) (hw : w ∈ ws) (hg : goodWord w = true) : w ∈ zTw := List.mem_filter.mpr ⟨List.mem_append_right _ (zSub_mem _ _ h w hw), hg⟩
def zwFld (q : (Nat × Nat) × (Nat × Nat)) : Jvm.Cond := .fieldLink (zCn q.1.1) q.1.2 (zCn q.2.1) (zU q.2.1 q.2.2).2.1 (zU q.2.1 q.2.2).2.2.1
set_option maxRecDepth 100000 in
theorem zwFld_ok : zSub tables_1 (zFld.map zwFld) = true := by decide +kernel
set_option maxRecDepth 100000 in
theorem zwFld_in : zFld.all (fun q => decide (q.2.1 < 13) && decide (q.2.2 < zN q.2.1)) = true := by decide +kernel
set_option maxRecDepth 100000 in
theorem zwCon_ok : zSub tables_1 (zCon.map (fun q => .constant (zCn q.1.1) q.1.2 q.2)) = true := by decide +kernel
set_option maxRecDepth 100000 in
theorem zwConL_ok : zSub tables_1 (zConL.map (fun q => .constantLong (zCn q.1.1) q.1.2 q.2)) = true := by decide +kernel
def zwNew (q : (Nat × Nat) × Nat) : Jvm.Cond := .classLink (zCn q.1.1) q.1.2 (if q.2 = 99 then "[[I" else zCn q.2)
set_option maxRecDepth 100000 in
theorem zwNew_ok : zSub tables_1 (zNew.map zwNew) = true := by decide +kernel
def zwCode (q : MethodName × ByteArray × Nat × Option FieldType × Nat × Nat) : Jvm.Cond := .code q.1 q.2.1 q.2.2.1 q.2.2.2.1
set_option maxRecDepth 100000 in
theorem zwCode_ok : tables_1.filter k2_isCode = zM.map zwCode := by rfl
set_option maxRecDepth 100000 in
theorem zwSts_ok : zSub tables_1 (zSts.map (fun y => .static (zNm y))) = true := by decide +kernel
set_option maxRecDepth 100000 in
theorem zwIns_ok : zSub tables_1 (zIns1.map (fun y => .instanceMethod (zNm y))) = true := by decide +kernel
set_option maxRecDepth 100000 in
theorem zwSel_ok : zSub tables_1 (zSel.map (fun y => .selects (zNm y).cls (zNm y) (zNm y))) = true := by decide +kernel
set_option maxRecDepth 100000 in
theorem zwPrv_ok : zSub (k2_sels lw_privs) (zPrv.map (fun y => .selects (zNm y).cls (zNm y) (zNm y))) = true := by decide +kernel
set_option maxRecDepth 100000 in
theorem zwIni_ok : zSub tables_1 (zIni.map (fun c => .initialized (zCn c))) = true := by decide +kernel
set_option maxRecDepth 100000 in
theorem zwInst_ok : zSub tables_1 ([11, 3, 8, 4, 9, 0, 5, 6, 7, 2, 1, 10, 12].map (fun c => .instantiable (zCn c) (zN c))) = true := by decide +kernel
set_option maxRecDepth 100000 in
theorem zwLay_ok : zSub tables_1 (zLay.flatMap (fun c => u_ws (zCn c) (zU c) (zN c))) = true := by decide +kernel
def zwCal (q : (Nat × Nat) × (Nat × Nat)) : Jvm.Cond := .methodLink (zCn q.1.1) q.1.2 (if q.2.1 = 4 then objectInit else if q.2.1 = 5 then arraycopyName else if q.2.1 = 6 then ⟨"java/lang/String", "length", "()I"⟩ else if q.2.1 = 7 then ⟨"java/lang/String", "charAt", "(I)C"⟩ else if q.2.1 = 9 then Lib.Math.max.name else if q.2.1 = 10 then Lib.Math.min.name else if q.2.1 = 11 then Lib.MathLoose.abs_long.x else zNm q.2.2)
def zNest (q : (Nat × Nat) × (Nat × Nat)) : Bool := q.2.1 == 2 || q.2.1 == 3
set_option maxRecDepth 100000 in
theorem zwCal_ok : zSub tables_1 ((zCal.filter (fun q => !zNest q)).map zwCal) = true := by decide +kernel
def zwNst (q : (Nat × Nat) × (Nat × Nat)) : Jvm.Cond := .methodLinkNest (zCn q.1.1) q.1.2 (zNm q.2.2) "AlmostTax"
set_option maxRecDepth 100000 in
theorem zwNst_ok : zSub tables_1 ((zCal.filter zNest).map zwNst) = true := by decide +kernel
