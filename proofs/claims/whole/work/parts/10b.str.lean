/-! The one String constant: String.length() and String.charAt(int) of it, and what they call -/
theorem lg_sl_len : ∀ vs : List Value, (lg_sl vs).length = (vs.map fun v => v.category).sum
  | [] => rfl
  | v :: vs => by
    have h := lg_sl_len vs
    show ((if v.category = 2 then [Slot.val v, .second] else [.val v]) ++ lg_sl vs).length = v.category + (vs.map fun v => v.category).sum
    rw [List.length_append, h]
    cases v <;> rfl
theorem zM_len : zM.length = 346 := by decide +kernel
def zWs (z : Nat) : List Jvm.Cond := Jvm.Cond.code (zNm z) (zB z) (zML z) (zRt z) :: zTw
theorem zWs_eq (z : Nat) : zWs z = Jvm.Cond.code (zNm z) (zB z) (zML z) (zRt z) :: zTw := rfl
def zWordsS : String := "odds allow deed rate hard cost payer house purse wage near done step shrink year any when owes loop end stop "
/-- the one String constant: its place, its bytes, that strings are compact, and what checkIndex carries along -/
def zStr (G : zG) (U : State) : Prop := vk_R "AlmostTax$Tokens" 19 zWordsS G.2.1 U ∧ (∃ aV, vk_S 1 [zWordsText.length] [zWordsText.map nI] (fun _ => G.2.1) (fun _ => aV) (fun q => G.1 ≤ q) U U.heap) ∧ va_Z "java/lang/String" "COMPACT_STRINGS" "Z" (.int 1) (fun q => G.1 ≤ q) U U.heap ∧ va_Zq "jdk/internal/util/Preconditions" "SIOOBE_FORMATTER" "Ljava/util/function/BiFunction;" (fun q => G.1 ≤ q) U U.heap
theorem zStr.warm {G : zG} {s U : State} (hW : s.WarmedH U.vm) (hH : ∀ q : Nat, q < G.1 → U.heap[q]? = s.heap[q]?) (h : zStr G s) : zStr G U := by
  obtain ⟨h1, ⟨aV, h2⟩, h3, h4⟩ := h
  exact ⟨h1.warm hW, ⟨aV, (h2.moved hW.alike).kept (fun a _ ha => hH a (Nat.not_le.mp ha))⟩, (h3.moved hW.alike).kept (fun a _ ha => hH a (Nat.not_le.mp ha)), (h4.moved hW.alike).kept (fun a _ ha => hH a (Nat.not_le.mp ha))⟩
theorem zStr.same {G : zG} {u U : State} (h : U.vm = u.vm) (hH : U.heap = u.heap) (hX : zStr G u) : zStr G U := by
  have hal : u.vm.Alike U.vm := by rw [h]; exact Vm.Alike.refl _
  obtain ⟨h1, ⟨aV, h2⟩, h3, h4⟩ := hX
  exact ⟨h1.same h, ⟨aV, (h2.moved hal).kept (fun a _ _ => by rw [hH])⟩, (h3.moved hal).kept (fun a _ _ => by rw [hH]), (h4.moved hal).kept (fun a _ _ => by rw [hH])⟩
theorem zCode_in {z : Nat} (hz : z < 346) : Jvm.Cond.code (zNm z) (zB z) (zML z) (zRt z) ∈ zTw := by
  cases hq : zM[z]? with
  | none =>
    have := List.getElem?_eq_none_iff.mp hq
    rw [zM_len] at this
    omega
  | some q =>
    have e1 : zNm z = q.1 := by unfold zNm; rw [hq]; rfl
    have e2 : zB z = q.2.1 := by unfold zB; rw [hq]; rfl
    have e3 : zML z = q.2.2.1 := by unfold zML; rw [hq]; rfl
    have e4 : zRt z = q.2.2.2.1 := by unfold zRt; rw [hq]; rfl
    rw [e1, e2, e3, e4]
    have h2 : zwCode q ∈ tables_1.filter k2_isCode := by rw [zwCode_ok]; exact List.mem_map.mpr ⟨q, List.mem_of_getElem? hq, rfl⟩
    exact List.mem_filter.mpr ⟨List.mem_append_right _ (List.mem_filter.mp h2).1, rfl⟩
theorem zWs_goodS {z : Nat} (hz : z < 346) : GoodIn zTw (zWs z) := by
  intro w hw
  rcases List.mem_cons.mp hw with rfl | hw
  · exact zTw_good _ (zCode_in hz)
  · exact zTw_good _ hw
def nLen : MethodName := ⟨"java/lang/String", "length", "()I"⟩
def nCoder : MethodName := ⟨"java/lang/String", "coder", "()B"⟩
def nCharAt : MethodName := ⟨"java/lang/String", "charAt", "(I)C"⟩
def nLatin1 : MethodName := ⟨"java/lang/String", "isLatin1", "()Z"⟩
def nL1At : MethodName := ⟨"java/lang/StringLatin1", "charAt", "([BI)C"⟩
def nCheck : MethodName := ⟨"java/lang/String", "checkIndex", "(II)V"⟩
def nPre : MethodName := ⟨"jdk/internal/util/Preconditions", "checkIndex", "(IILjava/util/function/BiFunction;)I"⟩
theorem zs_nm : zNm 6 = nLen ∧ zNm 7 = nCoder ∧ zNm 8 = nCharAt ∧ zNm 9 = nLatin1 ∧ zNm 10 = nL1At ∧ zNm 11 = nCheck ∧ zNm 12 = nPre := by decide +kernel
theorem zs_ml : (zML 6 = 1 ∧ zML 7 = 1 ∧ zML 8 = 2 ∧ zML 9 = 1 ∧ zML 10 = 2 ∧ zML 11 = 2 ∧ zML 12 = 3) ∧ (zRt 6 = some .int ∧ zRt 7 = some .byte ∧ zRt 8 = some .char ∧ zRt 9 = some .boolean ∧ zRt 10 = some .char ∧ zRt 11 = none ∧ zRt 12 = some .int) := by decide +kernel
def zStrW : List Jvm.Cond := [.initialized "java/lang/String", .initialized "java/lang/StringLatin1", .initialized "jdk/internal/util/Preconditions", .instanceMethod nLen, .selects "java/lang/String" nLen nLen, .instanceMethod nCoder, .selects "java/lang/String" nCoder nCoder, .methodLink "java/lang/String" 335 nCoder, .fieldLink "java/lang/String" 38 "java/lang/String" "COMPACT_STRINGS" "Z", .fieldLink "java/lang/String" 9 "java/lang/String" "value" "[B", .fieldLink "java/lang/String" 15 "java/lang/String" "coder" "B",
  .instanceMethod nCharAt, .selects "java/lang/String" nCharAt nCharAt, .instanceMethod nLatin1, .selects "java/lang/String" nLatin1 nLatin1, .methodLink "java/lang/String" 492 nLatin1, .methodLink "java/lang/String" 495 nL1At, .static nL1At, .methodLink "java/lang/StringLatin1" 9 nCheck, .static nCheck, .methodLink "java/lang/String" 1059 nPre, .static nPre, .fieldLink "java/lang/String" 1053 "jdk/internal/util/Preconditions" "SIOOBE_FORMATTER" "Ljava/util/function/BiFunction;"]
set_option maxRecDepth 100000 in
theorem zStrW_ok : zStrW.all (fun w => decide (w ∈ tables_1)) = true := by decide +kernel
theorem zStrW_in : ∀ w ∈ zStrW, goodWord w = true → w ∈ zTw := fun w h hg => List.mem_filter.mpr ⟨List.mem_append_right _ (of_decide_eq_true (List.all_eq_true.mp zStrW_ok w h)), hg⟩
theorem zw_s {w : Jvm.Cond} (h : w ∈ zStrW := by simp [zStrW]) (hg : goodWord w = true := by rfl) : w ∈ zTw := zStrW_in w h hg
/-- answers v, the heap stays -/
def zSi (v : Option Value) : Array Value → State → Outcome → State → Prop := fun _ st o t => o = .returned v ∧ t.heap = st.heap
section ZSTR
variable {p : Program} {l : Launch} {e : Env} {R : Room} {s : State} {m : MethodId} {args : Array Value} {below : List Frame} {meth : Method} {c : Code} {H : Heap} {locs : List Loc} {cells slots : Nat} {Q : State → Prop}
theorem zs_cs {pc : Nat} {ls : Array Slot} {st0 rest : List Value} {v : Option Value} {aa : Array Value} (hr : va_Run p l e R s m args below meth c H locs cells slots 0 0 (F0 m pc ls st0) rest (zSi v aa) (fun _ => False)) (kk : W p l e R s m args below meth c H locs cells slots Q (F0 m (pc + 3) ls (v.toList ++ rest))) : W p l e R s m args below meth c H locs cells slots Q (F0 m pc ls st0) := by
  intro T hT X
  obtain ⟨v', st₀, t, T', L, h0, X', hL, e1, -, ⟨hv, hh⟩, st⟩ := hr T hT X
  have hv' : v' = v := by injection hv
  subst hv'
  obtain ⟨t2, a1, b1⟩ := kk T' (by rw [e1, hh, h0]) (Stand.forget X' (fun q h => (hL q h).elim))
  exact ⟨t2, st t2 a1, b1⟩
end ZSTR
theorem ds6_0 : decode (zB 6) 0 = .ok (.aload_n 0, 1) := by decide +kernel
theorem ds6_1 : decode (zB 6) 1 = .ok (.getfield 9, 3) := by decide +kernel
theorem ds6_4 : decode (zB 6) 4 = .ok (.arraylength, 1) := by decide +kernel
theorem ds6_5 : decode (zB 6) 5 = .ok (.aload_n 0, 1) := by decide +kernel
theorem ds6_6 : decode (zB 6) 6 = .ok (.invokevirtual 335, 3) := by decide +kernel
theorem ds6_9 : decode (zB 6) 9 = .ok (.ishr, 1) := by decide +kernel
theorem ds6_10 : decode (zB 6) 10 = .ok (.ireturn, 1) := by decide +kernel
theorem ds7_0 : decode (zB 7) 0 = .ok (.getstatic 38, 3) := by decide +kernel
theorem ds7_3 : decode (zB 7) 3 = .ok (.ifCond .eq 10, 3) := by decide +kernel
theorem ds7_6 : decode (zB 7) 6 = .ok (.aload_n 0, 1) := by decide +kernel
theorem ds7_7 : decode (zB 7) 7 = .ok (.getfield 15, 3) := by decide +kernel
theorem ds7_10 : decode (zB 7) 10 = .ok (.goto 4, 3) := by decide +kernel
theorem ds7_14 : decode (zB 7) 14 = .ok (.ireturn, 1) := by decide +kernel
theorem ds8_0 : decode (zB 8) 0 = .ok (.aload_n 0, 1) := by decide +kernel
theorem ds8_1 : decode (zB 8) 1 = .ok (.invokevirtual 492, 3) := by decide +kernel
theorem ds8_4 : decode (zB 8) 4 = .ok (.ifCond .eq 12, 3) := by decide +kernel
theorem ds8_7 : decode (zB 8) 7 = .ok (.aload_n 0, 1) := by decide +kernel
theorem ds8_8 : decode (zB 8) 8 = .ok (.getfield 9, 3) := by decide +kernel
theorem ds8_11 : decode (zB 8) 11 = .ok (.iload_n 1, 1) := by decide +kernel
theorem ds8_12 : decode (zB 8) 12 = .ok (.invokestatic 495, 3) := by decide +kernel
theorem ds8_15 : decode (zB 8) 15 = .ok (.ireturn, 1) := by decide +kernel
theorem ds9_0 : decode (zB 9) 0 = .ok (.getstatic 38, 3) := by decide +kernel
theorem ds9_3 : decode (zB 9) 3 = .ok (.ifCond .eq 14, 3) := by decide +kernel
theorem ds9_6 : decode (zB 9) 6 = .ok (.aload_n 0, 1) := by decide +kernel
theorem ds9_7 : decode (zB 9) 7 = .ok (.getfield 15, 3) := by decide +kernel
theorem ds9_10 : decode (zB 9) 10 = .ok (.ifCond .ne 7, 3) := by decide +kernel
theorem ds9_13 : decode (zB 9) 13 = .ok (.iconst 1, 1) := by decide +kernel
theorem ds9_14 : decode (zB 9) 14 = .ok (.goto 4, 3) := by decide +kernel
theorem ds9_18 : decode (zB 9) 18 = .ok (.ireturn, 1) := by decide +kernel
theorem ds10_0 : decode (zB 10) 0 = .ok (.iload_n 1, 1) := by decide +kernel
theorem ds10_1 : decode (zB 10) 1 = .ok (.aload_n 0, 1) := by decide +kernel
theorem ds10_2 : decode (zB 10) 2 = .ok (.arraylength, 1) := by decide +kernel
theorem ds10_3 : decode (zB 10) 3 = .ok (.invokestatic 9, 3) := by decide +kernel
theorem ds10_6 : decode (zB 10) 6 = .ok (.aload_n 0, 1) := by decide +kernel
theorem ds10_7 : decode (zB 10) 7 = .ok (.iload_n 1, 1) := by decide +kernel
theorem ds10_8 : decode (zB 10) 8 = .ok (.baload, 1) := by decide +kernel
theorem ds10_9 : decode (zB 10) 9 = .ok (.sipush 255, 3) := by decide +kernel
theorem ds10_12 : decode (zB 10) 12 = .ok (.iand, 1) := by decide +kernel
theorem ds10_13 : decode (zB 10) 13 = .ok (.i2c, 1) := by decide +kernel
theorem ds10_14 : decode (zB 10) 14 = .ok (.ireturn, 1) := by decide +kernel
theorem ds11_0 : decode (zB 11) 0 = .ok (.iload_n 0, 1) := by decide +kernel
theorem ds11_1 : decode (zB 11) 1 = .ok (.iload_n 1, 1) := by decide +kernel
theorem ds11_2 : decode (zB 11) 2 = .ok (.getstatic 1053, 3) := by decide +kernel
theorem ds11_5 : decode (zB 11) 5 = .ok (.invokestatic 1059, 3) := by decide +kernel
theorem ds11_8 : decode (zB 11) 8 = .ok (.pop, 1) := by decide +kernel
theorem ds11_9 : decode (zB 11) 9 = .ok (.return_, 1) := by decide +kernel
theorem ds12_0 : decode (zB 12) 0 = .ok (.iload_n 0, 1) := by decide +kernel
theorem ds12_1 : decode (zB 12) 1 = .ok (.ifCond .lt 8, 3) := by decide +kernel
theorem ds12_4 : decode (zB 12) 4 = .ok (.iload_n 0, 1) := by decide +kernel
theorem ds12_5 : decode (zB 12) 5 = .ok (.iload_n 1, 1) := by decide +kernel
theorem ds12_6 : decode (zB 12) 6 = .ok (.if_icmp .lt 10, 3) := by decide +kernel
theorem ds12_16 : decode (zB 12) 16 = .ok (.iload_n 0, 1) := by decide +kernel
theorem ds12_17 : decode (zB 12) 17 = .ok (.ireturn, 1) := by decide +kernel
theorem st_coder (l : Launch) (G : zG) : Met l (zNm 7) (zWs 7) { frames := 0, cells := 0, slots := 0, locals := 0 } (va_Pc [.ref G.2.1] (zStr G)) (zSi (some (.int 0))) 0 0 (fun _ => False) := by
  refine Met.ofW (cc := zB 7) (maxL := zML 7) (ret := zRt 7) (by rw [zs_nm.2.1]; decide) (zWs_eq 7) ?_
  intro p e s m args below meth c s₁ B hml hv
  obtain ⟨rfl, hX⟩ := hv
  have hx := B.exec
  have hb := B.bytes
  have hr := B.returns
  have hlocks := B.notSynchronized
  have hw : ∀ w ∈ zTw, w.before _ s = true := fun w h => atoms_spec (ws := zWs 7) B.pre w (List.mem_cons_of_mem _ h)
  have hown : s.vm.findClass "java/lang/String" = some m.cls := by
    have := findClass_of_methodNamed B.named
    rwa [zs_nm.2.1] at this
  have hX0 := hX
  obtain ⟨hR, ⟨aV, hV⟩, hZ, hZq⟩ := hX
  have hS : va_S (fun q => G.1 ≤ q) s.heap s.heap [] := va_S.rf
  obtain ⟨hO, hF1, hF2, hT9⟩ := hV.1 0 (by decide)
  rw [zs_ml.1.2.1] at hml
  rw [lg_entry_eq]
  have hl := lv_entry ([.ref G.2.1]) (n := zML 7) (by rw [zs_ml.1.2.1]; simp [lg_sl, Value.category])
  generalize (lg_sl ([.ref G.2.1]) ++ List.replicate (zML 7 - (lg_sl ([.ref G.2.1])).length) Slot.unset).toArray = ls at hl ⊢
  rw [zs_ml.1.2.1] at hl
  have hl : lv_has ls 1 [(0, .ref G.2.1)] := by simpa [lv_args, Value.category] using hl
  refine va_gets hx hb hZ hS hown (hw (.fieldLink "java/lang/String" 38 "java/lang/String" "COMPACT_STRINGS" "Z") zw_s) (fun _ h => h) ds7_0 ?_
  refine lv_if_eq (tgt := 13) hx hb ds7_3 (by decide) (fun q => absurd q (by decide)) (fun _ => ?_)
  refine lv_aload_n hx hb ds7_6 rfl (lv_at hl 0 rfl) ?_
  refine vk_getf hx hb hF1 hS hown (hw (.fieldLink "java/lang/String" 15 "java/lang/String" "coder" "B") zw_s) (fun _ h => h) ds7_7 ?_
  refine lv_goto (tgt := 14) hx hb ds7_10 (by decide) ?_
  exact W.zret (v := 0) hx hb (hr.trans zs_ml.2.2.1) rfl (fun t ht hW => ⟨rfl, ht⟩) (fun q hq => by cases hq) ds7_14 hlocks
theorem st_latin1 (l : Launch) (G : zG) : Met l (zNm 9) (zWs 9) { frames := 0, cells := 0, slots := 0, locals := 0 } (va_Pc [.ref G.2.1] (zStr G)) (zSi (some (.int 1))) 0 0 (fun _ => False) := by
  refine Met.ofW (cc := zB 9) (maxL := zML 9) (ret := zRt 9) (by rw [zs_nm.2.2.2.1]; decide) (zWs_eq 9) ?_
  intro p e s m args below meth c s₁ B hml hv
  obtain ⟨rfl, hX⟩ := hv
  have hx := B.exec
  have hb := B.bytes
  have hr := B.returns
  have hlocks := B.notSynchronized
  have hw : ∀ w ∈ zTw, w.before _ s = true := fun w h => atoms_spec (ws := zWs 9) B.pre w (List.mem_cons_of_mem _ h)
  have hown : s.vm.findClass "java/lang/String" = some m.cls := by
    have := findClass_of_methodNamed B.named
    rwa [zs_nm.2.2.2.1] at this
  have hX0 := hX
  obtain ⟨hR, ⟨aV, hV⟩, hZ, hZq⟩ := hX
  have hS : va_S (fun q => G.1 ≤ q) s.heap s.heap [] := va_S.rf
  obtain ⟨hO, hF1, hF2, hT9⟩ := hV.1 0 (by decide)
  rw [zs_ml.1.2.2.2.1] at hml
  rw [lg_entry_eq]
  have hl := lv_entry ([.ref G.2.1]) (n := zML 9) (by rw [zs_ml.1.2.2.2.1]; simp [lg_sl, Value.category])
  generalize (lg_sl ([.ref G.2.1]) ++ List.replicate (zML 9 - (lg_sl ([.ref G.2.1])).length) Slot.unset).toArray = ls at hl ⊢
  rw [zs_ml.1.2.2.2.1] at hl
  have hl : lv_has ls 1 [(0, .ref G.2.1)] := by simpa [lv_args, Value.category] using hl
  refine va_gets hx hb hZ hS hown (hw (.fieldLink "java/lang/String" 38 "java/lang/String" "COMPACT_STRINGS" "Z") zw_s) (fun _ h => h) ds9_0 ?_
  refine lv_if_eq (tgt := 17) hx hb ds9_3 (by decide) (fun q => absurd q (by decide)) (fun _ => ?_)
  refine lv_aload_n hx hb ds9_6 rfl (lv_at hl 0 rfl) ?_
  refine vk_getf hx hb hF1 hS hown (hw (.fieldLink "java/lang/String" 15 "java/lang/String" "coder" "B") zw_s) (fun _ h => h) ds9_7 ?_
  refine lv_if_ne (tgt := 17) hx hb ds9_10 (by decide) (fun q => absurd rfl q) (fun _ => ?_)
  refine lv_iconst (v := 1) hx hb ds9_13 (by decide) ?_
  refine lv_goto (tgt := 18) hx hb ds9_14 (by decide) ?_
  exact W.zret (v := 1) hx hb (hr.trans zs_ml.2.2.2.2.1) rfl (fun t ht hW => ⟨rfl, ht⟩) (fun q hq => by cases hq) ds9_18 hlocks
theorem st_pre (l : Launch) (i n : Int32) (w : Value) (hw1 : w.category = 1) (h0 : ¬ i < 0) (h1 : i < n) : Met l (zNm 12) (zWs 12) { frames := 0, cells := 0, slots := 0, locals := 0 } (va_Pc [.int i, .int n, w] (fun _ => True)) (zSi (some (.int i))) 0 0 (fun _ => False) := by
  refine Met.ofW (cc := zB 12) (maxL := zML 12) (ret := zRt 12) (by rw [zs_nm.2.2.2.2.2.2]; decide) (zWs_eq 12) ?_
  intro p e s m args below meth c s₁ B hml hv
  obtain ⟨rfl, hX⟩ := hv
  have hx := B.exec
  have hb := B.bytes
  have hr := B.returns
  have hlocks := B.notSynchronized
  have hw : ∀ w ∈ zTw, w.before _ s = true := fun w h => atoms_spec (ws := zWs 12) B.pre w (List.mem_cons_of_mem _ h)
  have hown : s.vm.findClass "jdk/internal/util/Preconditions" = some m.cls := by
    have := findClass_of_methodNamed B.named
    rwa [zs_nm.2.2.2.2.2.2] at this
  rw [zs_ml.1.2.2.2.2.2.2] at hml
  rw [lg_entry_eq]
  have hl := lv_entry ([.int i, .int n, w]) (n := zML 12) (by rw [zs_ml.1.2.2.2.2.2.2, lg_sl_len]; show 1 + (1 + (w.category + 0)) ≤ 3; omega)
  generalize (lg_sl ([.int i, .int n, w]) ++ List.replicate (zML 12 - (lg_sl ([.int i, .int n, w])).length) Slot.unset).toArray = ls at hl ⊢
  rw [zs_ml.1.2.2.2.2.2.2] at hl
  have hl : lv_has ls 3 [(0, .int i), (1, .int n), (2, w)] := hl
  refine lv_iload_n hx hb ds12_0 rfl (lv_at hl 0 rfl) ?_
  refine lv_if_lt (tgt := 9) hx hb ds12_1 (by decide) (fun q => absurd q h0) (fun _ => ?_)
  refine lv_iload_n hx hb ds12_4 rfl (lv_at hl 0 rfl) ?_
  refine lv_iload_n hx hb ds12_5 rfl (lv_at hl 1 rfl) ?_
  refine lv_icmp_lt (tgt := 16) hx hb ds12_6 (by decide) (fun _ => ?_) (fun q => absurd h1 q)
  refine lv_iload_n hx hb ds12_16 rfl (lv_at hl 0 rfl) ?_
  exact W.iret (v := i) hx hb (hr.trans zs_ml.2.2.2.2.2.2.2) (fun t ht hW => ⟨rfl, ht⟩) (fun q hq => by cases hq) ds12_17 hlocks
theorem zStr.blind (G : zG) (as : List Value) : FrameBlind (va_Pc as (zStr G)) := fun a U g mk h => ⟨h.1, zStr.same (u := U) rfl rfl h.2⟩
theorem st_check (l : Launch) (G : zG) (i n : Int32) (h0 : ¬ i < 0) (h1 : i < n) : Met l (zNm 11) (zWs 11) { frames := 1, cells := 0, slots := 0, locals := 22 } (va_Pc [.int i, .int n] (zStr G)) (zSi none) 0 0 (fun _ => False) := by
  refine Met.ofW (cc := zB 11) (maxL := zML 11) (ret := zRt 11) (by rw [zs_nm.2.2.2.2.2.1]; decide) (zWs_eq 11) ?_
  intro p e s m args below meth c s₁ B hml hv
  obtain ⟨rfl, hX⟩ := hv
  have hx := B.exec
  have hb := B.bytes
  have hr := B.returns
  have hlocks := B.notSynchronized
  have hw : ∀ w ∈ zTw, w.before _ s = true := fun w h => atoms_spec (ws := zWs 11) B.pre w (List.mem_cons_of_mem _ h)
  have hown : s.vm.findClass "java/lang/String" = some m.cls := by
    have := findClass_of_methodNamed B.named
    rwa [zs_nm.2.2.2.2.2.1] at this
  have hX0 := hX
  obtain ⟨hR, ⟨aV, hV⟩, hZ, hZq⟩ := hX
  have hS : va_S (fun q => G.1 ≤ q) s.heap s.heap [] := va_S.rf
  obtain ⟨hO, hF1, hF2, hT9⟩ := hV.1 0 (by decide)
  rw [zs_ml.1.2.2.2.2.2.1] at hml
  rw [lg_entry_eq]
  have hl := lv_entry ([.int i, .int n]) (n := zML 11) (by rw [zs_ml.1.2.2.2.2.2.1]; simp [lg_sl, Value.category])
  generalize (lg_sl ([.int i, .int n]) ++ List.replicate (zML 11 - (lg_sl ([.int i, .int n])).length) Slot.unset).toArray = ls at hl ⊢
  rw [zs_ml.1.2.2.2.2.2.1] at hl
  have hl : lv_has ls 2 [(0, .int i), (1, .int n)] := by simpa [lv_args, Value.category] using hl
  refine lv_iload_n hx hb ds11_0 rfl (lv_at hl 0 rfl) ?_
  refine lv_iload_n hx hb ds11_1 rfl (lv_at hl 1 rfl) ?_
  have go : ∀ w : Value, w.category = 1 → W p l e (headSpec (zWs 11) { frames := 1, cells := 0, slots := 0, locals := 22 }).room s m #[Value.int i, Value.int n] below meth c s.heap [] 0 0 (MQ below (zSi none) #[Value.int i, Value.int n] s 0 0 (fun _ => False)) (F0 m 5 ls [w, .int n, .int i]) := by
    intro w hw1
    refine zs_cs (rest := []) (va_runS (As := [.int i, .int n, w]) (rest := []) ⟨hx, hb, hml, hown, hw⟩ (st_pre l i n w hw1 h0 h1) (va_cwS (Ts := zTw) 3 hw ?_ (zWs_eq 12) rfl rfl (by rw [zs_nm.2.2.2.2.2.2]; decide) ⟨Nat.le_refl _, by rw [zs_ml.1.2.2.2.2.2.2]; exact Nat.le_refl _⟩) ⟨fun a U g mk h => ⟨h.1, trivial⟩, fun U hU hW => ⟨rfl, trivial⟩⟩ rfl rfl hl.1 rfl (lv_room (by decide)) ds11_5 ⟨Nat.zero_le _, Nat.zero_le _⟩) ?_
    · intro x hx2
      unfold va_wsS at hx2
      rw [zs_nm.2.2.2.2.2.2] at hx2
      rcases List.mem_append.mp hx2 with hx2 | hx2
      · rcases List.mem_cons.mp hx2 with rfl | hx2
        · exact zTw_good _ zw_s
        · rcases List.mem_cons.mp hx2 with rfl | hx2
          · exact zTw_good _ zw_s
          · rw [List.mem_singleton.mp hx2]
            exact zTw_good _ (zw_s (w := .initialized "jdk/internal/util/Preconditions"))
      · exact zWs_goodS (z := 12) (by decide) x hx2
    · refine lv_pop (va := .int i) hx hb ds11_8 rfl ?_
      exact W.vret hx hb (hr.trans zs_ml.2.2.2.2.2.2.1) (fun t ht hW => ⟨rfl, ht⟩) (fun q hq => by cases hq) ds11_9 hlocks
  rcases hZq with hz | ⟨t, hz⟩
  · exact va_gets hx hb hz hS hown (hw (.fieldLink "java/lang/String" 1053 "jdk/internal/util/Preconditions" "SIOOBE_FORMATTER" "Ljava/util/function/BiFunction;") zw_s) (fun _ h => h) ds11_2 (go .null rfl)
  · exact va_gets hx hb hz hS hown (hw (.fieldLink "java/lang/String" 1053 "jdk/internal/util/Preconditions" "SIOOBE_FORMATTER" "Ljava/util/function/BiFunction;") zw_s) (fun _ h => h) ds11_2 (go (.ref t) rfl)
theorem st_length (l : Launch) (G : zG) : Met l (zNm 6) (zWs 6) { frames := 1, cells := 0, slots := 0, locals := 20 } (va_Pc [.ref G.2.1] (zStr G)) (zSi (some (.int (Int32.ofNat zWordsText.length)))) 0 0 (fun _ => False) := by
  refine Met.ofW (cc := zB 6) (maxL := zML 6) (ret := zRt 6) (by rw [zs_nm.1]; decide) (zWs_eq 6) ?_
  intro p e s m args below meth c s₁ B hml hv
  obtain ⟨rfl, hX⟩ := hv
  have hx := B.exec
  have hb := B.bytes
  have hr := B.returns
  have hlocks := B.notSynchronized
  have hw : ∀ w ∈ zTw, w.before _ s = true := fun w h => atoms_spec (ws := zWs 6) B.pre w (List.mem_cons_of_mem _ h)
  have hown : s.vm.findClass "java/lang/String" = some m.cls := by
    have := findClass_of_methodNamed B.named
    rwa [zs_nm.1] at this
  have hX0 := hX
  obtain ⟨hR, ⟨aV, hV⟩, hZ, hZq⟩ := hX
  have hS : va_S (fun q => G.1 ≤ q) s.heap s.heap [] := va_S.rf
  obtain ⟨hO, hF1, hF2, hT9⟩ := hV.1 0 (by decide)
  rw [zs_ml.1.1] at hml
  rw [lg_entry_eq]
  have hl := lv_entry ([.ref G.2.1]) (n := zML 6) (by rw [zs_ml.1.1]; simp [lg_sl, Value.category])
  generalize (lg_sl ([.ref G.2.1]) ++ List.replicate (zML 6 - (lg_sl ([.ref G.2.1])).length) Slot.unset).toArray = ls at hl ⊢
  rw [zs_ml.1.1] at hl
  have hl : lv_has ls 1 [(0, .ref G.2.1)] := by simpa [lv_args, Value.category] using hl
  refine lv_aload_n hx hb ds6_0 rfl (lv_at hl 0 rfl) ?_
  refine vk_getf hx hb hF2 hS hown (hw (.fieldLink "java/lang/String" 9 "java/lang/String" "value" "[B") zw_s) (fun _ h => h) ds6_1 ?_
  refine va_tlen hx hb hT9 hS rfl ds6_4 ?_
  refine lv_aload_n hx hb ds6_5 rfl (lv_at hl 0 rfl) ?_
  refine zs_cs (rest := [.int (Int32.ofNat ([zWordsText.length].getD 0 0))]) (va_runV (C := "java/lang/String") (As := []) (b := G.2.1) (rest := [.int (Int32.ofNat ([zWordsText.length].getD 0 0))]) ⟨hx, hb, hml, hown, hw⟩ (st_coder l G) (cwV (Ts := zTw) 0 hw ?_ (zWs_eq 7) rfl rfl (by rw [zs_nm.2.1]; decide) ⟨Nat.le_refl _, by rw [zs_ml.1.2.1]; exact Nat.le_refl _⟩) ⟨zStr.blind G _, vk_recv hV (i := 0) (by decide) hS, fun U hU hW => ⟨rfl, zStr.warm hW (fun q hq => by rw [hU]) hX0⟩⟩ rfl rfl hl.1 rfl (lv_room (by simp [Value.category])) ds6_6 ⟨Nat.zero_le _, Nat.zero_le _⟩) ?_
  · intro x hx2
    unfold wsV at hx2
    rw [zs_nm.2.1] at hx2
    rcases List.mem_append.mp hx2 with hx2 | hx2
    · rcases List.mem_cons.mp hx2 with rfl | hx2
      · exact zTw_good _ zw_s
      · rcases List.mem_cons.mp hx2 with rfl | hx2
        · exact zTw_good _ zw_s
        · rcases List.mem_cons.mp hx2 with rfl | hx2
          · exact zTw_good _ zw_s
          · rw [List.mem_singleton.mp hx2]
            exact zTw_good _ (zw_s (w := .initialized "java/lang/String"))
    · exact zWs_goodS (z := 7) (by decide) x hx2
  · refine lv_ishr hx hb ds6_9 ?_
    rw [sb_shr0]
    exact W.iret (v := Int32.ofNat zWordsText.length) hx hb (hr.trans zs_ml.2.1) (fun t ht hW => ⟨rfl, ht⟩) (fun q hq => by cases hq) ds6_10 hlocks
set_option maxRecDepth 100000 in
theorem zWords_ok : ∀ j, j < zWordsText.length → (((((zWordsText.map nI).getD j 0) &&& 255).toUInt32 % 65536).toInt32 = Int32.ofNat (zWordsText.getD j 0)) ∧ narrow .char (.int (Int32.ofNat (zWordsText.getD j 0))) = .int (Int32.ofNat (zWordsText.getD j 0)) := by decide +kernel
theorem st_l1at (l : Launch) (G : zG) (aV : Nat) (j : Int32) (hj : inB j zWordsText.length = true) : Met l (zNm 10) (zWs 10) { frames := 2, cells := 0, slots := 0, locals := 43 } (va_Pc [.ref aV, .int j] (fun U => zStr G U ∧ va_T .byte aV zWordsText.length (fun j => .int ((zWordsText.map nI).getD j 0)) (fun q => G.1 ≤ q) U U.heap)) (zSi (some (.int (Int32.ofNat (zWordsText.getD j.toNatClampNeg 0))))) 0 0 (fun _ => False) := by
  refine Met.ofW (cc := zB 10) (maxL := zML 10) (ret := zRt 10) (by rw [zs_nm.2.2.2.2.1]; decide) (zWs_eq 10) ?_
  intro p e s m args below meth c s₁ B hml hv
  obtain ⟨rfl, hX, hT9⟩ := hv
  have hS : va_S (fun q => G.1 ≤ q) s.heap s.heap [] := va_S.rf
  have hx := B.exec
  have hb := B.bytes
  have hr := B.returns
  have hlocks := B.notSynchronized
  have hw : ∀ w ∈ zTw, w.before _ s = true := fun w h => atoms_spec (ws := zWs 10) B.pre w (List.mem_cons_of_mem _ h)
  have hown : s.vm.findClass "java/lang/StringLatin1" = some m.cls := by
    have := findClass_of_methodNamed B.named
    rwa [zs_nm.2.2.2.2.1] at this
  rw [zs_ml.1.2.2.2.2.1] at hml
  rw [lg_entry_eq]
  have hl := lv_entry ([.ref aV, .int j]) (n := zML 10) (by rw [zs_ml.1.2.2.2.2.1]; simp [lg_sl, Value.category])
  generalize (lg_sl ([.ref aV, .int j]) ++ List.replicate (zML 10 - (lg_sl ([.ref aV, .int j])).length) Slot.unset).toArray = ls at hl ⊢
  rw [zs_ml.1.2.2.2.2.1] at hl
  have hl : lv_has ls 2 [(0, .ref aV), (1, .int j)] := by simpa [lv_args, Value.category] using hl
  refine lv_iload_n hx hb ds10_0 rfl (lv_at hl 1 rfl) ?_
  refine lv_aload_n hx hb ds10_1 rfl (lv_at hl 0 rfl) ?_
  refine va_tlen hx hb hT9 hS rfl ds10_2 ?_
  have hlt := inB_lt hj
  have h0 : ¬ j < 0 := fun q => inB_out hj (Or.inl q)
  have h1 : j < Int32.ofNat zWordsText.length := by
    rw [Int32.lt_iff_toInt_lt, z_nn j h0]
    have e9 : (Int32.ofNat zWordsText.length).toInt = (zWordsText.length : Int) := nI_toInt (by decide +kernel)
    rw [e9]
    omega
  refine zs_cs (rest := []) (va_runS (As := [.int j, .int (Int32.ofNat zWordsText.length)]) (rest := []) ⟨hx, hb, hml, hown, hw⟩ (st_check l G j (Int32.ofNat zWordsText.length) h0 h1) (va_cwS (Ts := zTw) 2 hw ?_ (zWs_eq 11) rfl rfl (by rw [zs_nm.2.2.2.2.2.1]; decide) ⟨Nat.le_refl _, by rw [zs_ml.1.2.2.2.2.2.1]; exact Nat.le_refl _⟩) ⟨zStr.blind G _, fun U hU hW => ⟨rfl, zStr.warm hW (fun q hq => by rw [hU]) hX⟩⟩ rfl rfl hl.1 rfl (lv_room (by decide)) ds10_3 ⟨Nat.zero_le _, Nat.zero_le _⟩) ?_
  · intro x hx2
    unfold va_wsS at hx2
    rw [zs_nm.2.2.2.2.2.1] at hx2
    rcases List.mem_append.mp hx2 with hx2 | hx2
    · rcases List.mem_cons.mp hx2 with rfl | hx2
      · exact zTw_good _ zw_s
      · rcases List.mem_cons.mp hx2 with rfl | hx2
        · exact zTw_good _ zw_s
        · rw [List.mem_singleton.mp hx2]
          exact zTw_good _ (zw_s (w := .initialized "java/lang/String"))
    · exact zWs_goodS (z := 11) (by decide) x hx2
  · refine lv_aload_n hx hb ds10_6 rfl (lv_at hl 0 rfl) ?_
    refine lv_iload_n hx hb ds10_7 rfl (lv_at hl 1 rfl) ?_
    refine va_tb hx hb hT9 hS (inB_out hj) rfl ds10_8 ?_
    refine lv_sipush (v := 255) hx hb ds10_9 (by decide) ?_
    refine lv_iand hx hb ds10_12 ?_
    refine lv_i2c hx hb ds10_13 (zWords_ok _ hlt).1 ?_
    exact W.zret (v := Int32.ofNat (zWordsText.getD j.toNatClampNeg 0)) hx hb (hr.trans zs_ml.2.2.2.2.2.1) (zWords_ok _ hlt).2 (fun t ht hW => ⟨rfl, ht⟩) (fun q hq => by cases hq) ds10_14 hlocks
theorem st_charAt (l : Launch) (G : zG) (j : Int32) (hj : inB j zWordsText.length = true) : Met l (zNm 8) (zWs 8) { frames := 3, cells := 0, slots := 0, locals := 64 } (va_Pc [.ref G.2.1, .int j] (zStr G)) (zSi (some (.int (Int32.ofNat (zWordsText.getD j.toNatClampNeg 0))))) 0 0 (fun _ => False) := by
  refine Met.ofW (cc := zB 8) (maxL := zML 8) (ret := zRt 8) (by rw [zs_nm.2.2.1]; decide) (zWs_eq 8) ?_
  intro p e s m args below meth c s₁ B hml hv
  obtain ⟨rfl, hX⟩ := hv
  have hx := B.exec
  have hb := B.bytes
  have hr := B.returns
  have hlocks := B.notSynchronized
  have hw : ∀ w ∈ zTw, w.before _ s = true := fun w h => atoms_spec (ws := zWs 8) B.pre w (List.mem_cons_of_mem _ h)
  have hown : s.vm.findClass "java/lang/String" = some m.cls := by
    have := findClass_of_methodNamed B.named
    rwa [zs_nm.2.2.1] at this
  have hX0 := hX
  obtain ⟨hR, ⟨aV, hV⟩, hZ, hZq⟩ := hX
  have hS : va_S (fun q => G.1 ≤ q) s.heap s.heap [] := va_S.rf
  obtain ⟨hO, hF1, hF2, hT9⟩ := hV.1 0 (by decide)
  rw [zs_ml.1.2.2.1] at hml
  rw [lg_entry_eq]
  have hl := lv_entry ([.ref G.2.1, .int j]) (n := zML 8) (by rw [zs_ml.1.2.2.1]; simp [lg_sl, Value.category])
  generalize (lg_sl ([.ref G.2.1, .int j]) ++ List.replicate (zML 8 - (lg_sl ([.ref G.2.1, .int j])).length) Slot.unset).toArray = ls at hl ⊢
  rw [zs_ml.1.2.2.1] at hl
  have hl : lv_has ls 2 [(0, .ref G.2.1), (1, .int j)] := by simpa [lv_args, Value.category] using hl
  have hlt := inB_lt hj
  refine lv_aload_n hx hb ds8_0 rfl (lv_at hl 0 rfl) ?_
  refine zs_cs (rest := []) (va_runV (C := "java/lang/String") (As := []) (b := G.2.1) (rest := []) ⟨hx, hb, hml, hown, hw⟩ (st_latin1 l G) (cwV (Ts := zTw) 0 hw ?_ (zWs_eq 9) rfl rfl (by rw [zs_nm.2.2.2.1]; decide) ⟨by decide, by rw [zs_ml.1.2.2.2.1]; decide⟩) ⟨zStr.blind G _, vk_recv hV (i := 0) (by decide) hS, fun U hU hW => ⟨rfl, zStr.warm hW (fun q hq => by rw [hU]) hX0⟩⟩ rfl rfl hl.1 rfl (lv_room (by decide)) ds8_1 ⟨Nat.zero_le _, Nat.zero_le _⟩) ?_
  · intro x hx2
    unfold wsV at hx2
    rw [zs_nm.2.2.2.1] at hx2
    rcases List.mem_append.mp hx2 with hx2 | hx2
    · rcases List.mem_cons.mp hx2 with rfl | hx2
      · exact zTw_good _ zw_s
      · rcases List.mem_cons.mp hx2 with rfl | hx2
        · exact zTw_good _ zw_s
        · rcases List.mem_cons.mp hx2 with rfl | hx2
          · exact zTw_good _ zw_s
          · rw [List.mem_singleton.mp hx2]
            exact zTw_good _ (zw_s (w := .initialized "java/lang/String"))
    · exact zWs_goodS (z := 9) (by decide) x hx2
  · refine lv_if_eq (tgt := 16) hx hb ds8_4 (by decide) (fun q => absurd q (by decide)) (fun _ => ?_)
    refine lv_aload_n hx hb ds8_7 rfl (lv_at hl 0 rfl) ?_
    refine vk_getf hx hb hF2 hS hown (hw (.fieldLink "java/lang/String" 9 "java/lang/String" "value" "[B") zw_s) (fun _ h => h) ds8_8 ?_
    refine lv_iload_n hx hb ds8_11 rfl (lv_at hl 1 rfl) ?_
    refine zs_cs (rest := []) (va_runS (As := [.ref aV, .int j]) (rest := []) ⟨hx, hb, hml, hown, hw⟩ (st_l1at l G aV j hj) (va_cwS (Ts := zTw) 2 hw ?_ (zWs_eq 10) rfl rfl (by rw [zs_nm.2.2.2.2.1]; decide) ⟨Nat.le_refl _, by rw [zs_ml.1.2.2.2.2.1]; exact Nat.le_refl _⟩) ⟨fun a U g mk h => ⟨h.1, zStr.same (u := U) rfl rfl h.2.1, h.2.2⟩, fun U hU hW => ⟨rfl, zStr.warm hW (fun q hq => by rw [hU]) hX0, (hT9.moved hW.alike).kept (fun a _ _ => by rw [hU])⟩⟩ rfl rfl hl.1 rfl (lv_room (by decide)) ds8_12 ⟨Nat.zero_le _, Nat.zero_le _⟩) ?_
    · intro x hx2
      unfold va_wsS at hx2
      rw [zs_nm.2.2.2.2.1] at hx2
      rcases List.mem_append.mp hx2 with hx2 | hx2
      · rcases List.mem_cons.mp hx2 with rfl | hx2
        · exact zTw_good _ zw_s
        · rcases List.mem_cons.mp hx2 with rfl | hx2
          · exact zTw_good _ zw_s
          · rw [List.mem_singleton.mp hx2]
            exact zTw_good _ (zw_s (w := .initialized "java/lang/StringLatin1"))
      · exact zWs_goodS (z := 10) (by decide) x hx2
    · exact W.zret (v := Int32.ofNat (zWordsText.getD j.toNatClampNeg 0)) hx hb (hr.trans zs_ml.2.2.2.1) (zWords_ok _ hlt).2 (fun t ht hW => ⟨rfl, ht⟩) (fun q hq => by cases hq) ds8_15 hlocks
