/-! THE LAW: from its entry to its end, out of a statement of the pure machine -/
def zLawC : List (Nat × Nat) := [(9, 0), (13, 25), (18, 26), (23, 27), (27, 28), (34, 34), (39, 38), (44, 40), (49, 43), (54, 45), (59, 87), (63, 95), (67, 96), (71, 105), (76, 110), (80, 113), (84, 115), (88, 117), (92, 118), (96, 121), (100, 123), (104, 126), (108, 127), (113, 128), (117, 129), (121, 130), (126, 131), (130, 132), (134, 140), (138, 141), (142, 143), (146, 144), (150, 149), (154, 150), (158, 152), (162, 155), (166, 158), (170, 159), (174, 162), (178, 166), (182, 169), (186, 173), (190, 174), (194, 177), (199, 178), (203, 190), (207, 191), (211, 192), (215, 193), (12, 194), (17, 196), (22, 197), (26, 198), (31, 199), (38, 201), (43, 205), (48, 206), (53, 207), (66, 209), (58, 210), (62, 258), (70, 262), (75, 273), (79, 278), (83, 281), (87, 282), (91, 283), (95, 285), (99, 287), (103, 289), (107, 291), (112, 292), (116, 293), (120, 294), (125, 295), (129, 296), (133, 297), (137, 303), (141, 304), (145, 305), (149, 306), (153, 311), (157, 312), (161, 313), (165, 315), (169, 318), (173, 319), (177, 322), (181, 324), (185, 325), (189, 328), (193, 329), (198, 330), (202, 331), (206, 342), (210, 343), (214, 344), (218, 345)]
set_option maxRecDepth 100000 in
theorem zLawC_ok : zSub tables_1 (zLawC.map (fun q => .methodLink "AlmostTaxLaw" q.1 (zNm q.2))) = true := by decide +kernel
set_option maxRecDepth 100000 in
theorem zLawC_in : zLawC.all (fun q => decide (q.2 < 346) && decide (zMc q.2 < 13) && zIns1.contains q.2 && (decide ((zNm q.2).name = "<init>") && decide (zRt q.2 = none) || (zSel.contains q.2 || zPrv.contains q.2))) = true := by decide +kernel
/-- one call: the class answers as the reference does, and the relation holds again -/
theorem zlaw_c : Jvm.Cond.constantLong R_law 32 4294967295 ∈ zTw := by
  refine List.mem_filter.mpr ⟨List.mem_append_right _ ?_, rfl⟩
  exact of_decide_eq_true (show decide (Jvm.Cond.constantLong R_law 32 4294967295 ∈ tables_1) = true by decide +kernel)
section ZLAW
variable {p : Program} {l : Launch} {e : Env} {s : State} {m : MethodId} {below : List Frame} {meth : Method} {c : Code} {b L : Nat} {xs : Nat → Int32} {G : zG} {Q : State → Prop}
theorem zlaw_S {mm : zMem} {H : Heap} {locs : List Loc} (hG : G.1 = s.heap.size) (hS : zSt G s.heap mm H locs) : va_S (fun q : Nat => s.heap.size ≤ q) s.heap H locs :=
  ⟨by rw [hS.1, hG]; exact Nat.le_add_right _ _, fun q h1 _ => hS.2.2.2.1 q (by rw [hG]; exact h1), fun q hq => by rw [← hG]; exact hS.2.2.2.2 q hq⟩
/-- a call in the law's body -/
theorem zlaw_call {H : Heap} {locs : List Loc} {ls : Array Slot} {pc ix z a cells slots : Nat} {as st0 rest : List Value} {r : Option Value} {mm m1 : zMem} (hx : p.tables.exec = Jvm.exec) (hb : c.code = code) (hml : c.maxLocals = 4) (hown : s.vm.findClass R_law = some m.cls) (hw : ∀ w ∈ zTw, w.before #[Value.ref b] s = true) (hT : zTab G s) (hX : zStr G s) (hS : zSt G s.heap mm H locs) (hls : ls.size = 4)
    (hlk : (ix, z) ∈ zLawC) (hni : (zNm z).name ≠ "<init>") (hk : (memK mm a).1 = 100 + zMc z) (hc : call 40 z (.ref a :: as) mm = some (r, m1)) (hN : memN m1 = memN mm) (hS1 : memS m1 = memS mm) (hcat : (as.map fun v => v.category).sum + 1 ≤ zML z) (hnp : as.length = zNp z) (hstk : st0 = (as.map (cvV G)).reverse ++ .ref (G.1 + a) :: rest) (h8 : (rest.map fun v => v.category).sum ≤ 8) (hc1 : cells ≤ room_1.cells) (hs1 : slots ≤ room_1.slots) (hd : decode code pc = .ok (.invokevirtual ix, 3))
    (kk : ∀ (H' : Heap) (locs' : List Loc), zSt G s.heap m1 H' locs' → W p l e room_1 s m #[Value.ref b] below meth c H' locs' cells slots Q (F0 m (pc + 3) ls ((r.map (cvV G)).toList ++ rest))) : W p l e room_1 s m #[Value.ref b] below meth c H locs cells slots Q (F0 m pc ls st0) := by
  have hck := List.all_eq_true.mp zLawC_in _ hlk
  simp only [Bool.and_eq_true, Bool.or_eq_true, decide_eq_true_eq] at hck
  obtain ⟨⟨⟨c1, c2⟩, c3⟩, c4⟩ := hck
  have c5 : (zSel.contains z || zPrv.contains z) = true := by
    rcases c4 with c4 | c4
    · exact absurd c4.1 hni
    · rw [Bool.or_eq_true]; exact c4
  have hz := zMth_of c1 (by omega) (by omega)
  have hM := call_met l G hz (as := .ref a :: as) (by rw [List.map_cons, List.sum_cons, show (Value.ref a).category = 1 from rfl]; omega) hc
  rw [hN, hS1, Nat.sub_self, Nat.sub_self] at hM
  obtain ⟨h13, ha, cell, q1, q2, q3, q4⟩ := hS.obj hk
  have hrec : ∃ cellB : Cell, H[G.1 + a]? = some cellB ∧ cellB.vm.isStatics = false ∧ s.vm.findClass (zNm z).cls = some cellB.cls := ⟨cell, q1, by rw [q3]; rfl, by rw [hz.2.1, q2]; exact (hT.1 _ h13).2.1⟩
  have hlink : Jvm.Cond.methodLink R_law ix (zNm z) ∈ zTw := zTw_of zLawC_ok _ (List.mem_map.mpr ⟨(ix, z), hlk, rfl⟩) rfl
  have hrun := va_runV (R := room_1) (cells := cells) (slots := slots) (locs := locs) (meth := meth) (e := e) (below := below) (own := R_law) (index := ix) (bytes := zB z) (maxL := zML z) (ret := zRt z) (n := zNp z) (b := G.1 + a) (As := as.map (cvV G)) (rest := rest) (g := F0 m pc ls st0) (C := (zNm z).cls) ⟨hx, hb, hml, hown, hw⟩ hM (cwV (Ts := zTw) (zNp z) hw (by
      intro w hw2
      unfold wsV at hw2
      rcases List.mem_append.mp hw2 with hw2 | hw2
      · rcases List.mem_cons.mp hw2 with rfl | hw2
        · exact zTw_good _ hlink
        · rcases List.mem_cons.mp hw2 with rfl | hw2
          · exact zTw_good _ (zTw_ins c3)
          · rcases List.mem_cons.mp hw2 with rfl | hw2
            · exact zTw_good _ (zTw_sel c5)
            · rw [List.mem_singleton.mp hw2, hz.2.1]
              exact zTw_good _ (zw_inst c2).2
      · exact zWs_good hz w hw2) (zWs_eq z) rfl rfl ⟨rfl, hz.2.2.2.1⟩ ⟨by show 40 + 1 ≤ 2048; decide, by have := hz.2.2.2.2; show 8 + (zML z + 11) + 40 * 40 ≤ 84000; omega⟩) ⟨zPc_blind G _ mm, hrec, zs_pre hT hX rfl hS⟩ rfl (by rw [List.length_map]; exact hnp) hls hstk (by show 2 * 0 + _ ≤ 8; omega) hd ⟨hc1, hs1⟩
  intro T hT' X
  obtain ⟨v, st₀, t, T', L9, h0, X', hL, e1, e2, ⟨hv, hz9⟩, stp⟩ := hrun T hT' X
  have hv' : v = r.map (cvV G) := by injection hv
  subst hv'
  rw [h0] at hz9
  have hz' : zSt G s.heap m1 T'.heap (locs ++ L9) := by
    rw [e1]
    refine ⟨hz9.1, hz9.2.1, hz9.2.2.1, fun q hq => (hz9.2.2.2.1 q hq).trans (hS.2.2.2.1 q hq), fun q hq => ?_⟩
    rcases List.mem_append.mp hq with h | h
    · exact hS.2.2.2.2 q h
    · exact hL q h
  obtain ⟨t2, a1, b1⟩ := kk T'.heap _ hz' T' rfl X'
  exact ⟨t2, stp t2 a1, b1⟩
set_option maxHeartbeats 4000000 in
theorem law_c0 (hx : p.tables.exec = Jvm.exec) (hb : c.code = code) (hml : c.maxLocals = 4) (hown : s.vm.findClass R_law = some m.cls) (hw : ∀ w ∈ zTw, w.before #[Value.ref b] s = true) (hT : zTab G s) (hX : zStr G s) (hG : G.1 = s.heap.size) (hscr : va_X b L xs s s.heap) (hbl : b < s.heap.size) (hL : L ≤ 3072) {A cells slots i : Nat} {Sim : zMem → Prop} {mm : zMem} {H : Heap} {locs : List Loc} {ls : Array Slot} (hc1 : cells ≤ room_1.cells) (hs1 : slots ≤ room_1.slots) (hS : zSt G s.heap mm H locs) (hsim : Sim mm) (hl : lv_has ls 4 [(0, .ref b), (1, .ref (G.1 + 0)), (2, .ref (G.1 + A)), (3, .int (nI i))]) (hi : i + 6 ≤ L) (hok : zOkI Sim A 25 196 []) (kk : ∀ (m2 : zMem) (H2 : Heap) (locs2 : List Loc), zSt G s.heap m2 H2 locs2 → Sim m2 → W p l e room_1 s m #[Value.ref b] below meth c H2 locs2 cells slots Q (F0 m 1727 ls [])) : W p l e room_1 s m #[Value.ref b] below meth c H locs cells slots Q (F0 m 240 ls []) := by
  have hbA : ¬ (fun q : Nat => s.heap.size ≤ q) b := Nat.not_le.mpr hbl
  refine lv_aload_n hx hb dl_240 rfl (lv_at hl 1 rfl) ?_
  obtain ⟨r, m1, m2, hc0, hc9, ⟨n1, n2, n3, n4⟩, k0, kA, hsim2⟩ := hok mm hsim
  refine zlaw_call (z := 25) (a := 0) (as := []) (rest := []) hx hb hml hown hw hT hX hS hl.1 (by decide) (by decide +kernel) (by rw [k0, show zMc 25 = 11 by decide +kernel]) hc0 n1 n2 (Nat.le_of_ble_eq_true (by simp only [Value.category, List.map, List.sum_cons, List.sum_nil]; decide +kernel)) (by rw [show zNp 25 = 0 by decide +kernel]; rfl) rfl (by decide) hc1 hs1 dl_241 (fun H locs hS1 => ?_)
  refine W.eq (g2 := F0 m 244 ls [.int r]) rfl ?_
  refine lv_aload_n hx hb dl_244 rfl (lv_at hl 2 rfl) ?_
  refine zlaw_call (z := 196) (a := A) (as := []) (rest := [.int r]) hx hb hml hown hw hT hX hS1 hl.1 (by decide) (by decide +kernel) (by rw [kA, show zMc 196 = 12 by decide +kernel]) hc9 n3 n4 (Nat.le_of_ble_eq_true (by simp only [Value.category, List.map, List.sum_cons, List.sum_nil]; decide +kernel)) (by rw [show zNp 196 = 0 by decide +kernel]; rfl) rfl (by simp [Value.category]) hc1 hs1 dl_245 (fun H locs hS2 => ?_)
  refine W.eq (g2 := F0 m 248 ls [.int r, .int r]) rfl ?_
  exact lv_icmp_eq (tgt := 1727) hx hb dl_248 (by decide) (fun _ => kk m2 H locs hS2 hsim2) (fun q => absurd rfl q)
set_option maxHeartbeats 4000000 in
theorem law_c1 (hx : p.tables.exec = Jvm.exec) (hb : c.code = code) (hml : c.maxLocals = 4) (hown : s.vm.findClass R_law = some m.cls) (hw : ∀ w ∈ zTw, w.before #[Value.ref b] s = true) (hT : zTab G s) (hX : zStr G s) (hG : G.1 = s.heap.size) (hscr : va_X b L xs s s.heap) (hbl : b < s.heap.size) (hL : L ≤ 3072) {A cells slots i : Nat} {Sim : zMem → Prop} {mm : zMem} {H : Heap} {locs : List Loc} {ls : Array Slot} (hc1 : cells ≤ room_1.cells) (hs1 : slots ≤ room_1.slots) (hS : zSt G s.heap mm H locs) (hsim : Sim mm) (hl : lv_has ls 4 [(0, .ref b), (1, .ref (G.1 + 0)), (2, .ref (G.1 + A)), (3, .int (nI i))]) (hi : i + 6 ≤ L) (hok : zOkL Sim A 26 197 []) (kk : ∀ (m2 : zMem) (H2 : Heap) (locs2 : List Loc), zSt G s.heap m2 H2 locs2 → Sim m2 → W p l e room_1 s m #[Value.ref b] below meth c H2 locs2 cells slots Q (F0 m 1727 ls [])) : W p l e room_1 s m #[Value.ref b] below meth c H locs cells slots Q (F0 m 253 ls []) := by
  have hbA : ¬ (fun q : Nat => s.heap.size ≤ q) b := Nat.not_le.mpr hbl
  refine lv_aload_n hx hb dl_253 rfl (lv_at hl 1 rfl) ?_
  obtain ⟨r, m1, m2, hc0, hc9, ⟨n1, n2, n3, n4⟩, k0, kA, hsim2⟩ := hok mm hsim
  refine zlaw_call (z := 26) (a := 0) (as := []) (rest := []) hx hb hml hown hw hT hX hS hl.1 (by decide) (by decide +kernel) (by rw [k0, show zMc 26 = 11 by decide +kernel]) hc0 n1 n2 (Nat.le_of_ble_eq_true (by simp only [Value.category, List.map, List.sum_cons, List.sum_nil]; decide +kernel)) (by rw [show zNp 26 = 0 by decide +kernel]; rfl) rfl (by decide) hc1 hs1 dl_254 (fun H locs hS1 => ?_)
  refine W.eq (g2 := F0 m 257 ls [.long r]) rfl ?_
  refine lv_aload_n hx hb dl_257 rfl (lv_at hl 2 rfl) ?_
  refine zlaw_call (z := 197) (a := A) (as := []) (rest := [.long r]) hx hb hml hown hw hT hX hS1 hl.1 (by decide) (by decide +kernel) (by rw [kA, show zMc 197 = 12 by decide +kernel]) hc9 n3 n4 (Nat.le_of_ble_eq_true (by simp only [Value.category, List.map, List.sum_cons, List.sum_nil]; decide +kernel)) (by rw [show zNp 197 = 0 by decide +kernel]; rfl) rfl (by simp [Value.category]) hc1 hs1 dl_258 (fun H locs hS2 => ?_)
  refine W.eq (g2 := F0 m 261 ls [.long r, .long r]) rfl ?_
  refine W.lcmp hx hb dl_261 ?_
  rw [show lg_cmp r r = 0 by simp [lg_cmp]]
  exact lv_if_eq (tgt := 1727) hx hb dl_262 (by decide) (fun _ => kk m2 H locs hS2 hsim2) (fun q => absurd rfl q)
set_option maxHeartbeats 4000000 in
theorem law_c2 (hx : p.tables.exec = Jvm.exec) (hb : c.code = code) (hml : c.maxLocals = 4) (hown : s.vm.findClass R_law = some m.cls) (hw : ∀ w ∈ zTw, w.before #[Value.ref b] s = true) (hT : zTab G s) (hX : zStr G s) (hG : G.1 = s.heap.size) (hscr : va_X b L xs s s.heap) (hbl : b < s.heap.size) (hL : L ≤ 3072) {A cells slots i : Nat} {Sim : zMem → Prop} {mm : zMem} {H : Heap} {locs : List Loc} {ls : Array Slot} (hc1 : cells ≤ room_1.cells) (hs1 : slots ≤ room_1.slots) (hS : zSt G s.heap mm H locs) (hsim : Sim mm) (hl : lv_has ls 4 [(0, .ref b), (1, .ref (G.1 + 0)), (2, .ref (G.1 + A)), (3, .int (nI i))]) (hi : i + 6 ≤ L) (hok : zOkL Sim A 27 198 []) (kk : ∀ (m2 : zMem) (H2 : Heap) (locs2 : List Loc), zSt G s.heap m2 H2 locs2 → Sim m2 → W p l e room_1 s m #[Value.ref b] below meth c H2 locs2 cells slots Q (F0 m 1727 ls [])) : W p l e room_1 s m #[Value.ref b] below meth c H locs cells slots Q (F0 m 267 ls []) := by
  have hbA : ¬ (fun q : Nat => s.heap.size ≤ q) b := Nat.not_le.mpr hbl
  refine lv_aload_n hx hb dl_267 rfl (lv_at hl 1 rfl) ?_
  obtain ⟨r, m1, m2, hc0, hc9, ⟨n1, n2, n3, n4⟩, k0, kA, hsim2⟩ := hok mm hsim
  refine zlaw_call (z := 27) (a := 0) (as := []) (rest := []) hx hb hml hown hw hT hX hS hl.1 (by decide) (by decide +kernel) (by rw [k0, show zMc 27 = 11 by decide +kernel]) hc0 n1 n2 (Nat.le_of_ble_eq_true (by simp only [Value.category, List.map, List.sum_cons, List.sum_nil]; decide +kernel)) (by rw [show zNp 27 = 0 by decide +kernel]; rfl) rfl (by decide) hc1 hs1 dl_268 (fun H locs hS1 => ?_)
  refine W.eq (g2 := F0 m 271 ls [.long r]) rfl ?_
  refine lv_aload_n hx hb dl_271 rfl (lv_at hl 2 rfl) ?_
  refine zlaw_call (z := 198) (a := A) (as := []) (rest := [.long r]) hx hb hml hown hw hT hX hS1 hl.1 (by decide) (by decide +kernel) (by rw [kA, show zMc 198 = 12 by decide +kernel]) hc9 n3 n4 (Nat.le_of_ble_eq_true (by simp only [Value.category, List.map, List.sum_cons, List.sum_nil]; decide +kernel)) (by rw [show zNp 198 = 0 by decide +kernel]; rfl) rfl (by simp [Value.category]) hc1 hs1 dl_272 (fun H locs hS2 => ?_)
  refine W.eq (g2 := F0 m 275 ls [.long r, .long r]) rfl ?_
  refine W.lcmp hx hb dl_275 ?_
  rw [show lg_cmp r r = 0 by simp [lg_cmp]]
  exact lv_if_eq (tgt := 1727) hx hb dl_276 (by decide) (fun _ => kk m2 H locs hS2 hsim2) (fun q => absurd rfl q)
set_option maxHeartbeats 4000000 in
theorem law_c3 (hx : p.tables.exec = Jvm.exec) (hb : c.code = code) (hml : c.maxLocals = 4) (hown : s.vm.findClass R_law = some m.cls) (hw : ∀ w ∈ zTw, w.before #[Value.ref b] s = true) (hT : zTab G s) (hX : zStr G s) (hG : G.1 = s.heap.size) (hscr : va_X b L xs s s.heap) (hbl : b < s.heap.size) (hL : L ≤ 3072) {A cells slots i : Nat} {Sim : zMem → Prop} {mm : zMem} {H : Heap} {locs : List Loc} {ls : Array Slot} (hc1 : cells ≤ room_1.cells) (hs1 : slots ≤ room_1.slots) (hS : zSt G s.heap mm H locs) (hsim : Sim mm) (hl : lv_has ls 4 [(0, .ref b), (1, .ref (G.1 + 0)), (2, .ref (G.1 + A)), (3, .int (nI i))]) (hi : i + 6 ≤ L) (hok : ∀ (y0 : Int32) (y1 : Int32) (y2 : Int32), zOkI Sim A 28 199 [.int y0, .int y1, .int y2]) (kk : ∀ (m2 : zMem) (H2 : Heap) (locs2 : List Loc), zSt G s.heap m2 H2 locs2 → Sim m2 → W p l e room_1 s m #[Value.ref b] below meth c H2 locs2 cells slots Q (F0 m 1727 ls [])) : W p l e room_1 s m #[Value.ref b] below meth c H locs cells slots Q (F0 m 281 ls []) := by
  have hbA : ¬ (fun q : Nat => s.heap.size ≤ q) b := Nat.not_le.mpr hbl
  refine lv_aload_n hx hb dl_281 rfl (lv_at hl 1 rfl) ?_
  refine lv_aload_n hx hb dl_282 rfl (lv_at hl 0 rfl) ?_
  refine lv_iload_n hx hb dl_283 rfl (lv_at hl 3 rfl) ?_
  refine lv_iconst (v := 1) hx hb dl_284 (by decide) ?_
  refine lv_iadd hx hb dl_285 ?_
  refine va_sld hx hb hscr hbl hbA (zlaw_S hG hS) (i := nI i + 1) (by rw [show nI i + 1 = nI (i + 1) from nI_add i 1]; exact vp_in_nI (by omega) (by omega)) dl_286 ?_
  refine lv_aload_n hx hb dl_287 rfl (lv_at hl 0 rfl) ?_
  refine lv_iload_n hx hb dl_288 rfl (lv_at hl 3 rfl) ?_
  refine lv_iconst (v := 2) hx hb dl_289 (by decide) ?_
  refine lv_iadd hx hb dl_290 ?_
  refine va_sld hx hb hscr hbl hbA (zlaw_S hG hS) (i := nI i + 2) (by rw [show nI i + 2 = nI (i + 2) from nI_add i 2]; exact vp_in_nI (by omega) (by omega)) dl_291 ?_
  refine lv_aload_n hx hb dl_292 rfl (lv_at hl 0 rfl) ?_
  refine lv_iload_n hx hb dl_293 rfl (lv_at hl 3 rfl) ?_
  refine lv_iconst (v := 3) hx hb dl_294 (by decide) ?_
  refine lv_iadd hx hb dl_295 ?_
  refine va_sld hx hb hscr hbl hbA (zlaw_S hG hS) (i := nI i + 3) (by rw [show nI i + 3 = nI (i + 3) from nI_add i 3]; exact vp_in_nI (by omega) (by omega)) dl_296 ?_
  obtain ⟨r, m1, m2, hc0, hc9, ⟨n1, n2, n3, n4⟩, k0, kA, hsim2⟩ := hok (xs (nI i + 1).toNatClampNeg) (xs (nI i + 2).toNatClampNeg) (xs (nI i + 3).toNatClampNeg) mm hsim
  refine zlaw_call (z := 28) (a := 0) (as := [.int (xs (nI i + 1).toNatClampNeg), .int (xs (nI i + 2).toNatClampNeg), .int (xs (nI i + 3).toNatClampNeg)]) (rest := []) hx hb hml hown hw hT hX hS hl.1 (by decide) (by decide +kernel) (by rw [k0, show zMc 28 = 11 by decide +kernel]) hc0 n1 n2 (Nat.le_of_ble_eq_true (by simp only [Value.category, List.map, List.sum_cons, List.sum_nil]; decide +kernel)) (by rw [show zNp 28 = 3 by decide +kernel]; rfl) rfl (by decide) hc1 hs1 dl_297 (fun H locs hS1 => ?_)
  refine W.eq (g2 := F0 m 300 ls [.int r]) rfl ?_
  refine lv_aload_n hx hb dl_300 rfl (lv_at hl 2 rfl) ?_
  refine lv_aload_n hx hb dl_301 rfl (lv_at hl 0 rfl) ?_
  refine lv_iload_n hx hb dl_302 rfl (lv_at hl 3 rfl) ?_
  refine lv_iconst (v := 1) hx hb dl_303 (by decide) ?_
  refine lv_iadd hx hb dl_304 ?_
  refine va_sld hx hb hscr hbl hbA (zlaw_S hG hS1) (i := nI i + 1) (by rw [show nI i + 1 = nI (i + 1) from nI_add i 1]; exact vp_in_nI (by omega) (by omega)) dl_305 ?_
  refine lv_aload_n hx hb dl_306 rfl (lv_at hl 0 rfl) ?_
  refine lv_iload_n hx hb dl_307 rfl (lv_at hl 3 rfl) ?_
  refine lv_iconst (v := 2) hx hb dl_308 (by decide) ?_
  refine lv_iadd hx hb dl_309 ?_
  refine va_sld hx hb hscr hbl hbA (zlaw_S hG hS1) (i := nI i + 2) (by rw [show nI i + 2 = nI (i + 2) from nI_add i 2]; exact vp_in_nI (by omega) (by omega)) dl_310 ?_
  refine lv_aload_n hx hb dl_311 rfl (lv_at hl 0 rfl) ?_
  refine lv_iload_n hx hb dl_312 rfl (lv_at hl 3 rfl) ?_
  refine lv_iconst (v := 3) hx hb dl_313 (by decide) ?_
  refine lv_iadd hx hb dl_314 ?_
  refine va_sld hx hb hscr hbl hbA (zlaw_S hG hS1) (i := nI i + 3) (by rw [show nI i + 3 = nI (i + 3) from nI_add i 3]; exact vp_in_nI (by omega) (by omega)) dl_315 ?_
  refine zlaw_call (z := 199) (a := A) (as := [.int (xs (nI i + 1).toNatClampNeg), .int (xs (nI i + 2).toNatClampNeg), .int (xs (nI i + 3).toNatClampNeg)]) (rest := [.int r]) hx hb hml hown hw hT hX hS1 hl.1 (by decide) (by decide +kernel) (by rw [kA, show zMc 199 = 12 by decide +kernel]) hc9 n3 n4 (Nat.le_of_ble_eq_true (by simp only [Value.category, List.map, List.sum_cons, List.sum_nil]; decide +kernel)) (by rw [show zNp 199 = 3 by decide +kernel]; rfl) rfl (by simp [Value.category]) hc1 hs1 dl_316 (fun H locs hS2 => ?_)
  refine W.eq (g2 := F0 m 319 ls [.int r, .int r]) rfl ?_
  exact lv_icmp_eq (tgt := 1727) hx hb dl_319 (by decide) (fun _ => kk m2 H locs hS2 hsim2) (fun q => absurd rfl q)
set_option maxHeartbeats 4000000 in
theorem law_c4 (hx : p.tables.exec = Jvm.exec) (hb : c.code = code) (hml : c.maxLocals = 4) (hown : s.vm.findClass R_law = some m.cls) (hw : ∀ w ∈ zTw, w.before #[Value.ref b] s = true) (hT : zTab G s) (hX : zStr G s) (hG : G.1 = s.heap.size) (hscr : va_X b L xs s s.heap) (hbl : b < s.heap.size) (hL : L ≤ 3072) {A cells slots i : Nat} {Sim : zMem → Prop} {mm : zMem} {H : Heap} {locs : List Loc} {ls : Array Slot} (hc1 : cells ≤ room_1.cells) (hs1 : slots ≤ room_1.slots) (hS : zSt G s.heap mm H locs) (hsim : Sim mm) (hl : lv_has ls 4 [(0, .ref b), (1, .ref (G.1 + 0)), (2, .ref (G.1 + A)), (3, .int (nI i))]) (hi : i + 6 ≤ L) (hok : ∀ (y0 : Int32) (y1 : Int32) (y2 : Int64), zOkI Sim A 34 201 [.int y0, .int y1, .long y2]) (kk : ∀ (m2 : zMem) (H2 : Heap) (locs2 : List Loc), zSt G s.heap m2 H2 locs2 → Sim m2 → W p l e room_1 s m #[Value.ref b] below meth c H2 locs2 cells slots Q (F0 m 1727 ls [])) : W p l e room_1 s m #[Value.ref b] below meth c H locs cells slots Q (F0 m 324 ls []) := by
  have hbA : ¬ (fun q : Nat => s.heap.size ≤ q) b := Nat.not_le.mpr hbl
  refine lv_aload_n hx hb dl_324 rfl (lv_at hl 1 rfl) ?_
  refine lv_aload_n hx hb dl_325 rfl (lv_at hl 0 rfl) ?_
  refine lv_iload_n hx hb dl_326 rfl (lv_at hl 3 rfl) ?_
  refine lv_iconst (v := 1) hx hb dl_327 (by decide) ?_
  refine lv_iadd hx hb dl_328 ?_
  refine va_sld hx hb hscr hbl hbA (zlaw_S hG hS) (i := nI i + 1) (by rw [show nI i + 1 = nI (i + 1) from nI_add i 1]; exact vp_in_nI (by omega) (by omega)) dl_329 ?_
  refine lv_aload_n hx hb dl_330 rfl (lv_at hl 0 rfl) ?_
  refine lv_iload_n hx hb dl_331 rfl (lv_at hl 3 rfl) ?_
  refine lv_iconst (v := 2) hx hb dl_332 (by decide) ?_
  refine lv_iadd hx hb dl_333 ?_
  refine va_sld hx hb hscr hbl hbA (zlaw_S hG hS) (i := nI i + 2) (by rw [show nI i + 2 = nI (i + 2) from nI_add i 2]; exact vp_in_nI (by omega) (by omega)) dl_334 ?_
  refine lv_aload_n hx hb dl_335 rfl (lv_at hl 0 rfl) ?_
  refine lv_iload_n hx hb dl_336 rfl (lv_at hl 3 rfl) ?_
  refine lv_iconst (v := 3) hx hb dl_337 (by decide) ?_
  refine lv_iadd hx hb dl_338 ?_
  refine va_sld hx hb hscr hbl hbA (zlaw_S hG hS) (i := nI i + 3) (by rw [show nI i + 3 = nI (i + 3) from nI_add i 3]; exact vp_in_nI (by omega) (by omega)) dl_339 ?_
  refine lv_i2l hx hb dl_340 rfl ?_
  refine lv_bipush (v := 32) hx hb dl_341 (by decide) ?_
  refine lv_lshl hx hb dl_343 rfl ?_
  refine lv_aload_n hx hb dl_344 rfl (lv_at hl 0 rfl) ?_
  refine lv_iload_n hx hb dl_345 rfl (lv_at hl 3 rfl) ?_
  refine lv_iconst (v := 4) hx hb dl_346 (by decide) ?_
  refine lv_iadd hx hb dl_347 ?_
  refine va_sld hx hb hscr hbl hbA (zlaw_S hG hS) (i := nI i + 4) (by rw [show nI i + 4 = nI (i + 4) from nI_add i 4]; exact vp_in_nI (by omega) (by omega)) dl_348 ?_
  refine lv_i2l hx hb dl_349 rfl ?_
  refine lv_ldc2 (own := R_law) (v := 4294967295) hx hb hown (hw _ zlaw_c) dl_350 ?_
  refine lv_land hx hb dl_353 ?_
  refine lv_lor hx hb dl_354 ?_
  obtain ⟨r, m1, m2, hc0, hc9, ⟨n1, n2, n3, n4⟩, k0, kA, hsim2⟩ := hok (xs (nI i + 1).toNatClampNeg) (xs (nI i + 2).toNatClampNeg) ((((xs (nI i + 3).toNatClampNeg).toInt64 <<< ((32 : Int32).toInt64 &&& 63)) ||| ((xs (nI i + 4).toNatClampNeg).toInt64 &&& (4294967295 : Int64)))) mm hsim
  refine zlaw_call (z := 34) (a := 0) (as := [.int (xs (nI i + 1).toNatClampNeg), .int (xs (nI i + 2).toNatClampNeg), .long ((((xs (nI i + 3).toNatClampNeg).toInt64 <<< ((32 : Int32).toInt64 &&& 63)) ||| ((xs (nI i + 4).toNatClampNeg).toInt64 &&& (4294967295 : Int64))))]) (rest := []) hx hb hml hown hw hT hX hS hl.1 (by decide) (by decide +kernel) (by rw [k0, show zMc 34 = 11 by decide +kernel]) hc0 n1 n2 (Nat.le_of_ble_eq_true (by simp only [Value.category, List.map, List.sum_cons, List.sum_nil]; decide +kernel)) (by rw [show zNp 34 = 3 by decide +kernel]; rfl) rfl (by decide) hc1 hs1 dl_355 (fun H locs hS1 => ?_)
  refine W.eq (g2 := F0 m 358 ls [.int r]) rfl ?_
  refine lv_aload_n hx hb dl_358 rfl (lv_at hl 2 rfl) ?_
  refine lv_aload_n hx hb dl_359 rfl (lv_at hl 0 rfl) ?_
  refine lv_iload_n hx hb dl_360 rfl (lv_at hl 3 rfl) ?_
  refine lv_iconst (v := 1) hx hb dl_361 (by decide) ?_
  refine lv_iadd hx hb dl_362 ?_
  refine va_sld hx hb hscr hbl hbA (zlaw_S hG hS1) (i := nI i + 1) (by rw [show nI i + 1 = nI (i + 1) from nI_add i 1]; exact vp_in_nI (by omega) (by omega)) dl_363 ?_
  refine lv_aload_n hx hb dl_364 rfl (lv_at hl 0 rfl) ?_
  refine lv_iload_n hx hb dl_365 rfl (lv_at hl 3 rfl) ?_
  refine lv_iconst (v := 2) hx hb dl_366 (by decide) ?_
  refine lv_iadd hx hb dl_367 ?_
  refine va_sld hx hb hscr hbl hbA (zlaw_S hG hS1) (i := nI i + 2) (by rw [show nI i + 2 = nI (i + 2) from nI_add i 2]; exact vp_in_nI (by omega) (by omega)) dl_368 ?_
  refine lv_aload_n hx hb dl_369 rfl (lv_at hl 0 rfl) ?_
  refine lv_iload_n hx hb dl_370 rfl (lv_at hl 3 rfl) ?_
  refine lv_iconst (v := 3) hx hb dl_371 (by decide) ?_
  refine lv_iadd hx hb dl_372 ?_
  refine va_sld hx hb hscr hbl hbA (zlaw_S hG hS1) (i := nI i + 3) (by rw [show nI i + 3 = nI (i + 3) from nI_add i 3]; exact vp_in_nI (by omega) (by omega)) dl_373 ?_
  refine lv_i2l hx hb dl_374 rfl ?_
  refine lv_bipush (v := 32) hx hb dl_375 (by decide) ?_
  refine lv_lshl hx hb dl_377 rfl ?_
  refine lv_aload_n hx hb dl_378 rfl (lv_at hl 0 rfl) ?_
  refine lv_iload_n hx hb dl_379 rfl (lv_at hl 3 rfl) ?_
  refine lv_iconst (v := 4) hx hb dl_380 (by decide) ?_
  refine lv_iadd hx hb dl_381 ?_
  refine va_sld hx hb hscr hbl hbA (zlaw_S hG hS1) (i := nI i + 4) (by rw [show nI i + 4 = nI (i + 4) from nI_add i 4]; exact vp_in_nI (by omega) (by omega)) dl_382 ?_
  refine lv_i2l hx hb dl_383 rfl ?_
  refine lv_ldc2 (own := R_law) (v := 4294967295) hx hb hown (hw _ zlaw_c) dl_384 ?_
  refine lv_land hx hb dl_387 ?_
  refine lv_lor hx hb dl_388 ?_
  refine zlaw_call (z := 201) (a := A) (as := [.int (xs (nI i + 1).toNatClampNeg), .int (xs (nI i + 2).toNatClampNeg), .long ((((xs (nI i + 3).toNatClampNeg).toInt64 <<< ((32 : Int32).toInt64 &&& 63)) ||| ((xs (nI i + 4).toNatClampNeg).toInt64 &&& (4294967295 : Int64))))]) (rest := [.int r]) hx hb hml hown hw hT hX hS1 hl.1 (by decide) (by decide +kernel) (by rw [kA, show zMc 201 = 12 by decide +kernel]) hc9 n3 n4 (Nat.le_of_ble_eq_true (by simp only [Value.category, List.map, List.sum_cons, List.sum_nil]; decide +kernel)) (by rw [show zNp 201 = 3 by decide +kernel]; rfl) rfl (by simp [Value.category]) hc1 hs1 dl_389 (fun H locs hS2 => ?_)
  refine W.eq (g2 := F0 m 392 ls [.int r, .int r]) rfl ?_
  exact lv_icmp_eq (tgt := 1727) hx hb dl_392 (by decide) (fun _ => kk m2 H locs hS2 hsim2) (fun q => absurd rfl q)
set_option maxHeartbeats 4000000 in
theorem law_c5 (hx : p.tables.exec = Jvm.exec) (hb : c.code = code) (hml : c.maxLocals = 4) (hown : s.vm.findClass R_law = some m.cls) (hw : ∀ w ∈ zTw, w.before #[Value.ref b] s = true) (hT : zTab G s) (hX : zStr G s) (hG : G.1 = s.heap.size) (hscr : va_X b L xs s s.heap) (hbl : b < s.heap.size) (hL : L ≤ 3072) {A cells slots i : Nat} {Sim : zMem → Prop} {mm : zMem} {H : Heap} {locs : List Loc} {ls : Array Slot} (hc1 : cells ≤ room_1.cells) (hs1 : slots ≤ room_1.slots) (hS : zSt G s.heap mm H locs) (hsim : Sim mm) (hl : lv_has ls 4 [(0, .ref b), (1, .ref (G.1 + 0)), (2, .ref (G.1 + A)), (3, .int (nI i))]) (hi : i + 6 ≤ L) (hok : ∀ (y0 : Int32) (y1 : Int32), zOkL Sim A 38 205 [.int y0, .int y1]) (kk : ∀ (m2 : zMem) (H2 : Heap) (locs2 : List Loc), zSt G s.heap m2 H2 locs2 → Sim m2 → W p l e room_1 s m #[Value.ref b] below meth c H2 locs2 cells slots Q (F0 m 1727 ls [])) : W p l e room_1 s m #[Value.ref b] below meth c H locs cells slots Q (F0 m 397 ls []) := by
  have hbA : ¬ (fun q : Nat => s.heap.size ≤ q) b := Nat.not_le.mpr hbl
  refine lv_aload_n hx hb dl_397 rfl (lv_at hl 1 rfl) ?_
  refine lv_aload_n hx hb dl_398 rfl (lv_at hl 0 rfl) ?_
  refine lv_iload_n hx hb dl_399 rfl (lv_at hl 3 rfl) ?_
  refine lv_iconst (v := 1) hx hb dl_400 (by decide) ?_
  refine lv_iadd hx hb dl_401 ?_
  refine va_sld hx hb hscr hbl hbA (zlaw_S hG hS) (i := nI i + 1) (by rw [show nI i + 1 = nI (i + 1) from nI_add i 1]; exact vp_in_nI (by omega) (by omega)) dl_402 ?_
  refine lv_aload_n hx hb dl_403 rfl (lv_at hl 0 rfl) ?_
  refine lv_iload_n hx hb dl_404 rfl (lv_at hl 3 rfl) ?_
  refine lv_iconst (v := 2) hx hb dl_405 (by decide) ?_
  refine lv_iadd hx hb dl_406 ?_
  refine va_sld hx hb hscr hbl hbA (zlaw_S hG hS) (i := nI i + 2) (by rw [show nI i + 2 = nI (i + 2) from nI_add i 2]; exact vp_in_nI (by omega) (by omega)) dl_407 ?_
  obtain ⟨r, m1, m2, hc0, hc9, ⟨n1, n2, n3, n4⟩, k0, kA, hsim2⟩ := hok (xs (nI i + 1).toNatClampNeg) (xs (nI i + 2).toNatClampNeg) mm hsim
  refine zlaw_call (z := 38) (a := 0) (as := [.int (xs (nI i + 1).toNatClampNeg), .int (xs (nI i + 2).toNatClampNeg)]) (rest := []) hx hb hml hown hw hT hX hS hl.1 (by decide) (by decide +kernel) (by rw [k0, show zMc 38 = 11 by decide +kernel]) hc0 n1 n2 (Nat.le_of_ble_eq_true (by simp only [Value.category, List.map, List.sum_cons, List.sum_nil]; decide +kernel)) (by rw [show zNp 38 = 2 by decide +kernel]; rfl) rfl (by decide) hc1 hs1 dl_408 (fun H locs hS1 => ?_)
  refine W.eq (g2 := F0 m 411 ls [.long r]) rfl ?_
  refine lv_aload_n hx hb dl_411 rfl (lv_at hl 2 rfl) ?_
  refine lv_aload_n hx hb dl_412 rfl (lv_at hl 0 rfl) ?_
  refine lv_iload_n hx hb dl_413 rfl (lv_at hl 3 rfl) ?_
  refine lv_iconst (v := 1) hx hb dl_414 (by decide) ?_
  refine lv_iadd hx hb dl_415 ?_
  refine va_sld hx hb hscr hbl hbA (zlaw_S hG hS1) (i := nI i + 1) (by rw [show nI i + 1 = nI (i + 1) from nI_add i 1]; exact vp_in_nI (by omega) (by omega)) dl_416 ?_
  refine lv_aload_n hx hb dl_417 rfl (lv_at hl 0 rfl) ?_
  refine lv_iload_n hx hb dl_418 rfl (lv_at hl 3 rfl) ?_
  refine lv_iconst (v := 2) hx hb dl_419 (by decide) ?_
  refine lv_iadd hx hb dl_420 ?_
  refine va_sld hx hb hscr hbl hbA (zlaw_S hG hS1) (i := nI i + 2) (by rw [show nI i + 2 = nI (i + 2) from nI_add i 2]; exact vp_in_nI (by omega) (by omega)) dl_421 ?_
  refine zlaw_call (z := 205) (a := A) (as := [.int (xs (nI i + 1).toNatClampNeg), .int (xs (nI i + 2).toNatClampNeg)]) (rest := [.long r]) hx hb hml hown hw hT hX hS1 hl.1 (by decide) (by decide +kernel) (by rw [kA, show zMc 205 = 12 by decide +kernel]) hc9 n3 n4 (Nat.le_of_ble_eq_true (by simp only [Value.category, List.map, List.sum_cons, List.sum_nil]; decide +kernel)) (by rw [show zNp 205 = 2 by decide +kernel]; rfl) rfl (by simp [Value.category]) hc1 hs1 dl_422 (fun H locs hS2 => ?_)
  refine W.eq (g2 := F0 m 425 ls [.long r, .long r]) rfl ?_
  refine W.lcmp hx hb dl_425 ?_
  rw [show lg_cmp r r = 0 by simp [lg_cmp]]
  exact lv_if_eq (tgt := 1727) hx hb dl_426 (by decide) (fun _ => kk m2 H locs hS2 hsim2) (fun q => absurd rfl q)
set_option maxHeartbeats 4000000 in
theorem law_c6 (hx : p.tables.exec = Jvm.exec) (hb : c.code = code) (hml : c.maxLocals = 4) (hown : s.vm.findClass R_law = some m.cls) (hw : ∀ w ∈ zTw, w.before #[Value.ref b] s = true) (hT : zTab G s) (hX : zStr G s) (hG : G.1 = s.heap.size) (hscr : va_X b L xs s s.heap) (hbl : b < s.heap.size) (hL : L ≤ 3072) {A cells slots i : Nat} {Sim : zMem → Prop} {mm : zMem} {H : Heap} {locs : List Loc} {ls : Array Slot} (hc1 : cells ≤ room_1.cells) (hs1 : slots ≤ room_1.slots) (hS : zSt G s.heap mm H locs) (hsim : Sim mm) (hl : lv_has ls 4 [(0, .ref b), (1, .ref (G.1 + 0)), (2, .ref (G.1 + A)), (3, .int (nI i))]) (hi : i + 6 ≤ L) (hok : ∀ (y0 : Int32) (y1 : Int32) (y2 : Int32) (y3 : Int32) (y4 : Int32), zOkI Sim A 40 206 [.int y0, .int y1, .int y2, .int y3, .int y4]) (kk : ∀ (m2 : zMem) (H2 : Heap) (locs2 : List Loc), zSt G s.heap m2 H2 locs2 → Sim m2 → W p l e room_1 s m #[Value.ref b] below meth c H2 locs2 cells slots Q (F0 m 1727 ls [])) : W p l e room_1 s m #[Value.ref b] below meth c H locs cells slots Q (F0 m 431 ls []) := by
  have hbA : ¬ (fun q : Nat => s.heap.size ≤ q) b := Nat.not_le.mpr hbl
  refine lv_aload_n hx hb dl_431 rfl (lv_at hl 1 rfl) ?_
  refine lv_aload_n hx hb dl_432 rfl (lv_at hl 0 rfl) ?_
  refine lv_iload_n hx hb dl_433 rfl (lv_at hl 3 rfl) ?_
  refine lv_iconst (v := 1) hx hb dl_434 (by decide) ?_
  refine lv_iadd hx hb dl_435 ?_
  refine va_sld hx hb hscr hbl hbA (zlaw_S hG hS) (i := nI i + 1) (by rw [show nI i + 1 = nI (i + 1) from nI_add i 1]; exact vp_in_nI (by omega) (by omega)) dl_436 ?_
  refine lv_aload_n hx hb dl_437 rfl (lv_at hl 0 rfl) ?_
  refine lv_iload_n hx hb dl_438 rfl (lv_at hl 3 rfl) ?_
  refine lv_iconst (v := 2) hx hb dl_439 (by decide) ?_
  refine lv_iadd hx hb dl_440 ?_
  refine va_sld hx hb hscr hbl hbA (zlaw_S hG hS) (i := nI i + 2) (by rw [show nI i + 2 = nI (i + 2) from nI_add i 2]; exact vp_in_nI (by omega) (by omega)) dl_441 ?_
  refine lv_aload_n hx hb dl_442 rfl (lv_at hl 0 rfl) ?_
  refine lv_iload_n hx hb dl_443 rfl (lv_at hl 3 rfl) ?_
  refine lv_iconst (v := 3) hx hb dl_444 (by decide) ?_
  refine lv_iadd hx hb dl_445 ?_
  refine va_sld hx hb hscr hbl hbA (zlaw_S hG hS) (i := nI i + 3) (by rw [show nI i + 3 = nI (i + 3) from nI_add i 3]; exact vp_in_nI (by omega) (by omega)) dl_446 ?_
  refine lv_aload_n hx hb dl_447 rfl (lv_at hl 0 rfl) ?_
  refine lv_iload_n hx hb dl_448 rfl (lv_at hl 3 rfl) ?_
  refine lv_iconst (v := 4) hx hb dl_449 (by decide) ?_
  refine lv_iadd hx hb dl_450 ?_
  refine va_sld hx hb hscr hbl hbA (zlaw_S hG hS) (i := nI i + 4) (by rw [show nI i + 4 = nI (i + 4) from nI_add i 4]; exact vp_in_nI (by omega) (by omega)) dl_451 ?_
  refine lv_aload_n hx hb dl_452 rfl (lv_at hl 0 rfl) ?_
  refine lv_iload_n hx hb dl_453 rfl (lv_at hl 3 rfl) ?_
  refine lv_iconst (v := 5) hx hb dl_454 (by decide) ?_
  refine lv_iadd hx hb dl_455 ?_
  refine va_sld hx hb hscr hbl hbA (zlaw_S hG hS) (i := nI i + 5) (by rw [show nI i + 5 = nI (i + 5) from nI_add i 5]; exact vp_in_nI (by omega) (by omega)) dl_456 ?_
  obtain ⟨r, m1, m2, hc0, hc9, ⟨n1, n2, n3, n4⟩, k0, kA, hsim2⟩ := hok (xs (nI i + 1).toNatClampNeg) (xs (nI i + 2).toNatClampNeg) (xs (nI i + 3).toNatClampNeg) (xs (nI i + 4).toNatClampNeg) (xs (nI i + 5).toNatClampNeg) mm hsim
  refine zlaw_call (z := 40) (a := 0) (as := [.int (xs (nI i + 1).toNatClampNeg), .int (xs (nI i + 2).toNatClampNeg), .int (xs (nI i + 3).toNatClampNeg), .int (xs (nI i + 4).toNatClampNeg), .int (xs (nI i + 5).toNatClampNeg)]) (rest := []) hx hb hml hown hw hT hX hS hl.1 (by decide) (by decide +kernel) (by rw [k0, show zMc 40 = 11 by decide +kernel]) hc0 n1 n2 (Nat.le_of_ble_eq_true (by simp only [Value.category, List.map, List.sum_cons, List.sum_nil]; decide +kernel)) (by rw [show zNp 40 = 5 by decide +kernel]; rfl) rfl (by decide) hc1 hs1 dl_457 (fun H locs hS1 => ?_)
  refine W.eq (g2 := F0 m 460 ls [.int r]) rfl ?_
  refine lv_aload_n hx hb dl_460 rfl (lv_at hl 2 rfl) ?_
  refine lv_aload_n hx hb dl_461 rfl (lv_at hl 0 rfl) ?_
  refine lv_iload_n hx hb dl_462 rfl (lv_at hl 3 rfl) ?_
  refine lv_iconst (v := 1) hx hb dl_463 (by decide) ?_
  refine lv_iadd hx hb dl_464 ?_
  refine va_sld hx hb hscr hbl hbA (zlaw_S hG hS1) (i := nI i + 1) (by rw [show nI i + 1 = nI (i + 1) from nI_add i 1]; exact vp_in_nI (by omega) (by omega)) dl_465 ?_
  refine lv_aload_n hx hb dl_466 rfl (lv_at hl 0 rfl) ?_
  refine lv_iload_n hx hb dl_467 rfl (lv_at hl 3 rfl) ?_
  refine lv_iconst (v := 2) hx hb dl_468 (by decide) ?_
  refine lv_iadd hx hb dl_469 ?_
  refine va_sld hx hb hscr hbl hbA (zlaw_S hG hS1) (i := nI i + 2) (by rw [show nI i + 2 = nI (i + 2) from nI_add i 2]; exact vp_in_nI (by omega) (by omega)) dl_470 ?_
  refine lv_aload_n hx hb dl_471 rfl (lv_at hl 0 rfl) ?_
  refine lv_iload_n hx hb dl_472 rfl (lv_at hl 3 rfl) ?_
  refine lv_iconst (v := 3) hx hb dl_473 (by decide) ?_
  refine lv_iadd hx hb dl_474 ?_
  refine va_sld hx hb hscr hbl hbA (zlaw_S hG hS1) (i := nI i + 3) (by rw [show nI i + 3 = nI (i + 3) from nI_add i 3]; exact vp_in_nI (by omega) (by omega)) dl_475 ?_
  refine lv_aload_n hx hb dl_476 rfl (lv_at hl 0 rfl) ?_
  refine lv_iload_n hx hb dl_477 rfl (lv_at hl 3 rfl) ?_
  refine lv_iconst (v := 4) hx hb dl_478 (by decide) ?_
  refine lv_iadd hx hb dl_479 ?_
  refine va_sld hx hb hscr hbl hbA (zlaw_S hG hS1) (i := nI i + 4) (by rw [show nI i + 4 = nI (i + 4) from nI_add i 4]; exact vp_in_nI (by omega) (by omega)) dl_480 ?_
  refine lv_aload_n hx hb dl_481 rfl (lv_at hl 0 rfl) ?_
  refine lv_iload_n hx hb dl_482 rfl (lv_at hl 3 rfl) ?_
  refine lv_iconst (v := 5) hx hb dl_483 (by decide) ?_
  refine lv_iadd hx hb dl_484 ?_
  refine va_sld hx hb hscr hbl hbA (zlaw_S hG hS1) (i := nI i + 5) (by rw [show nI i + 5 = nI (i + 5) from nI_add i 5]; exact vp_in_nI (by omega) (by omega)) dl_485 ?_
  refine zlaw_call (z := 206) (a := A) (as := [.int (xs (nI i + 1).toNatClampNeg), .int (xs (nI i + 2).toNatClampNeg), .int (xs (nI i + 3).toNatClampNeg), .int (xs (nI i + 4).toNatClampNeg), .int (xs (nI i + 5).toNatClampNeg)]) (rest := [.int r]) hx hb hml hown hw hT hX hS1 hl.1 (by decide) (by decide +kernel) (by rw [kA, show zMc 206 = 12 by decide +kernel]) hc9 n3 n4 (Nat.le_of_ble_eq_true (by simp only [Value.category, List.map, List.sum_cons, List.sum_nil]; decide +kernel)) (by rw [show zNp 206 = 5 by decide +kernel]; rfl) rfl (by simp [Value.category]) hc1 hs1 dl_486 (fun H locs hS2 => ?_)
  refine W.eq (g2 := F0 m 489 ls [.int r, .int r]) rfl ?_
  exact lv_icmp_eq (tgt := 1727) hx hb dl_489 (by decide) (fun _ => kk m2 H locs hS2 hsim2) (fun q => absurd rfl q)
set_option maxHeartbeats 4000000 in
theorem law_c7 (hx : p.tables.exec = Jvm.exec) (hb : c.code = code) (hml : c.maxLocals = 4) (hown : s.vm.findClass R_law = some m.cls) (hw : ∀ w ∈ zTw, w.before #[Value.ref b] s = true) (hT : zTab G s) (hX : zStr G s) (hG : G.1 = s.heap.size) (hscr : va_X b L xs s s.heap) (hbl : b < s.heap.size) (hL : L ≤ 3072) {A cells slots i : Nat} {Sim : zMem → Prop} {mm : zMem} {H : Heap} {locs : List Loc} {ls : Array Slot} (hc1 : cells ≤ room_1.cells) (hs1 : slots ≤ room_1.slots) (hS : zSt G s.heap mm H locs) (hsim : Sim mm) (hl : lv_has ls 4 [(0, .ref b), (1, .ref (G.1 + 0)), (2, .ref (G.1 + A)), (3, .int (nI i))]) (hi : i + 6 ≤ L) (hok : ∀ (y0 : Int32) (y1 : Int32) (y2 : Int32) (y3 : Int32) (y4 : Int32), zOkI Sim A 43 207 [.int y0, .int y1, .int y2, .int y3, .int y4]) (kk : ∀ (m2 : zMem) (H2 : Heap) (locs2 : List Loc), zSt G s.heap m2 H2 locs2 → Sim m2 → W p l e room_1 s m #[Value.ref b] below meth c H2 locs2 cells slots Q (F0 m 1727 ls [])) : W p l e room_1 s m #[Value.ref b] below meth c H locs cells slots Q (F0 m 494 ls []) := by
  have hbA : ¬ (fun q : Nat => s.heap.size ≤ q) b := Nat.not_le.mpr hbl
  refine lv_aload_n hx hb dl_494 rfl (lv_at hl 1 rfl) ?_
  refine lv_aload_n hx hb dl_495 rfl (lv_at hl 0 rfl) ?_
  refine lv_iload_n hx hb dl_496 rfl (lv_at hl 3 rfl) ?_
  refine lv_iconst (v := 1) hx hb dl_497 (by decide) ?_
  refine lv_iadd hx hb dl_498 ?_
  refine va_sld hx hb hscr hbl hbA (zlaw_S hG hS) (i := nI i + 1) (by rw [show nI i + 1 = nI (i + 1) from nI_add i 1]; exact vp_in_nI (by omega) (by omega)) dl_499 ?_
  refine lv_aload_n hx hb dl_500 rfl (lv_at hl 0 rfl) ?_
  refine lv_iload_n hx hb dl_501 rfl (lv_at hl 3 rfl) ?_
  refine lv_iconst (v := 2) hx hb dl_502 (by decide) ?_
  refine lv_iadd hx hb dl_503 ?_
  refine va_sld hx hb hscr hbl hbA (zlaw_S hG hS) (i := nI i + 2) (by rw [show nI i + 2 = nI (i + 2) from nI_add i 2]; exact vp_in_nI (by omega) (by omega)) dl_504 ?_
  refine lv_aload_n hx hb dl_505 rfl (lv_at hl 0 rfl) ?_
  refine lv_iload_n hx hb dl_506 rfl (lv_at hl 3 rfl) ?_
  refine lv_iconst (v := 3) hx hb dl_507 (by decide) ?_
  refine lv_iadd hx hb dl_508 ?_
  refine va_sld hx hb hscr hbl hbA (zlaw_S hG hS) (i := nI i + 3) (by rw [show nI i + 3 = nI (i + 3) from nI_add i 3]; exact vp_in_nI (by omega) (by omega)) dl_509 ?_
  refine lv_aload_n hx hb dl_510 rfl (lv_at hl 0 rfl) ?_
  refine lv_iload_n hx hb dl_511 rfl (lv_at hl 3 rfl) ?_
  refine lv_iconst (v := 4) hx hb dl_512 (by decide) ?_
  refine lv_iadd hx hb dl_513 ?_
  refine va_sld hx hb hscr hbl hbA (zlaw_S hG hS) (i := nI i + 4) (by rw [show nI i + 4 = nI (i + 4) from nI_add i 4]; exact vp_in_nI (by omega) (by omega)) dl_514 ?_
  refine lv_aload_n hx hb dl_515 rfl (lv_at hl 0 rfl) ?_
  refine lv_iload_n hx hb dl_516 rfl (lv_at hl 3 rfl) ?_
  refine lv_iconst (v := 5) hx hb dl_517 (by decide) ?_
  refine lv_iadd hx hb dl_518 ?_
  refine va_sld hx hb hscr hbl hbA (zlaw_S hG hS) (i := nI i + 5) (by rw [show nI i + 5 = nI (i + 5) from nI_add i 5]; exact vp_in_nI (by omega) (by omega)) dl_519 ?_
  obtain ⟨r, m1, m2, hc0, hc9, ⟨n1, n2, n3, n4⟩, k0, kA, hsim2⟩ := hok (xs (nI i + 1).toNatClampNeg) (xs (nI i + 2).toNatClampNeg) (xs (nI i + 3).toNatClampNeg) (xs (nI i + 4).toNatClampNeg) (xs (nI i + 5).toNatClampNeg) mm hsim
  refine zlaw_call (z := 43) (a := 0) (as := [.int (xs (nI i + 1).toNatClampNeg), .int (xs (nI i + 2).toNatClampNeg), .int (xs (nI i + 3).toNatClampNeg), .int (xs (nI i + 4).toNatClampNeg), .int (xs (nI i + 5).toNatClampNeg)]) (rest := []) hx hb hml hown hw hT hX hS hl.1 (by decide) (by decide +kernel) (by rw [k0, show zMc 43 = 11 by decide +kernel]) hc0 n1 n2 (Nat.le_of_ble_eq_true (by simp only [Value.category, List.map, List.sum_cons, List.sum_nil]; decide +kernel)) (by rw [show zNp 43 = 5 by decide +kernel]; rfl) rfl (by decide) hc1 hs1 dl_520 (fun H locs hS1 => ?_)
  refine W.eq (g2 := F0 m 523 ls [.int r]) rfl ?_
  refine lv_aload_n hx hb dl_523 rfl (lv_at hl 2 rfl) ?_
  refine lv_aload_n hx hb dl_524 rfl (lv_at hl 0 rfl) ?_
  refine lv_iload_n hx hb dl_525 rfl (lv_at hl 3 rfl) ?_
  refine lv_iconst (v := 1) hx hb dl_526 (by decide) ?_
  refine lv_iadd hx hb dl_527 ?_
  refine va_sld hx hb hscr hbl hbA (zlaw_S hG hS1) (i := nI i + 1) (by rw [show nI i + 1 = nI (i + 1) from nI_add i 1]; exact vp_in_nI (by omega) (by omega)) dl_528 ?_
  refine lv_aload_n hx hb dl_529 rfl (lv_at hl 0 rfl) ?_
  refine lv_iload_n hx hb dl_530 rfl (lv_at hl 3 rfl) ?_
  refine lv_iconst (v := 2) hx hb dl_531 (by decide) ?_
  refine lv_iadd hx hb dl_532 ?_
  refine va_sld hx hb hscr hbl hbA (zlaw_S hG hS1) (i := nI i + 2) (by rw [show nI i + 2 = nI (i + 2) from nI_add i 2]; exact vp_in_nI (by omega) (by omega)) dl_533 ?_
  refine lv_aload_n hx hb dl_534 rfl (lv_at hl 0 rfl) ?_
  refine lv_iload_n hx hb dl_535 rfl (lv_at hl 3 rfl) ?_
  refine lv_iconst (v := 3) hx hb dl_536 (by decide) ?_
  refine lv_iadd hx hb dl_537 ?_
  refine va_sld hx hb hscr hbl hbA (zlaw_S hG hS1) (i := nI i + 3) (by rw [show nI i + 3 = nI (i + 3) from nI_add i 3]; exact vp_in_nI (by omega) (by omega)) dl_538 ?_
  refine lv_aload_n hx hb dl_539 rfl (lv_at hl 0 rfl) ?_
  refine lv_iload_n hx hb dl_540 rfl (lv_at hl 3 rfl) ?_
  refine lv_iconst (v := 4) hx hb dl_541 (by decide) ?_
  refine lv_iadd hx hb dl_542 ?_
  refine va_sld hx hb hscr hbl hbA (zlaw_S hG hS1) (i := nI i + 4) (by rw [show nI i + 4 = nI (i + 4) from nI_add i 4]; exact vp_in_nI (by omega) (by omega)) dl_543 ?_
  refine lv_aload_n hx hb dl_544 rfl (lv_at hl 0 rfl) ?_
  refine lv_iload_n hx hb dl_545 rfl (lv_at hl 3 rfl) ?_
  refine lv_iconst (v := 5) hx hb dl_546 (by decide) ?_
  refine lv_iadd hx hb dl_547 ?_
  refine va_sld hx hb hscr hbl hbA (zlaw_S hG hS1) (i := nI i + 5) (by rw [show nI i + 5 = nI (i + 5) from nI_add i 5]; exact vp_in_nI (by omega) (by omega)) dl_548 ?_
  refine zlaw_call (z := 207) (a := A) (as := [.int (xs (nI i + 1).toNatClampNeg), .int (xs (nI i + 2).toNatClampNeg), .int (xs (nI i + 3).toNatClampNeg), .int (xs (nI i + 4).toNatClampNeg), .int (xs (nI i + 5).toNatClampNeg)]) (rest := [.int r]) hx hb hml hown hw hT hX hS1 hl.1 (by decide) (by decide +kernel) (by rw [kA, show zMc 207 = 12 by decide +kernel]) hc9 n3 n4 (Nat.le_of_ble_eq_true (by simp only [Value.category, List.map, List.sum_cons, List.sum_nil]; decide +kernel)) (by rw [show zNp 207 = 5 by decide +kernel]; rfl) rfl (by simp [Value.category]) hc1 hs1 dl_549 (fun H locs hS2 => ?_)
  refine W.eq (g2 := F0 m 552 ls [.int r, .int r]) rfl ?_
  exact lv_icmp_eq (tgt := 1727) hx hb dl_552 (by decide) (fun _ => kk m2 H locs hS2 hsim2) (fun q => absurd rfl q)
set_option maxHeartbeats 4000000 in
theorem law_c8 (hx : p.tables.exec = Jvm.exec) (hb : c.code = code) (hml : c.maxLocals = 4) (hown : s.vm.findClass R_law = some m.cls) (hw : ∀ w ∈ zTw, w.before #[Value.ref b] s = true) (hT : zTab G s) (hX : zStr G s) (hG : G.1 = s.heap.size) (hscr : va_X b L xs s s.heap) (hbl : b < s.heap.size) (hL : L ≤ 3072) {A cells slots i : Nat} {Sim : zMem → Prop} {mm : zMem} {H : Heap} {locs : List Loc} {ls : Array Slot} (hc1 : cells ≤ room_1.cells) (hs1 : slots ≤ room_1.slots) (hS : zSt G s.heap mm H locs) (hsim : Sim mm) (hl : lv_has ls 4 [(0, .ref b), (1, .ref (G.1 + 0)), (2, .ref (G.1 + A)), (3, .int (nI i))]) (hi : i + 6 ≤ L) (hok : ∀ (y0 : Int32), zOkI Sim A 45 210 [.int y0]) (kk : ∀ (m2 : zMem) (H2 : Heap) (locs2 : List Loc), zSt G s.heap m2 H2 locs2 → Sim m2 → W p l e room_1 s m #[Value.ref b] below meth c H2 locs2 cells slots Q (F0 m 1727 ls [])) : W p l e room_1 s m #[Value.ref b] below meth c H locs cells slots Q (F0 m 557 ls []) := by
  have hbA : ¬ (fun q : Nat => s.heap.size ≤ q) b := Nat.not_le.mpr hbl
  refine lv_aload_n hx hb dl_557 rfl (lv_at hl 1 rfl) ?_
  refine lv_aload_n hx hb dl_558 rfl (lv_at hl 0 rfl) ?_
  refine lv_iload_n hx hb dl_559 rfl (lv_at hl 3 rfl) ?_
  refine lv_iconst (v := 1) hx hb dl_560 (by decide) ?_
  refine lv_iadd hx hb dl_561 ?_
  refine va_sld hx hb hscr hbl hbA (zlaw_S hG hS) (i := nI i + 1) (by rw [show nI i + 1 = nI (i + 1) from nI_add i 1]; exact vp_in_nI (by omega) (by omega)) dl_562 ?_
  obtain ⟨r, m1, m2, hc0, hc9, ⟨n1, n2, n3, n4⟩, k0, kA, hsim2⟩ := hok (xs (nI i + 1).toNatClampNeg) mm hsim
  refine zlaw_call (z := 45) (a := 0) (as := [.int (xs (nI i + 1).toNatClampNeg)]) (rest := []) hx hb hml hown hw hT hX hS hl.1 (by decide) (by decide +kernel) (by rw [k0, show zMc 45 = 11 by decide +kernel]) hc0 n1 n2 (Nat.le_of_ble_eq_true (by simp only [Value.category, List.map, List.sum_cons, List.sum_nil]; decide +kernel)) (by rw [show zNp 45 = 1 by decide +kernel]; rfl) rfl (by decide) hc1 hs1 dl_563 (fun H locs hS1 => ?_)
  refine W.eq (g2 := F0 m 566 ls [.int r]) rfl ?_
  refine lv_aload_n hx hb dl_566 rfl (lv_at hl 2 rfl) ?_
  refine lv_aload_n hx hb dl_567 rfl (lv_at hl 0 rfl) ?_
  refine lv_iload_n hx hb dl_568 rfl (lv_at hl 3 rfl) ?_
  refine lv_iconst (v := 1) hx hb dl_569 (by decide) ?_
  refine lv_iadd hx hb dl_570 ?_
  refine va_sld hx hb hscr hbl hbA (zlaw_S hG hS1) (i := nI i + 1) (by rw [show nI i + 1 = nI (i + 1) from nI_add i 1]; exact vp_in_nI (by omega) (by omega)) dl_571 ?_
  refine zlaw_call (z := 210) (a := A) (as := [.int (xs (nI i + 1).toNatClampNeg)]) (rest := [.int r]) hx hb hml hown hw hT hX hS1 hl.1 (by decide) (by decide +kernel) (by rw [kA, show zMc 210 = 12 by decide +kernel]) hc9 n3 n4 (Nat.le_of_ble_eq_true (by simp only [Value.category, List.map, List.sum_cons, List.sum_nil]; decide +kernel)) (by rw [show zNp 210 = 1 by decide +kernel]; rfl) rfl (by simp [Value.category]) hc1 hs1 dl_572 (fun H locs hS2 => ?_)
  refine W.eq (g2 := F0 m 575 ls [.int r, .int r]) rfl ?_
  exact lv_icmp_eq (tgt := 1727) hx hb dl_575 (by decide) (fun _ => kk m2 H locs hS2 hsim2) (fun q => absurd rfl q)
set_option maxHeartbeats 4000000 in
theorem law_c9 (hx : p.tables.exec = Jvm.exec) (hb : c.code = code) (hml : c.maxLocals = 4) (hown : s.vm.findClass R_law = some m.cls) (hw : ∀ w ∈ zTw, w.before #[Value.ref b] s = true) (hT : zTab G s) (hX : zStr G s) (hG : G.1 = s.heap.size) (hscr : va_X b L xs s s.heap) (hbl : b < s.heap.size) (hL : L ≤ 3072) {A cells slots i : Nat} {Sim : zMem → Prop} {mm : zMem} {H : Heap} {locs : List Loc} {ls : Array Slot} (hc1 : cells ≤ room_1.cells) (hs1 : slots ≤ room_1.slots) (hS : zSt G s.heap mm H locs) (hsim : Sim mm) (hl : lv_has ls 4 [(0, .ref b), (1, .ref (G.1 + 0)), (2, .ref (G.1 + A)), (3, .int (nI i))]) (hi : i + 6 ≤ L) (hok : ∀ (y0 : Int32), zOkI Sim A 87 258 [.int y0]) (kk : ∀ (m2 : zMem) (H2 : Heap) (locs2 : List Loc), zSt G s.heap m2 H2 locs2 → Sim m2 → W p l e room_1 s m #[Value.ref b] below meth c H2 locs2 cells slots Q (F0 m 1727 ls [])) : W p l e room_1 s m #[Value.ref b] below meth c H locs cells slots Q (F0 m 580 ls []) := by
  have hbA : ¬ (fun q : Nat => s.heap.size ≤ q) b := Nat.not_le.mpr hbl
  refine lv_aload_n hx hb dl_580 rfl (lv_at hl 1 rfl) ?_
  refine lv_aload_n hx hb dl_581 rfl (lv_at hl 0 rfl) ?_
  refine lv_iload_n hx hb dl_582 rfl (lv_at hl 3 rfl) ?_
  refine lv_iconst (v := 1) hx hb dl_583 (by decide) ?_
  refine lv_iadd hx hb dl_584 ?_
  refine va_sld hx hb hscr hbl hbA (zlaw_S hG hS) (i := nI i + 1) (by rw [show nI i + 1 = nI (i + 1) from nI_add i 1]; exact vp_in_nI (by omega) (by omega)) dl_585 ?_
  obtain ⟨r, m1, m2, hc0, hc9, ⟨n1, n2, n3, n4⟩, k0, kA, hsim2⟩ := hok (xs (nI i + 1).toNatClampNeg) mm hsim
  refine zlaw_call (z := 87) (a := 0) (as := [.int (xs (nI i + 1).toNatClampNeg)]) (rest := []) hx hb hml hown hw hT hX hS hl.1 (by decide) (by decide +kernel) (by rw [k0, show zMc 87 = 11 by decide +kernel]) hc0 n1 n2 (Nat.le_of_ble_eq_true (by simp only [Value.category, List.map, List.sum_cons, List.sum_nil]; decide +kernel)) (by rw [show zNp 87 = 1 by decide +kernel]; rfl) rfl (by decide) hc1 hs1 dl_586 (fun H locs hS1 => ?_)
  refine W.eq (g2 := F0 m 589 ls [.int r]) rfl ?_
  refine lv_aload_n hx hb dl_589 rfl (lv_at hl 2 rfl) ?_
  refine lv_aload_n hx hb dl_590 rfl (lv_at hl 0 rfl) ?_
  refine lv_iload_n hx hb dl_591 rfl (lv_at hl 3 rfl) ?_
  refine lv_iconst (v := 1) hx hb dl_592 (by decide) ?_
  refine lv_iadd hx hb dl_593 ?_
  refine va_sld hx hb hscr hbl hbA (zlaw_S hG hS1) (i := nI i + 1) (by rw [show nI i + 1 = nI (i + 1) from nI_add i 1]; exact vp_in_nI (by omega) (by omega)) dl_594 ?_
  refine zlaw_call (z := 258) (a := A) (as := [.int (xs (nI i + 1).toNatClampNeg)]) (rest := [.int r]) hx hb hml hown hw hT hX hS1 hl.1 (by decide) (by decide +kernel) (by rw [kA, show zMc 258 = 12 by decide +kernel]) hc9 n3 n4 (Nat.le_of_ble_eq_true (by simp only [Value.category, List.map, List.sum_cons, List.sum_nil]; decide +kernel)) (by rw [show zNp 258 = 1 by decide +kernel]; rfl) rfl (by simp [Value.category]) hc1 hs1 dl_595 (fun H locs hS2 => ?_)
  refine W.eq (g2 := F0 m 598 ls [.int r, .int r]) rfl ?_
  exact lv_icmp_eq (tgt := 1727) hx hb dl_598 (by decide) (fun _ => kk m2 H locs hS2 hsim2) (fun q => absurd rfl q)
set_option maxHeartbeats 4000000 in
theorem law_c10 (hx : p.tables.exec = Jvm.exec) (hb : c.code = code) (hml : c.maxLocals = 4) (hown : s.vm.findClass R_law = some m.cls) (hw : ∀ w ∈ zTw, w.before #[Value.ref b] s = true) (hT : zTab G s) (hX : zStr G s) (hG : G.1 = s.heap.size) (hscr : va_X b L xs s s.heap) (hbl : b < s.heap.size) (hL : L ≤ 3072) {A cells slots i : Nat} {Sim : zMem → Prop} {mm : zMem} {H : Heap} {locs : List Loc} {ls : Array Slot} (hc1 : cells ≤ room_1.cells) (hs1 : slots ≤ room_1.slots) (hS : zSt G s.heap mm H locs) (hsim : Sim mm) (hl : lv_has ls 4 [(0, .ref b), (1, .ref (G.1 + 0)), (2, .ref (G.1 + A)), (3, .int (nI i))]) (hi : i + 6 ≤ L) (hok : ∀ (y0 : Int32), zOkI Sim A 95 209 [.int y0]) (kk : ∀ (m2 : zMem) (H2 : Heap) (locs2 : List Loc), zSt G s.heap m2 H2 locs2 → Sim m2 → W p l e room_1 s m #[Value.ref b] below meth c H2 locs2 cells slots Q (F0 m 1727 ls [])) : W p l e room_1 s m #[Value.ref b] below meth c H locs cells slots Q (F0 m 603 ls []) := by
  have hbA : ¬ (fun q : Nat => s.heap.size ≤ q) b := Nat.not_le.mpr hbl
  refine lv_aload_n hx hb dl_603 rfl (lv_at hl 1 rfl) ?_
  refine lv_aload_n hx hb dl_604 rfl (lv_at hl 0 rfl) ?_
  refine lv_iload_n hx hb dl_605 rfl (lv_at hl 3 rfl) ?_
  refine lv_iconst (v := 1) hx hb dl_606 (by decide) ?_
  refine lv_iadd hx hb dl_607 ?_
  refine va_sld hx hb hscr hbl hbA (zlaw_S hG hS) (i := nI i + 1) (by rw [show nI i + 1 = nI (i + 1) from nI_add i 1]; exact vp_in_nI (by omega) (by omega)) dl_608 ?_
  obtain ⟨r, m1, m2, hc0, hc9, ⟨n1, n2, n3, n4⟩, k0, kA, hsim2⟩ := hok (xs (nI i + 1).toNatClampNeg) mm hsim
  refine zlaw_call (z := 95) (a := 0) (as := [.int (xs (nI i + 1).toNatClampNeg)]) (rest := []) hx hb hml hown hw hT hX hS hl.1 (by decide) (by decide +kernel) (by rw [k0, show zMc 95 = 11 by decide +kernel]) hc0 n1 n2 (Nat.le_of_ble_eq_true (by simp only [Value.category, List.map, List.sum_cons, List.sum_nil]; decide +kernel)) (by rw [show zNp 95 = 1 by decide +kernel]; rfl) rfl (by decide) hc1 hs1 dl_609 (fun H locs hS1 => ?_)
  refine W.eq (g2 := F0 m 612 ls [.int r]) rfl ?_
  refine lv_aload_n hx hb dl_612 rfl (lv_at hl 2 rfl) ?_
  refine lv_aload_n hx hb dl_613 rfl (lv_at hl 0 rfl) ?_
  refine lv_iload_n hx hb dl_614 rfl (lv_at hl 3 rfl) ?_
  refine lv_iconst (v := 1) hx hb dl_615 (by decide) ?_
  refine lv_iadd hx hb dl_616 ?_
  refine va_sld hx hb hscr hbl hbA (zlaw_S hG hS1) (i := nI i + 1) (by rw [show nI i + 1 = nI (i + 1) from nI_add i 1]; exact vp_in_nI (by omega) (by omega)) dl_617 ?_
  refine zlaw_call (z := 209) (a := A) (as := [.int (xs (nI i + 1).toNatClampNeg)]) (rest := [.int r]) hx hb hml hown hw hT hX hS1 hl.1 (by decide) (by decide +kernel) (by rw [kA, show zMc 209 = 12 by decide +kernel]) hc9 n3 n4 (Nat.le_of_ble_eq_true (by simp only [Value.category, List.map, List.sum_cons, List.sum_nil]; decide +kernel)) (by rw [show zNp 209 = 1 by decide +kernel]; rfl) rfl (by simp [Value.category]) hc1 hs1 dl_618 (fun H locs hS2 => ?_)
  refine W.eq (g2 := F0 m 621 ls [.int r, .int r]) rfl ?_
  exact lv_icmp_eq (tgt := 1727) hx hb dl_621 (by decide) (fun _ => kk m2 H locs hS2 hsim2) (fun q => absurd rfl q)
set_option maxHeartbeats 4000000 in
theorem law_c11 (hx : p.tables.exec = Jvm.exec) (hb : c.code = code) (hml : c.maxLocals = 4) (hown : s.vm.findClass R_law = some m.cls) (hw : ∀ w ∈ zTw, w.before #[Value.ref b] s = true) (hT : zTab G s) (hX : zStr G s) (hG : G.1 = s.heap.size) (hscr : va_X b L xs s s.heap) (hbl : b < s.heap.size) (hL : L ≤ 3072) {A cells slots i : Nat} {Sim : zMem → Prop} {mm : zMem} {H : Heap} {locs : List Loc} {ls : Array Slot} (hc1 : cells ≤ room_1.cells) (hs1 : slots ≤ room_1.slots) (hS : zSt G s.heap mm H locs) (hsim : Sim mm) (hl : lv_has ls 4 [(0, .ref b), (1, .ref (G.1 + 0)), (2, .ref (G.1 + A)), (3, .int (nI i))]) (hi : i + 6 ≤ L) (hok : ∀ (y0 : Int32), zOkI Sim A 96 262 [.int y0]) (kk : ∀ (m2 : zMem) (H2 : Heap) (locs2 : List Loc), zSt G s.heap m2 H2 locs2 → Sim m2 → W p l e room_1 s m #[Value.ref b] below meth c H2 locs2 cells slots Q (F0 m 1727 ls [])) : W p l e room_1 s m #[Value.ref b] below meth c H locs cells slots Q (F0 m 626 ls []) := by
  have hbA : ¬ (fun q : Nat => s.heap.size ≤ q) b := Nat.not_le.mpr hbl
  refine lv_aload_n hx hb dl_626 rfl (lv_at hl 1 rfl) ?_
  refine lv_aload_n hx hb dl_627 rfl (lv_at hl 0 rfl) ?_
  refine lv_iload_n hx hb dl_628 rfl (lv_at hl 3 rfl) ?_
  refine lv_iconst (v := 1) hx hb dl_629 (by decide) ?_
  refine lv_iadd hx hb dl_630 ?_
  refine va_sld hx hb hscr hbl hbA (zlaw_S hG hS) (i := nI i + 1) (by rw [show nI i + 1 = nI (i + 1) from nI_add i 1]; exact vp_in_nI (by omega) (by omega)) dl_631 ?_
  obtain ⟨r, m1, m2, hc0, hc9, ⟨n1, n2, n3, n4⟩, k0, kA, hsim2⟩ := hok (xs (nI i + 1).toNatClampNeg) mm hsim
  refine zlaw_call (z := 96) (a := 0) (as := [.int (xs (nI i + 1).toNatClampNeg)]) (rest := []) hx hb hml hown hw hT hX hS hl.1 (by decide) (by decide +kernel) (by rw [k0, show zMc 96 = 11 by decide +kernel]) hc0 n1 n2 (Nat.le_of_ble_eq_true (by simp only [Value.category, List.map, List.sum_cons, List.sum_nil]; decide +kernel)) (by rw [show zNp 96 = 1 by decide +kernel]; rfl) rfl (by decide) hc1 hs1 dl_632 (fun H locs hS1 => ?_)
  refine W.eq (g2 := F0 m 635 ls [.int r]) rfl ?_
  refine lv_aload_n hx hb dl_635 rfl (lv_at hl 2 rfl) ?_
  refine lv_aload_n hx hb dl_636 rfl (lv_at hl 0 rfl) ?_
  refine lv_iload_n hx hb dl_637 rfl (lv_at hl 3 rfl) ?_
  refine lv_iconst (v := 1) hx hb dl_638 (by decide) ?_
  refine lv_iadd hx hb dl_639 ?_
  refine va_sld hx hb hscr hbl hbA (zlaw_S hG hS1) (i := nI i + 1) (by rw [show nI i + 1 = nI (i + 1) from nI_add i 1]; exact vp_in_nI (by omega) (by omega)) dl_640 ?_
  refine zlaw_call (z := 262) (a := A) (as := [.int (xs (nI i + 1).toNatClampNeg)]) (rest := [.int r]) hx hb hml hown hw hT hX hS1 hl.1 (by decide) (by decide +kernel) (by rw [kA, show zMc 262 = 12 by decide +kernel]) hc9 n3 n4 (Nat.le_of_ble_eq_true (by simp only [Value.category, List.map, List.sum_cons, List.sum_nil]; decide +kernel)) (by rw [show zNp 262 = 1 by decide +kernel]; rfl) rfl (by simp [Value.category]) hc1 hs1 dl_641 (fun H locs hS2 => ?_)
  refine W.eq (g2 := F0 m 644 ls [.int r, .int r]) rfl ?_
  exact lv_icmp_eq (tgt := 1727) hx hb dl_644 (by decide) (fun _ => kk m2 H locs hS2 hsim2) (fun q => absurd rfl q)
set_option maxHeartbeats 4000000 in
theorem law_c12 (hx : p.tables.exec = Jvm.exec) (hb : c.code = code) (hml : c.maxLocals = 4) (hown : s.vm.findClass R_law = some m.cls) (hw : ∀ w ∈ zTw, w.before #[Value.ref b] s = true) (hT : zTab G s) (hX : zStr G s) (hG : G.1 = s.heap.size) (hscr : va_X b L xs s s.heap) (hbl : b < s.heap.size) (hL : L ≤ 3072) {A cells slots i : Nat} {Sim : zMem → Prop} {mm : zMem} {H : Heap} {locs : List Loc} {ls : Array Slot} (hc1 : cells ≤ room_1.cells) (hs1 : slots ≤ room_1.slots) (hS : zSt G s.heap mm H locs) (hsim : Sim mm) (hl : lv_has ls 4 [(0, .ref b), (1, .ref (G.1 + 0)), (2, .ref (G.1 + A)), (3, .int (nI i))]) (hi : i + 6 ≤ L) (hok : ∀ (y0 : Int32) (y1 : Int32), zOkI Sim A 105 273 [.int y0, .int y1]) (kk : ∀ (m2 : zMem) (H2 : Heap) (locs2 : List Loc), zSt G s.heap m2 H2 locs2 → Sim m2 → W p l e room_1 s m #[Value.ref b] below meth c H2 locs2 cells slots Q (F0 m 1727 ls [])) : W p l e room_1 s m #[Value.ref b] below meth c H locs cells slots Q (F0 m 649 ls []) := by
  have hbA : ¬ (fun q : Nat => s.heap.size ≤ q) b := Nat.not_le.mpr hbl
  refine lv_aload_n hx hb dl_649 rfl (lv_at hl 1 rfl) ?_
  refine lv_aload_n hx hb dl_650 rfl (lv_at hl 0 rfl) ?_
  refine lv_iload_n hx hb dl_651 rfl (lv_at hl 3 rfl) ?_
  refine lv_iconst (v := 1) hx hb dl_652 (by decide) ?_
  refine lv_iadd hx hb dl_653 ?_
  refine va_sld hx hb hscr hbl hbA (zlaw_S hG hS) (i := nI i + 1) (by rw [show nI i + 1 = nI (i + 1) from nI_add i 1]; exact vp_in_nI (by omega) (by omega)) dl_654 ?_
  refine lv_aload_n hx hb dl_655 rfl (lv_at hl 0 rfl) ?_
  refine lv_iload_n hx hb dl_656 rfl (lv_at hl 3 rfl) ?_
  refine lv_iconst (v := 2) hx hb dl_657 (by decide) ?_
  refine lv_iadd hx hb dl_658 ?_
  refine va_sld hx hb hscr hbl hbA (zlaw_S hG hS) (i := nI i + 2) (by rw [show nI i + 2 = nI (i + 2) from nI_add i 2]; exact vp_in_nI (by omega) (by omega)) dl_659 ?_
  obtain ⟨r, m1, m2, hc0, hc9, ⟨n1, n2, n3, n4⟩, k0, kA, hsim2⟩ := hok (xs (nI i + 1).toNatClampNeg) (xs (nI i + 2).toNatClampNeg) mm hsim
  refine zlaw_call (z := 105) (a := 0) (as := [.int (xs (nI i + 1).toNatClampNeg), .int (xs (nI i + 2).toNatClampNeg)]) (rest := []) hx hb hml hown hw hT hX hS hl.1 (by decide) (by decide +kernel) (by rw [k0, show zMc 105 = 11 by decide +kernel]) hc0 n1 n2 (Nat.le_of_ble_eq_true (by simp only [Value.category, List.map, List.sum_cons, List.sum_nil]; decide +kernel)) (by rw [show zNp 105 = 2 by decide +kernel]; rfl) rfl (by decide) hc1 hs1 dl_660 (fun H locs hS1 => ?_)
  refine W.eq (g2 := F0 m 663 ls [.int r]) rfl ?_
  refine lv_aload_n hx hb dl_663 rfl (lv_at hl 2 rfl) ?_
  refine lv_aload_n hx hb dl_664 rfl (lv_at hl 0 rfl) ?_
  refine lv_iload_n hx hb dl_665 rfl (lv_at hl 3 rfl) ?_
  refine lv_iconst (v := 1) hx hb dl_666 (by decide) ?_
  refine lv_iadd hx hb dl_667 ?_
  refine va_sld hx hb hscr hbl hbA (zlaw_S hG hS1) (i := nI i + 1) (by rw [show nI i + 1 = nI (i + 1) from nI_add i 1]; exact vp_in_nI (by omega) (by omega)) dl_668 ?_
  refine lv_aload_n hx hb dl_669 rfl (lv_at hl 0 rfl) ?_
  refine lv_iload_n hx hb dl_670 rfl (lv_at hl 3 rfl) ?_
  refine lv_iconst (v := 2) hx hb dl_671 (by decide) ?_
  refine lv_iadd hx hb dl_672 ?_
  refine va_sld hx hb hscr hbl hbA (zlaw_S hG hS1) (i := nI i + 2) (by rw [show nI i + 2 = nI (i + 2) from nI_add i 2]; exact vp_in_nI (by omega) (by omega)) dl_673 ?_
  refine zlaw_call (z := 273) (a := A) (as := [.int (xs (nI i + 1).toNatClampNeg), .int (xs (nI i + 2).toNatClampNeg)]) (rest := [.int r]) hx hb hml hown hw hT hX hS1 hl.1 (by decide) (by decide +kernel) (by rw [kA, show zMc 273 = 12 by decide +kernel]) hc9 n3 n4 (Nat.le_of_ble_eq_true (by simp only [Value.category, List.map, List.sum_cons, List.sum_nil]; decide +kernel)) (by rw [show zNp 273 = 2 by decide +kernel]; rfl) rfl (by simp [Value.category]) hc1 hs1 dl_674 (fun H locs hS2 => ?_)
  refine W.eq (g2 := F0 m 677 ls [.int r, .int r]) rfl ?_
  exact lv_icmp_eq (tgt := 1727) hx hb dl_677 (by decide) (fun _ => kk m2 H locs hS2 hsim2) (fun q => absurd rfl q)
set_option maxHeartbeats 4000000 in
theorem law_c13 (hx : p.tables.exec = Jvm.exec) (hb : c.code = code) (hml : c.maxLocals = 4) (hown : s.vm.findClass R_law = some m.cls) (hw : ∀ w ∈ zTw, w.before #[Value.ref b] s = true) (hT : zTab G s) (hX : zStr G s) (hG : G.1 = s.heap.size) (hscr : va_X b L xs s s.heap) (hbl : b < s.heap.size) (hL : L ≤ 3072) {A cells slots i : Nat} {Sim : zMem → Prop} {mm : zMem} {H : Heap} {locs : List Loc} {ls : Array Slot} (hc1 : cells ≤ room_1.cells) (hs1 : slots ≤ room_1.slots) (hS : zSt G s.heap mm H locs) (hsim : Sim mm) (hl : lv_has ls 4 [(0, .ref b), (1, .ref (G.1 + 0)), (2, .ref (G.1 + A)), (3, .int (nI i))]) (hi : i + 6 ≤ L) (hok : ∀ (y0 : Int32) (y1 : Int32), zOkI Sim A 110 278 [.int y0, .int y1]) (kk : ∀ (m2 : zMem) (H2 : Heap) (locs2 : List Loc), zSt G s.heap m2 H2 locs2 → Sim m2 → W p l e room_1 s m #[Value.ref b] below meth c H2 locs2 cells slots Q (F0 m 1727 ls [])) : W p l e room_1 s m #[Value.ref b] below meth c H locs cells slots Q (F0 m 682 ls []) := by
  have hbA : ¬ (fun q : Nat => s.heap.size ≤ q) b := Nat.not_le.mpr hbl
  refine lv_aload_n hx hb dl_682 rfl (lv_at hl 1 rfl) ?_
  refine lv_aload_n hx hb dl_683 rfl (lv_at hl 0 rfl) ?_
  refine lv_iload_n hx hb dl_684 rfl (lv_at hl 3 rfl) ?_
  refine lv_iconst (v := 1) hx hb dl_685 (by decide) ?_
  refine lv_iadd hx hb dl_686 ?_
  refine va_sld hx hb hscr hbl hbA (zlaw_S hG hS) (i := nI i + 1) (by rw [show nI i + 1 = nI (i + 1) from nI_add i 1]; exact vp_in_nI (by omega) (by omega)) dl_687 ?_
  refine lv_aload_n hx hb dl_688 rfl (lv_at hl 0 rfl) ?_
  refine lv_iload_n hx hb dl_689 rfl (lv_at hl 3 rfl) ?_
  refine lv_iconst (v := 2) hx hb dl_690 (by decide) ?_
  refine lv_iadd hx hb dl_691 ?_
  refine va_sld hx hb hscr hbl hbA (zlaw_S hG hS) (i := nI i + 2) (by rw [show nI i + 2 = nI (i + 2) from nI_add i 2]; exact vp_in_nI (by omega) (by omega)) dl_692 ?_
  obtain ⟨r, m1, m2, hc0, hc9, ⟨n1, n2, n3, n4⟩, k0, kA, hsim2⟩ := hok (xs (nI i + 1).toNatClampNeg) (xs (nI i + 2).toNatClampNeg) mm hsim
  refine zlaw_call (z := 110) (a := 0) (as := [.int (xs (nI i + 1).toNatClampNeg), .int (xs (nI i + 2).toNatClampNeg)]) (rest := []) hx hb hml hown hw hT hX hS hl.1 (by decide) (by decide +kernel) (by rw [k0, show zMc 110 = 11 by decide +kernel]) hc0 n1 n2 (Nat.le_of_ble_eq_true (by simp only [Value.category, List.map, List.sum_cons, List.sum_nil]; decide +kernel)) (by rw [show zNp 110 = 2 by decide +kernel]; rfl) rfl (by decide) hc1 hs1 dl_693 (fun H locs hS1 => ?_)
  refine W.eq (g2 := F0 m 696 ls [.int r]) rfl ?_
  refine lv_aload_n hx hb dl_696 rfl (lv_at hl 2 rfl) ?_
  refine lv_aload_n hx hb dl_697 rfl (lv_at hl 0 rfl) ?_
  refine lv_iload_n hx hb dl_698 rfl (lv_at hl 3 rfl) ?_
  refine lv_iconst (v := 1) hx hb dl_699 (by decide) ?_
  refine lv_iadd hx hb dl_700 ?_
  refine va_sld hx hb hscr hbl hbA (zlaw_S hG hS1) (i := nI i + 1) (by rw [show nI i + 1 = nI (i + 1) from nI_add i 1]; exact vp_in_nI (by omega) (by omega)) dl_701 ?_
  refine lv_aload_n hx hb dl_702 rfl (lv_at hl 0 rfl) ?_
  refine lv_iload_n hx hb dl_703 rfl (lv_at hl 3 rfl) ?_
  refine lv_iconst (v := 2) hx hb dl_704 (by decide) ?_
  refine lv_iadd hx hb dl_705 ?_
  refine va_sld hx hb hscr hbl hbA (zlaw_S hG hS1) (i := nI i + 2) (by rw [show nI i + 2 = nI (i + 2) from nI_add i 2]; exact vp_in_nI (by omega) (by omega)) dl_706 ?_
  refine zlaw_call (z := 278) (a := A) (as := [.int (xs (nI i + 1).toNatClampNeg), .int (xs (nI i + 2).toNatClampNeg)]) (rest := [.int r]) hx hb hml hown hw hT hX hS1 hl.1 (by decide) (by decide +kernel) (by rw [kA, show zMc 278 = 12 by decide +kernel]) hc9 n3 n4 (Nat.le_of_ble_eq_true (by simp only [Value.category, List.map, List.sum_cons, List.sum_nil]; decide +kernel)) (by rw [show zNp 278 = 2 by decide +kernel]; rfl) rfl (by simp [Value.category]) hc1 hs1 dl_707 (fun H locs hS2 => ?_)
  refine W.eq (g2 := F0 m 710 ls [.int r, .int r]) rfl ?_
  exact lv_icmp_eq (tgt := 1727) hx hb dl_710 (by decide) (fun _ => kk m2 H locs hS2 hsim2) (fun q => absurd rfl q)
set_option maxHeartbeats 4000000 in
theorem law_c14 (hx : p.tables.exec = Jvm.exec) (hb : c.code = code) (hml : c.maxLocals = 4) (hown : s.vm.findClass R_law = some m.cls) (hw : ∀ w ∈ zTw, w.before #[Value.ref b] s = true) (hT : zTab G s) (hX : zStr G s) (hG : G.1 = s.heap.size) (hscr : va_X b L xs s s.heap) (hbl : b < s.heap.size) (hL : L ≤ 3072) {A cells slots i : Nat} {Sim : zMem → Prop} {mm : zMem} {H : Heap} {locs : List Loc} {ls : Array Slot} (hc1 : cells ≤ room_1.cells) (hs1 : slots ≤ room_1.slots) (hS : zSt G s.heap mm H locs) (hsim : Sim mm) (hl : lv_has ls 4 [(0, .ref b), (1, .ref (G.1 + 0)), (2, .ref (G.1 + A)), (3, .int (nI i))]) (hi : i + 6 ≤ L) (hok : ∀ (y0 : Int32) (y1 : Int32), zOkI Sim A 113 281 [.int y0, .int y1]) (kk : ∀ (m2 : zMem) (H2 : Heap) (locs2 : List Loc), zSt G s.heap m2 H2 locs2 → Sim m2 → W p l e room_1 s m #[Value.ref b] below meth c H2 locs2 cells slots Q (F0 m 1727 ls [])) : W p l e room_1 s m #[Value.ref b] below meth c H locs cells slots Q (F0 m 715 ls []) := by
  have hbA : ¬ (fun q : Nat => s.heap.size ≤ q) b := Nat.not_le.mpr hbl
  refine lv_aload_n hx hb dl_715 rfl (lv_at hl 1 rfl) ?_
  refine lv_aload_n hx hb dl_716 rfl (lv_at hl 0 rfl) ?_
  refine lv_iload_n hx hb dl_717 rfl (lv_at hl 3 rfl) ?_
  refine lv_iconst (v := 1) hx hb dl_718 (by decide) ?_
  refine lv_iadd hx hb dl_719 ?_
  refine va_sld hx hb hscr hbl hbA (zlaw_S hG hS) (i := nI i + 1) (by rw [show nI i + 1 = nI (i + 1) from nI_add i 1]; exact vp_in_nI (by omega) (by omega)) dl_720 ?_
  refine lv_aload_n hx hb dl_721 rfl (lv_at hl 0 rfl) ?_
  refine lv_iload_n hx hb dl_722 rfl (lv_at hl 3 rfl) ?_
  refine lv_iconst (v := 2) hx hb dl_723 (by decide) ?_
  refine lv_iadd hx hb dl_724 ?_
  refine va_sld hx hb hscr hbl hbA (zlaw_S hG hS) (i := nI i + 2) (by rw [show nI i + 2 = nI (i + 2) from nI_add i 2]; exact vp_in_nI (by omega) (by omega)) dl_725 ?_
  obtain ⟨r, m1, m2, hc0, hc9, ⟨n1, n2, n3, n4⟩, k0, kA, hsim2⟩ := hok (xs (nI i + 1).toNatClampNeg) (xs (nI i + 2).toNatClampNeg) mm hsim
  refine zlaw_call (z := 113) (a := 0) (as := [.int (xs (nI i + 1).toNatClampNeg), .int (xs (nI i + 2).toNatClampNeg)]) (rest := []) hx hb hml hown hw hT hX hS hl.1 (by decide) (by decide +kernel) (by rw [k0, show zMc 113 = 11 by decide +kernel]) hc0 n1 n2 (Nat.le_of_ble_eq_true (by simp only [Value.category, List.map, List.sum_cons, List.sum_nil]; decide +kernel)) (by rw [show zNp 113 = 2 by decide +kernel]; rfl) rfl (by decide) hc1 hs1 dl_726 (fun H locs hS1 => ?_)
  refine W.eq (g2 := F0 m 729 ls [.int r]) rfl ?_
  refine lv_aload_n hx hb dl_729 rfl (lv_at hl 2 rfl) ?_
  refine lv_aload_n hx hb dl_730 rfl (lv_at hl 0 rfl) ?_
  refine lv_iload_n hx hb dl_731 rfl (lv_at hl 3 rfl) ?_
  refine lv_iconst (v := 1) hx hb dl_732 (by decide) ?_
  refine lv_iadd hx hb dl_733 ?_
  refine va_sld hx hb hscr hbl hbA (zlaw_S hG hS1) (i := nI i + 1) (by rw [show nI i + 1 = nI (i + 1) from nI_add i 1]; exact vp_in_nI (by omega) (by omega)) dl_734 ?_
  refine lv_aload_n hx hb dl_735 rfl (lv_at hl 0 rfl) ?_
  refine lv_iload_n hx hb dl_736 rfl (lv_at hl 3 rfl) ?_
  refine lv_iconst (v := 2) hx hb dl_737 (by decide) ?_
  refine lv_iadd hx hb dl_738 ?_
  refine va_sld hx hb hscr hbl hbA (zlaw_S hG hS1) (i := nI i + 2) (by rw [show nI i + 2 = nI (i + 2) from nI_add i 2]; exact vp_in_nI (by omega) (by omega)) dl_739 ?_
  refine zlaw_call (z := 281) (a := A) (as := [.int (xs (nI i + 1).toNatClampNeg), .int (xs (nI i + 2).toNatClampNeg)]) (rest := [.int r]) hx hb hml hown hw hT hX hS1 hl.1 (by decide) (by decide +kernel) (by rw [kA, show zMc 281 = 12 by decide +kernel]) hc9 n3 n4 (Nat.le_of_ble_eq_true (by simp only [Value.category, List.map, List.sum_cons, List.sum_nil]; decide +kernel)) (by rw [show zNp 281 = 2 by decide +kernel]; rfl) rfl (by simp [Value.category]) hc1 hs1 dl_740 (fun H locs hS2 => ?_)
  refine W.eq (g2 := F0 m 743 ls [.int r, .int r]) rfl ?_
  exact lv_icmp_eq (tgt := 1727) hx hb dl_743 (by decide) (fun _ => kk m2 H locs hS2 hsim2) (fun q => absurd rfl q)
set_option maxHeartbeats 4000000 in
theorem law_c15 (hx : p.tables.exec = Jvm.exec) (hb : c.code = code) (hml : c.maxLocals = 4) (hown : s.vm.findClass R_law = some m.cls) (hw : ∀ w ∈ zTw, w.before #[Value.ref b] s = true) (hT : zTab G s) (hX : zStr G s) (hG : G.1 = s.heap.size) (hscr : va_X b L xs s s.heap) (hbl : b < s.heap.size) (hL : L ≤ 3072) {A cells slots i : Nat} {Sim : zMem → Prop} {mm : zMem} {H : Heap} {locs : List Loc} {ls : Array Slot} (hc1 : cells ≤ room_1.cells) (hs1 : slots ≤ room_1.slots) (hS : zSt G s.heap mm H locs) (hsim : Sim mm) (hl : lv_has ls 4 [(0, .ref b), (1, .ref (G.1 + 0)), (2, .ref (G.1 + A)), (3, .int (nI i))]) (hi : i + 6 ≤ L) (hok : ∀ (y0 : Int32) (y1 : Int32), zOkI Sim A 115 282 [.int y0, .int y1]) (kk : ∀ (m2 : zMem) (H2 : Heap) (locs2 : List Loc), zSt G s.heap m2 H2 locs2 → Sim m2 → W p l e room_1 s m #[Value.ref b] below meth c H2 locs2 cells slots Q (F0 m 1727 ls [])) : W p l e room_1 s m #[Value.ref b] below meth c H locs cells slots Q (F0 m 748 ls []) := by
  have hbA : ¬ (fun q : Nat => s.heap.size ≤ q) b := Nat.not_le.mpr hbl
  refine lv_aload_n hx hb dl_748 rfl (lv_at hl 1 rfl) ?_
  refine lv_aload_n hx hb dl_749 rfl (lv_at hl 0 rfl) ?_
  refine lv_iload_n hx hb dl_750 rfl (lv_at hl 3 rfl) ?_
  refine lv_iconst (v := 1) hx hb dl_751 (by decide) ?_
  refine lv_iadd hx hb dl_752 ?_
  refine va_sld hx hb hscr hbl hbA (zlaw_S hG hS) (i := nI i + 1) (by rw [show nI i + 1 = nI (i + 1) from nI_add i 1]; exact vp_in_nI (by omega) (by omega)) dl_753 ?_
  refine lv_aload_n hx hb dl_754 rfl (lv_at hl 0 rfl) ?_
  refine lv_iload_n hx hb dl_755 rfl (lv_at hl 3 rfl) ?_
  refine lv_iconst (v := 2) hx hb dl_756 (by decide) ?_
  refine lv_iadd hx hb dl_757 ?_
  refine va_sld hx hb hscr hbl hbA (zlaw_S hG hS) (i := nI i + 2) (by rw [show nI i + 2 = nI (i + 2) from nI_add i 2]; exact vp_in_nI (by omega) (by omega)) dl_758 ?_
  obtain ⟨r, m1, m2, hc0, hc9, ⟨n1, n2, n3, n4⟩, k0, kA, hsim2⟩ := hok (xs (nI i + 1).toNatClampNeg) (xs (nI i + 2).toNatClampNeg) mm hsim
  refine zlaw_call (z := 115) (a := 0) (as := [.int (xs (nI i + 1).toNatClampNeg), .int (xs (nI i + 2).toNatClampNeg)]) (rest := []) hx hb hml hown hw hT hX hS hl.1 (by decide) (by decide +kernel) (by rw [k0, show zMc 115 = 11 by decide +kernel]) hc0 n1 n2 (Nat.le_of_ble_eq_true (by simp only [Value.category, List.map, List.sum_cons, List.sum_nil]; decide +kernel)) (by rw [show zNp 115 = 2 by decide +kernel]; rfl) rfl (by decide) hc1 hs1 dl_759 (fun H locs hS1 => ?_)
  refine W.eq (g2 := F0 m 762 ls [.int r]) rfl ?_
  refine lv_aload_n hx hb dl_762 rfl (lv_at hl 2 rfl) ?_
  refine lv_aload_n hx hb dl_763 rfl (lv_at hl 0 rfl) ?_
  refine lv_iload_n hx hb dl_764 rfl (lv_at hl 3 rfl) ?_
  refine lv_iconst (v := 1) hx hb dl_765 (by decide) ?_
  refine lv_iadd hx hb dl_766 ?_
  refine va_sld hx hb hscr hbl hbA (zlaw_S hG hS1) (i := nI i + 1) (by rw [show nI i + 1 = nI (i + 1) from nI_add i 1]; exact vp_in_nI (by omega) (by omega)) dl_767 ?_
  refine lv_aload_n hx hb dl_768 rfl (lv_at hl 0 rfl) ?_
  refine lv_iload_n hx hb dl_769 rfl (lv_at hl 3 rfl) ?_
  refine lv_iconst (v := 2) hx hb dl_770 (by decide) ?_
  refine lv_iadd hx hb dl_771 ?_
  refine va_sld hx hb hscr hbl hbA (zlaw_S hG hS1) (i := nI i + 2) (by rw [show nI i + 2 = nI (i + 2) from nI_add i 2]; exact vp_in_nI (by omega) (by omega)) dl_772 ?_
  refine zlaw_call (z := 282) (a := A) (as := [.int (xs (nI i + 1).toNatClampNeg), .int (xs (nI i + 2).toNatClampNeg)]) (rest := [.int r]) hx hb hml hown hw hT hX hS1 hl.1 (by decide) (by decide +kernel) (by rw [kA, show zMc 282 = 12 by decide +kernel]) hc9 n3 n4 (Nat.le_of_ble_eq_true (by simp only [Value.category, List.map, List.sum_cons, List.sum_nil]; decide +kernel)) (by rw [show zNp 282 = 2 by decide +kernel]; rfl) rfl (by simp [Value.category]) hc1 hs1 dl_773 (fun H locs hS2 => ?_)
  refine W.eq (g2 := F0 m 776 ls [.int r, .int r]) rfl ?_
  exact lv_icmp_eq (tgt := 1727) hx hb dl_776 (by decide) (fun _ => kk m2 H locs hS2 hsim2) (fun q => absurd rfl q)
set_option maxHeartbeats 4000000 in
theorem law_c16 (hx : p.tables.exec = Jvm.exec) (hb : c.code = code) (hml : c.maxLocals = 4) (hown : s.vm.findClass R_law = some m.cls) (hw : ∀ w ∈ zTw, w.before #[Value.ref b] s = true) (hT : zTab G s) (hX : zStr G s) (hG : G.1 = s.heap.size) (hscr : va_X b L xs s s.heap) (hbl : b < s.heap.size) (hL : L ≤ 3072) {A cells slots i : Nat} {Sim : zMem → Prop} {mm : zMem} {H : Heap} {locs : List Loc} {ls : Array Slot} (hc1 : cells ≤ room_1.cells) (hs1 : slots ≤ room_1.slots) (hS : zSt G s.heap mm H locs) (hsim : Sim mm) (hl : lv_has ls 4 [(0, .ref b), (1, .ref (G.1 + 0)), (2, .ref (G.1 + A)), (3, .int (nI i))]) (hi : i + 6 ≤ L) (hok : ∀ (y0 : Int32), zOkI Sim A 117 283 [.int y0]) (kk : ∀ (m2 : zMem) (H2 : Heap) (locs2 : List Loc), zSt G s.heap m2 H2 locs2 → Sim m2 → W p l e room_1 s m #[Value.ref b] below meth c H2 locs2 cells slots Q (F0 m 1727 ls [])) : W p l e room_1 s m #[Value.ref b] below meth c H locs cells slots Q (F0 m 781 ls []) := by
  have hbA : ¬ (fun q : Nat => s.heap.size ≤ q) b := Nat.not_le.mpr hbl
  refine lv_aload_n hx hb dl_781 rfl (lv_at hl 1 rfl) ?_
  refine lv_aload_n hx hb dl_782 rfl (lv_at hl 0 rfl) ?_
  refine lv_iload_n hx hb dl_783 rfl (lv_at hl 3 rfl) ?_
  refine lv_iconst (v := 1) hx hb dl_784 (by decide) ?_
  refine lv_iadd hx hb dl_785 ?_
  refine va_sld hx hb hscr hbl hbA (zlaw_S hG hS) (i := nI i + 1) (by rw [show nI i + 1 = nI (i + 1) from nI_add i 1]; exact vp_in_nI (by omega) (by omega)) dl_786 ?_
  obtain ⟨r, m1, m2, hc0, hc9, ⟨n1, n2, n3, n4⟩, k0, kA, hsim2⟩ := hok (xs (nI i + 1).toNatClampNeg) mm hsim
  refine zlaw_call (z := 117) (a := 0) (as := [.int (xs (nI i + 1).toNatClampNeg)]) (rest := []) hx hb hml hown hw hT hX hS hl.1 (by decide) (by decide +kernel) (by rw [k0, show zMc 117 = 11 by decide +kernel]) hc0 n1 n2 (Nat.le_of_ble_eq_true (by simp only [Value.category, List.map, List.sum_cons, List.sum_nil]; decide +kernel)) (by rw [show zNp 117 = 1 by decide +kernel]; rfl) rfl (by decide) hc1 hs1 dl_787 (fun H locs hS1 => ?_)
  refine W.eq (g2 := F0 m 790 ls [.int r]) rfl ?_
  refine lv_aload_n hx hb dl_790 rfl (lv_at hl 2 rfl) ?_
  refine lv_aload_n hx hb dl_791 rfl (lv_at hl 0 rfl) ?_
  refine lv_iload_n hx hb dl_792 rfl (lv_at hl 3 rfl) ?_
  refine lv_iconst (v := 1) hx hb dl_793 (by decide) ?_
  refine lv_iadd hx hb dl_794 ?_
  refine va_sld hx hb hscr hbl hbA (zlaw_S hG hS1) (i := nI i + 1) (by rw [show nI i + 1 = nI (i + 1) from nI_add i 1]; exact vp_in_nI (by omega) (by omega)) dl_795 ?_
  refine zlaw_call (z := 283) (a := A) (as := [.int (xs (nI i + 1).toNatClampNeg)]) (rest := [.int r]) hx hb hml hown hw hT hX hS1 hl.1 (by decide) (by decide +kernel) (by rw [kA, show zMc 283 = 12 by decide +kernel]) hc9 n3 n4 (Nat.le_of_ble_eq_true (by simp only [Value.category, List.map, List.sum_cons, List.sum_nil]; decide +kernel)) (by rw [show zNp 283 = 1 by decide +kernel]; rfl) rfl (by simp [Value.category]) hc1 hs1 dl_796 (fun H locs hS2 => ?_)
  refine W.eq (g2 := F0 m 799 ls [.int r, .int r]) rfl ?_
  exact lv_icmp_eq (tgt := 1727) hx hb dl_799 (by decide) (fun _ => kk m2 H locs hS2 hsim2) (fun q => absurd rfl q)
set_option maxHeartbeats 4000000 in
theorem law_c17 (hx : p.tables.exec = Jvm.exec) (hb : c.code = code) (hml : c.maxLocals = 4) (hown : s.vm.findClass R_law = some m.cls) (hw : ∀ w ∈ zTw, w.before #[Value.ref b] s = true) (hT : zTab G s) (hX : zStr G s) (hG : G.1 = s.heap.size) (hscr : va_X b L xs s s.heap) (hbl : b < s.heap.size) (hL : L ≤ 3072) {A cells slots i : Nat} {Sim : zMem → Prop} {mm : zMem} {H : Heap} {locs : List Loc} {ls : Array Slot} (hc1 : cells ≤ room_1.cells) (hs1 : slots ≤ room_1.slots) (hS : zSt G s.heap mm H locs) (hsim : Sim mm) (hl : lv_has ls 4 [(0, .ref b), (1, .ref (G.1 + 0)), (2, .ref (G.1 + A)), (3, .int (nI i))]) (hi : i + 6 ≤ L) (hok : ∀ (y0 : Int32) (y1 : Int32), zOkI Sim A 118 285 [.int y0, .int y1]) (kk : ∀ (m2 : zMem) (H2 : Heap) (locs2 : List Loc), zSt G s.heap m2 H2 locs2 → Sim m2 → W p l e room_1 s m #[Value.ref b] below meth c H2 locs2 cells slots Q (F0 m 1727 ls [])) : W p l e room_1 s m #[Value.ref b] below meth c H locs cells slots Q (F0 m 804 ls []) := by
  have hbA : ¬ (fun q : Nat => s.heap.size ≤ q) b := Nat.not_le.mpr hbl
  refine lv_aload_n hx hb dl_804 rfl (lv_at hl 1 rfl) ?_
  refine lv_aload_n hx hb dl_805 rfl (lv_at hl 0 rfl) ?_
  refine lv_iload_n hx hb dl_806 rfl (lv_at hl 3 rfl) ?_
  refine lv_iconst (v := 1) hx hb dl_807 (by decide) ?_
  refine lv_iadd hx hb dl_808 ?_
  refine va_sld hx hb hscr hbl hbA (zlaw_S hG hS) (i := nI i + 1) (by rw [show nI i + 1 = nI (i + 1) from nI_add i 1]; exact vp_in_nI (by omega) (by omega)) dl_809 ?_
  refine lv_aload_n hx hb dl_810 rfl (lv_at hl 0 rfl) ?_
  refine lv_iload_n hx hb dl_811 rfl (lv_at hl 3 rfl) ?_
  refine lv_iconst (v := 2) hx hb dl_812 (by decide) ?_
  refine lv_iadd hx hb dl_813 ?_
  refine va_sld hx hb hscr hbl hbA (zlaw_S hG hS) (i := nI i + 2) (by rw [show nI i + 2 = nI (i + 2) from nI_add i 2]; exact vp_in_nI (by omega) (by omega)) dl_814 ?_
  obtain ⟨r, m1, m2, hc0, hc9, ⟨n1, n2, n3, n4⟩, k0, kA, hsim2⟩ := hok (xs (nI i + 1).toNatClampNeg) (xs (nI i + 2).toNatClampNeg) mm hsim
  refine zlaw_call (z := 118) (a := 0) (as := [.int (xs (nI i + 1).toNatClampNeg), .int (xs (nI i + 2).toNatClampNeg)]) (rest := []) hx hb hml hown hw hT hX hS hl.1 (by decide) (by decide +kernel) (by rw [k0, show zMc 118 = 11 by decide +kernel]) hc0 n1 n2 (Nat.le_of_ble_eq_true (by simp only [Value.category, List.map, List.sum_cons, List.sum_nil]; decide +kernel)) (by rw [show zNp 118 = 2 by decide +kernel]; rfl) rfl (by decide) hc1 hs1 dl_815 (fun H locs hS1 => ?_)
  refine W.eq (g2 := F0 m 818 ls [.int r]) rfl ?_
  refine lv_aload_n hx hb dl_818 rfl (lv_at hl 2 rfl) ?_
  refine lv_aload_n hx hb dl_819 rfl (lv_at hl 0 rfl) ?_
  refine lv_iload_n hx hb dl_820 rfl (lv_at hl 3 rfl) ?_
  refine lv_iconst (v := 1) hx hb dl_821 (by decide) ?_
  refine lv_iadd hx hb dl_822 ?_
  refine va_sld hx hb hscr hbl hbA (zlaw_S hG hS1) (i := nI i + 1) (by rw [show nI i + 1 = nI (i + 1) from nI_add i 1]; exact vp_in_nI (by omega) (by omega)) dl_823 ?_
  refine lv_aload_n hx hb dl_824 rfl (lv_at hl 0 rfl) ?_
  refine lv_iload_n hx hb dl_825 rfl (lv_at hl 3 rfl) ?_
  refine lv_iconst (v := 2) hx hb dl_826 (by decide) ?_
  refine lv_iadd hx hb dl_827 ?_
  refine va_sld hx hb hscr hbl hbA (zlaw_S hG hS1) (i := nI i + 2) (by rw [show nI i + 2 = nI (i + 2) from nI_add i 2]; exact vp_in_nI (by omega) (by omega)) dl_828 ?_
  refine zlaw_call (z := 285) (a := A) (as := [.int (xs (nI i + 1).toNatClampNeg), .int (xs (nI i + 2).toNatClampNeg)]) (rest := [.int r]) hx hb hml hown hw hT hX hS1 hl.1 (by decide) (by decide +kernel) (by rw [kA, show zMc 285 = 12 by decide +kernel]) hc9 n3 n4 (Nat.le_of_ble_eq_true (by simp only [Value.category, List.map, List.sum_cons, List.sum_nil]; decide +kernel)) (by rw [show zNp 285 = 2 by decide +kernel]; rfl) rfl (by simp [Value.category]) hc1 hs1 dl_829 (fun H locs hS2 => ?_)
  refine W.eq (g2 := F0 m 832 ls [.int r, .int r]) rfl ?_
  exact lv_icmp_eq (tgt := 1727) hx hb dl_832 (by decide) (fun _ => kk m2 H locs hS2 hsim2) (fun q => absurd rfl q)
set_option maxHeartbeats 4000000 in
theorem law_c18 (hx : p.tables.exec = Jvm.exec) (hb : c.code = code) (hml : c.maxLocals = 4) (hown : s.vm.findClass R_law = some m.cls) (hw : ∀ w ∈ zTw, w.before #[Value.ref b] s = true) (hT : zTab G s) (hX : zStr G s) (hG : G.1 = s.heap.size) (hscr : va_X b L xs s s.heap) (hbl : b < s.heap.size) (hL : L ≤ 3072) {A cells slots i : Nat} {Sim : zMem → Prop} {mm : zMem} {H : Heap} {locs : List Loc} {ls : Array Slot} (hc1 : cells ≤ room_1.cells) (hs1 : slots ≤ room_1.slots) (hS : zSt G s.heap mm H locs) (hsim : Sim mm) (hl : lv_has ls 4 [(0, .ref b), (1, .ref (G.1 + 0)), (2, .ref (G.1 + A)), (3, .int (nI i))]) (hi : i + 6 ≤ L) (hok : ∀ (y0 : Int32) (y1 : Int32), zOkI Sim A 121 287 [.int y0, .int y1]) (kk : ∀ (m2 : zMem) (H2 : Heap) (locs2 : List Loc), zSt G s.heap m2 H2 locs2 → Sim m2 → W p l e room_1 s m #[Value.ref b] below meth c H2 locs2 cells slots Q (F0 m 1727 ls [])) : W p l e room_1 s m #[Value.ref b] below meth c H locs cells slots Q (F0 m 837 ls []) := by
  have hbA : ¬ (fun q : Nat => s.heap.size ≤ q) b := Nat.not_le.mpr hbl
  refine lv_aload_n hx hb dl_837 rfl (lv_at hl 1 rfl) ?_
  refine lv_aload_n hx hb dl_838 rfl (lv_at hl 0 rfl) ?_
  refine lv_iload_n hx hb dl_839 rfl (lv_at hl 3 rfl) ?_
  refine lv_iconst (v := 1) hx hb dl_840 (by decide) ?_
  refine lv_iadd hx hb dl_841 ?_
  refine va_sld hx hb hscr hbl hbA (zlaw_S hG hS) (i := nI i + 1) (by rw [show nI i + 1 = nI (i + 1) from nI_add i 1]; exact vp_in_nI (by omega) (by omega)) dl_842 ?_
  refine lv_aload_n hx hb dl_843 rfl (lv_at hl 0 rfl) ?_
  refine lv_iload_n hx hb dl_844 rfl (lv_at hl 3 rfl) ?_
  refine lv_iconst (v := 2) hx hb dl_845 (by decide) ?_
  refine lv_iadd hx hb dl_846 ?_
  refine va_sld hx hb hscr hbl hbA (zlaw_S hG hS) (i := nI i + 2) (by rw [show nI i + 2 = nI (i + 2) from nI_add i 2]; exact vp_in_nI (by omega) (by omega)) dl_847 ?_
  obtain ⟨r, m1, m2, hc0, hc9, ⟨n1, n2, n3, n4⟩, k0, kA, hsim2⟩ := hok (xs (nI i + 1).toNatClampNeg) (xs (nI i + 2).toNatClampNeg) mm hsim
  refine zlaw_call (z := 121) (a := 0) (as := [.int (xs (nI i + 1).toNatClampNeg), .int (xs (nI i + 2).toNatClampNeg)]) (rest := []) hx hb hml hown hw hT hX hS hl.1 (by decide) (by decide +kernel) (by rw [k0, show zMc 121 = 11 by decide +kernel]) hc0 n1 n2 (Nat.le_of_ble_eq_true (by simp only [Value.category, List.map, List.sum_cons, List.sum_nil]; decide +kernel)) (by rw [show zNp 121 = 2 by decide +kernel]; rfl) rfl (by decide) hc1 hs1 dl_848 (fun H locs hS1 => ?_)
  refine W.eq (g2 := F0 m 851 ls [.int r]) rfl ?_
  refine lv_aload_n hx hb dl_851 rfl (lv_at hl 2 rfl) ?_
  refine lv_aload_n hx hb dl_852 rfl (lv_at hl 0 rfl) ?_
  refine lv_iload_n hx hb dl_853 rfl (lv_at hl 3 rfl) ?_
  refine lv_iconst (v := 1) hx hb dl_854 (by decide) ?_
  refine lv_iadd hx hb dl_855 ?_
  refine va_sld hx hb hscr hbl hbA (zlaw_S hG hS1) (i := nI i + 1) (by rw [show nI i + 1 = nI (i + 1) from nI_add i 1]; exact vp_in_nI (by omega) (by omega)) dl_856 ?_
  refine lv_aload_n hx hb dl_857 rfl (lv_at hl 0 rfl) ?_
  refine lv_iload_n hx hb dl_858 rfl (lv_at hl 3 rfl) ?_
  refine lv_iconst (v := 2) hx hb dl_859 (by decide) ?_
  refine lv_iadd hx hb dl_860 ?_
  refine va_sld hx hb hscr hbl hbA (zlaw_S hG hS1) (i := nI i + 2) (by rw [show nI i + 2 = nI (i + 2) from nI_add i 2]; exact vp_in_nI (by omega) (by omega)) dl_861 ?_
  refine zlaw_call (z := 287) (a := A) (as := [.int (xs (nI i + 1).toNatClampNeg), .int (xs (nI i + 2).toNatClampNeg)]) (rest := [.int r]) hx hb hml hown hw hT hX hS1 hl.1 (by decide) (by decide +kernel) (by rw [kA, show zMc 287 = 12 by decide +kernel]) hc9 n3 n4 (Nat.le_of_ble_eq_true (by simp only [Value.category, List.map, List.sum_cons, List.sum_nil]; decide +kernel)) (by rw [show zNp 287 = 2 by decide +kernel]; rfl) rfl (by simp [Value.category]) hc1 hs1 dl_862 (fun H locs hS2 => ?_)
  refine W.eq (g2 := F0 m 865 ls [.int r, .int r]) rfl ?_
  exact lv_icmp_eq (tgt := 1727) hx hb dl_865 (by decide) (fun _ => kk m2 H locs hS2 hsim2) (fun q => absurd rfl q)
set_option maxHeartbeats 4000000 in
theorem law_c19 (hx : p.tables.exec = Jvm.exec) (hb : c.code = code) (hml : c.maxLocals = 4) (hown : s.vm.findClass R_law = some m.cls) (hw : ∀ w ∈ zTw, w.before #[Value.ref b] s = true) (hT : zTab G s) (hX : zStr G s) (hG : G.1 = s.heap.size) (hscr : va_X b L xs s s.heap) (hbl : b < s.heap.size) (hL : L ≤ 3072) {A cells slots i : Nat} {Sim : zMem → Prop} {mm : zMem} {H : Heap} {locs : List Loc} {ls : Array Slot} (hc1 : cells ≤ room_1.cells) (hs1 : slots ≤ room_1.slots) (hS : zSt G s.heap mm H locs) (hsim : Sim mm) (hl : lv_has ls 4 [(0, .ref b), (1, .ref (G.1 + 0)), (2, .ref (G.1 + A)), (3, .int (nI i))]) (hi : i + 6 ≤ L) (hok : ∀ (y0 : Int32), zOkI Sim A 123 289 [.int y0]) (kk : ∀ (m2 : zMem) (H2 : Heap) (locs2 : List Loc), zSt G s.heap m2 H2 locs2 → Sim m2 → W p l e room_1 s m #[Value.ref b] below meth c H2 locs2 cells slots Q (F0 m 1727 ls [])) : W p l e room_1 s m #[Value.ref b] below meth c H locs cells slots Q (F0 m 870 ls []) := by
  have hbA : ¬ (fun q : Nat => s.heap.size ≤ q) b := Nat.not_le.mpr hbl
  refine lv_aload_n hx hb dl_870 rfl (lv_at hl 1 rfl) ?_
  refine lv_aload_n hx hb dl_871 rfl (lv_at hl 0 rfl) ?_
  refine lv_iload_n hx hb dl_872 rfl (lv_at hl 3 rfl) ?_
  refine lv_iconst (v := 1) hx hb dl_873 (by decide) ?_
  refine lv_iadd hx hb dl_874 ?_
  refine va_sld hx hb hscr hbl hbA (zlaw_S hG hS) (i := nI i + 1) (by rw [show nI i + 1 = nI (i + 1) from nI_add i 1]; exact vp_in_nI (by omega) (by omega)) dl_875 ?_
  obtain ⟨r, m1, m2, hc0, hc9, ⟨n1, n2, n3, n4⟩, k0, kA, hsim2⟩ := hok (xs (nI i + 1).toNatClampNeg) mm hsim
  refine zlaw_call (z := 123) (a := 0) (as := [.int (xs (nI i + 1).toNatClampNeg)]) (rest := []) hx hb hml hown hw hT hX hS hl.1 (by decide) (by decide +kernel) (by rw [k0, show zMc 123 = 11 by decide +kernel]) hc0 n1 n2 (Nat.le_of_ble_eq_true (by simp only [Value.category, List.map, List.sum_cons, List.sum_nil]; decide +kernel)) (by rw [show zNp 123 = 1 by decide +kernel]; rfl) rfl (by decide) hc1 hs1 dl_876 (fun H locs hS1 => ?_)
  refine W.eq (g2 := F0 m 879 ls [.int r]) rfl ?_
  refine lv_aload_n hx hb dl_879 rfl (lv_at hl 2 rfl) ?_
  refine lv_aload_n hx hb dl_880 rfl (lv_at hl 0 rfl) ?_
  refine lv_iload_n hx hb dl_881 rfl (lv_at hl 3 rfl) ?_
  refine lv_iconst (v := 1) hx hb dl_882 (by decide) ?_
  refine lv_iadd hx hb dl_883 ?_
  refine va_sld hx hb hscr hbl hbA (zlaw_S hG hS1) (i := nI i + 1) (by rw [show nI i + 1 = nI (i + 1) from nI_add i 1]; exact vp_in_nI (by omega) (by omega)) dl_884 ?_
  refine zlaw_call (z := 289) (a := A) (as := [.int (xs (nI i + 1).toNatClampNeg)]) (rest := [.int r]) hx hb hml hown hw hT hX hS1 hl.1 (by decide) (by decide +kernel) (by rw [kA, show zMc 289 = 12 by decide +kernel]) hc9 n3 n4 (Nat.le_of_ble_eq_true (by simp only [Value.category, List.map, List.sum_cons, List.sum_nil]; decide +kernel)) (by rw [show zNp 289 = 1 by decide +kernel]; rfl) rfl (by simp [Value.category]) hc1 hs1 dl_885 (fun H locs hS2 => ?_)
  refine W.eq (g2 := F0 m 888 ls [.int r, .int r]) rfl ?_
  exact lv_icmp_eq (tgt := 1727) hx hb dl_888 (by decide) (fun _ => kk m2 H locs hS2 hsim2) (fun q => absurd rfl q)
set_option maxHeartbeats 4000000 in
theorem law_c20 (hx : p.tables.exec = Jvm.exec) (hb : c.code = code) (hml : c.maxLocals = 4) (hown : s.vm.findClass R_law = some m.cls) (hw : ∀ w ∈ zTw, w.before #[Value.ref b] s = true) (hT : zTab G s) (hX : zStr G s) (hG : G.1 = s.heap.size) (hscr : va_X b L xs s s.heap) (hbl : b < s.heap.size) (hL : L ≤ 3072) {A cells slots i : Nat} {Sim : zMem → Prop} {mm : zMem} {H : Heap} {locs : List Loc} {ls : Array Slot} (hc1 : cells ≤ room_1.cells) (hs1 : slots ≤ room_1.slots) (hS : zSt G s.heap mm H locs) (hsim : Sim mm) (hl : lv_has ls 4 [(0, .ref b), (1, .ref (G.1 + 0)), (2, .ref (G.1 + A)), (3, .int (nI i))]) (hi : i + 6 ≤ L) (hok : ∀ (y0 : Int32) (y1 : Int32) (y2 : Int32), zOkI Sim A 126 291 [.int y0, .int y1, .int y2]) (kk : ∀ (m2 : zMem) (H2 : Heap) (locs2 : List Loc), zSt G s.heap m2 H2 locs2 → Sim m2 → W p l e room_1 s m #[Value.ref b] below meth c H2 locs2 cells slots Q (F0 m 1727 ls [])) : W p l e room_1 s m #[Value.ref b] below meth c H locs cells slots Q (F0 m 893 ls []) := by
  have hbA : ¬ (fun q : Nat => s.heap.size ≤ q) b := Nat.not_le.mpr hbl
  refine lv_aload_n hx hb dl_893 rfl (lv_at hl 1 rfl) ?_
  refine lv_aload_n hx hb dl_894 rfl (lv_at hl 0 rfl) ?_
  refine lv_iload_n hx hb dl_895 rfl (lv_at hl 3 rfl) ?_
  refine lv_iconst (v := 1) hx hb dl_896 (by decide) ?_
  refine lv_iadd hx hb dl_897 ?_
  refine va_sld hx hb hscr hbl hbA (zlaw_S hG hS) (i := nI i + 1) (by rw [show nI i + 1 = nI (i + 1) from nI_add i 1]; exact vp_in_nI (by omega) (by omega)) dl_898 ?_
  refine lv_aload_n hx hb dl_899 rfl (lv_at hl 0 rfl) ?_
  refine lv_iload_n hx hb dl_900 rfl (lv_at hl 3 rfl) ?_
  refine lv_iconst (v := 2) hx hb dl_901 (by decide) ?_
  refine lv_iadd hx hb dl_902 ?_
  refine va_sld hx hb hscr hbl hbA (zlaw_S hG hS) (i := nI i + 2) (by rw [show nI i + 2 = nI (i + 2) from nI_add i 2]; exact vp_in_nI (by omega) (by omega)) dl_903 ?_
  refine lv_aload_n hx hb dl_904 rfl (lv_at hl 0 rfl) ?_
  refine lv_iload_n hx hb dl_905 rfl (lv_at hl 3 rfl) ?_
  refine lv_iconst (v := 3) hx hb dl_906 (by decide) ?_
  refine lv_iadd hx hb dl_907 ?_
  refine va_sld hx hb hscr hbl hbA (zlaw_S hG hS) (i := nI i + 3) (by rw [show nI i + 3 = nI (i + 3) from nI_add i 3]; exact vp_in_nI (by omega) (by omega)) dl_908 ?_
  obtain ⟨r, m1, m2, hc0, hc9, ⟨n1, n2, n3, n4⟩, k0, kA, hsim2⟩ := hok (xs (nI i + 1).toNatClampNeg) (xs (nI i + 2).toNatClampNeg) (xs (nI i + 3).toNatClampNeg) mm hsim
  refine zlaw_call (z := 126) (a := 0) (as := [.int (xs (nI i + 1).toNatClampNeg), .int (xs (nI i + 2).toNatClampNeg), .int (xs (nI i + 3).toNatClampNeg)]) (rest := []) hx hb hml hown hw hT hX hS hl.1 (by decide) (by decide +kernel) (by rw [k0, show zMc 126 = 11 by decide +kernel]) hc0 n1 n2 (Nat.le_of_ble_eq_true (by simp only [Value.category, List.map, List.sum_cons, List.sum_nil]; decide +kernel)) (by rw [show zNp 126 = 3 by decide +kernel]; rfl) rfl (by decide) hc1 hs1 dl_909 (fun H locs hS1 => ?_)
  refine W.eq (g2 := F0 m 912 ls [.int r]) rfl ?_
  refine lv_aload_n hx hb dl_912 rfl (lv_at hl 2 rfl) ?_
  refine lv_aload_n hx hb dl_913 rfl (lv_at hl 0 rfl) ?_
  refine lv_iload_n hx hb dl_914 rfl (lv_at hl 3 rfl) ?_
  refine lv_iconst (v := 1) hx hb dl_915 (by decide) ?_
  refine lv_iadd hx hb dl_916 ?_
  refine va_sld hx hb hscr hbl hbA (zlaw_S hG hS1) (i := nI i + 1) (by rw [show nI i + 1 = nI (i + 1) from nI_add i 1]; exact vp_in_nI (by omega) (by omega)) dl_917 ?_
  refine lv_aload_n hx hb dl_918 rfl (lv_at hl 0 rfl) ?_
  refine lv_iload_n hx hb dl_919 rfl (lv_at hl 3 rfl) ?_
  refine lv_iconst (v := 2) hx hb dl_920 (by decide) ?_
  refine lv_iadd hx hb dl_921 ?_
  refine va_sld hx hb hscr hbl hbA (zlaw_S hG hS1) (i := nI i + 2) (by rw [show nI i + 2 = nI (i + 2) from nI_add i 2]; exact vp_in_nI (by omega) (by omega)) dl_922 ?_
  refine lv_aload_n hx hb dl_923 rfl (lv_at hl 0 rfl) ?_
  refine lv_iload_n hx hb dl_924 rfl (lv_at hl 3 rfl) ?_
  refine lv_iconst (v := 3) hx hb dl_925 (by decide) ?_
  refine lv_iadd hx hb dl_926 ?_
  refine va_sld hx hb hscr hbl hbA (zlaw_S hG hS1) (i := nI i + 3) (by rw [show nI i + 3 = nI (i + 3) from nI_add i 3]; exact vp_in_nI (by omega) (by omega)) dl_927 ?_
  refine zlaw_call (z := 291) (a := A) (as := [.int (xs (nI i + 1).toNatClampNeg), .int (xs (nI i + 2).toNatClampNeg), .int (xs (nI i + 3).toNatClampNeg)]) (rest := [.int r]) hx hb hml hown hw hT hX hS1 hl.1 (by decide) (by decide +kernel) (by rw [kA, show zMc 291 = 12 by decide +kernel]) hc9 n3 n4 (Nat.le_of_ble_eq_true (by simp only [Value.category, List.map, List.sum_cons, List.sum_nil]; decide +kernel)) (by rw [show zNp 291 = 3 by decide +kernel]; rfl) rfl (by simp [Value.category]) hc1 hs1 dl_928 (fun H locs hS2 => ?_)
  refine W.eq (g2 := F0 m 931 ls [.int r, .int r]) rfl ?_
  exact lv_icmp_eq (tgt := 1727) hx hb dl_931 (by decide) (fun _ => kk m2 H locs hS2 hsim2) (fun q => absurd rfl q)
set_option maxHeartbeats 4000000 in
theorem law_c21 (hx : p.tables.exec = Jvm.exec) (hb : c.code = code) (hml : c.maxLocals = 4) (hown : s.vm.findClass R_law = some m.cls) (hw : ∀ w ∈ zTw, w.before #[Value.ref b] s = true) (hT : zTab G s) (hX : zStr G s) (hG : G.1 = s.heap.size) (hscr : va_X b L xs s s.heap) (hbl : b < s.heap.size) (hL : L ≤ 3072) {A cells slots i : Nat} {Sim : zMem → Prop} {mm : zMem} {H : Heap} {locs : List Loc} {ls : Array Slot} (hc1 : cells ≤ room_1.cells) (hs1 : slots ≤ room_1.slots) (hS : zSt G s.heap mm H locs) (hsim : Sim mm) (hl : lv_has ls 4 [(0, .ref b), (1, .ref (G.1 + 0)), (2, .ref (G.1 + A)), (3, .int (nI i))]) (hi : i + 6 ≤ L) (hok : ∀ (y0 : Int32) (y1 : Int32), zOkI Sim A 127 292 [.int y0, .int y1]) (kk : ∀ (m2 : zMem) (H2 : Heap) (locs2 : List Loc), zSt G s.heap m2 H2 locs2 → Sim m2 → W p l e room_1 s m #[Value.ref b] below meth c H2 locs2 cells slots Q (F0 m 1727 ls [])) : W p l e room_1 s m #[Value.ref b] below meth c H locs cells slots Q (F0 m 936 ls []) := by
  have hbA : ¬ (fun q : Nat => s.heap.size ≤ q) b := Nat.not_le.mpr hbl
  refine lv_aload_n hx hb dl_936 rfl (lv_at hl 1 rfl) ?_
  refine lv_aload_n hx hb dl_937 rfl (lv_at hl 0 rfl) ?_
  refine lv_iload_n hx hb dl_938 rfl (lv_at hl 3 rfl) ?_
  refine lv_iconst (v := 1) hx hb dl_939 (by decide) ?_
  refine lv_iadd hx hb dl_940 ?_
  refine va_sld hx hb hscr hbl hbA (zlaw_S hG hS) (i := nI i + 1) (by rw [show nI i + 1 = nI (i + 1) from nI_add i 1]; exact vp_in_nI (by omega) (by omega)) dl_941 ?_
  refine lv_aload_n hx hb dl_942 rfl (lv_at hl 0 rfl) ?_
  refine lv_iload_n hx hb dl_943 rfl (lv_at hl 3 rfl) ?_
  refine lv_iconst (v := 2) hx hb dl_944 (by decide) ?_
  refine lv_iadd hx hb dl_945 ?_
  refine va_sld hx hb hscr hbl hbA (zlaw_S hG hS) (i := nI i + 2) (by rw [show nI i + 2 = nI (i + 2) from nI_add i 2]; exact vp_in_nI (by omega) (by omega)) dl_946 ?_
  obtain ⟨r, m1, m2, hc0, hc9, ⟨n1, n2, n3, n4⟩, k0, kA, hsim2⟩ := hok (xs (nI i + 1).toNatClampNeg) (xs (nI i + 2).toNatClampNeg) mm hsim
  refine zlaw_call (z := 127) (a := 0) (as := [.int (xs (nI i + 1).toNatClampNeg), .int (xs (nI i + 2).toNatClampNeg)]) (rest := []) hx hb hml hown hw hT hX hS hl.1 (by decide) (by decide +kernel) (by rw [k0, show zMc 127 = 11 by decide +kernel]) hc0 n1 n2 (Nat.le_of_ble_eq_true (by simp only [Value.category, List.map, List.sum_cons, List.sum_nil]; decide +kernel)) (by rw [show zNp 127 = 2 by decide +kernel]; rfl) rfl (by decide) hc1 hs1 dl_947 (fun H locs hS1 => ?_)
  refine W.eq (g2 := F0 m 950 ls [.int r]) rfl ?_
  refine lv_aload_n hx hb dl_950 rfl (lv_at hl 2 rfl) ?_
  refine lv_aload_n hx hb dl_951 rfl (lv_at hl 0 rfl) ?_
  refine lv_iload_n hx hb dl_952 rfl (lv_at hl 3 rfl) ?_
  refine lv_iconst (v := 1) hx hb dl_953 (by decide) ?_
  refine lv_iadd hx hb dl_954 ?_
  refine va_sld hx hb hscr hbl hbA (zlaw_S hG hS1) (i := nI i + 1) (by rw [show nI i + 1 = nI (i + 1) from nI_add i 1]; exact vp_in_nI (by omega) (by omega)) dl_955 ?_
  refine lv_aload_n hx hb dl_956 rfl (lv_at hl 0 rfl) ?_
  refine lv_iload_n hx hb dl_957 rfl (lv_at hl 3 rfl) ?_
  refine lv_iconst (v := 2) hx hb dl_958 (by decide) ?_
  refine lv_iadd hx hb dl_959 ?_
  refine va_sld hx hb hscr hbl hbA (zlaw_S hG hS1) (i := nI i + 2) (by rw [show nI i + 2 = nI (i + 2) from nI_add i 2]; exact vp_in_nI (by omega) (by omega)) dl_960 ?_
  refine zlaw_call (z := 292) (a := A) (as := [.int (xs (nI i + 1).toNatClampNeg), .int (xs (nI i + 2).toNatClampNeg)]) (rest := [.int r]) hx hb hml hown hw hT hX hS1 hl.1 (by decide) (by decide +kernel) (by rw [kA, show zMc 292 = 12 by decide +kernel]) hc9 n3 n4 (Nat.le_of_ble_eq_true (by simp only [Value.category, List.map, List.sum_cons, List.sum_nil]; decide +kernel)) (by rw [show zNp 292 = 2 by decide +kernel]; rfl) rfl (by simp [Value.category]) hc1 hs1 dl_961 (fun H locs hS2 => ?_)
  refine W.eq (g2 := F0 m 964 ls [.int r, .int r]) rfl ?_
  exact lv_icmp_eq (tgt := 1727) hx hb dl_964 (by decide) (fun _ => kk m2 H locs hS2 hsim2) (fun q => absurd rfl q)
set_option maxHeartbeats 4000000 in
theorem law_c22 (hx : p.tables.exec = Jvm.exec) (hb : c.code = code) (hml : c.maxLocals = 4) (hown : s.vm.findClass R_law = some m.cls) (hw : ∀ w ∈ zTw, w.before #[Value.ref b] s = true) (hT : zTab G s) (hX : zStr G s) (hG : G.1 = s.heap.size) (hscr : va_X b L xs s s.heap) (hbl : b < s.heap.size) (hL : L ≤ 3072) {A cells slots i : Nat} {Sim : zMem → Prop} {mm : zMem} {H : Heap} {locs : List Loc} {ls : Array Slot} (hc1 : cells ≤ room_1.cells) (hs1 : slots ≤ room_1.slots) (hS : zSt G s.heap mm H locs) (hsim : Sim mm) (hl : lv_has ls 4 [(0, .ref b), (1, .ref (G.1 + 0)), (2, .ref (G.1 + A)), (3, .int (nI i))]) (hi : i + 6 ≤ L) (hok : ∀ (y0 : Int32), zOkI Sim A 128 293 [.int y0]) (kk : ∀ (m2 : zMem) (H2 : Heap) (locs2 : List Loc), zSt G s.heap m2 H2 locs2 → Sim m2 → W p l e room_1 s m #[Value.ref b] below meth c H2 locs2 cells slots Q (F0 m 1727 ls [])) : W p l e room_1 s m #[Value.ref b] below meth c H locs cells slots Q (F0 m 969 ls []) := by
  have hbA : ¬ (fun q : Nat => s.heap.size ≤ q) b := Nat.not_le.mpr hbl
  refine lv_aload_n hx hb dl_969 rfl (lv_at hl 1 rfl) ?_
  refine lv_aload_n hx hb dl_970 rfl (lv_at hl 0 rfl) ?_
  refine lv_iload_n hx hb dl_971 rfl (lv_at hl 3 rfl) ?_
  refine lv_iconst (v := 1) hx hb dl_972 (by decide) ?_
  refine lv_iadd hx hb dl_973 ?_
  refine va_sld hx hb hscr hbl hbA (zlaw_S hG hS) (i := nI i + 1) (by rw [show nI i + 1 = nI (i + 1) from nI_add i 1]; exact vp_in_nI (by omega) (by omega)) dl_974 ?_
  obtain ⟨r, m1, m2, hc0, hc9, ⟨n1, n2, n3, n4⟩, k0, kA, hsim2⟩ := hok (xs (nI i + 1).toNatClampNeg) mm hsim
  refine zlaw_call (z := 128) (a := 0) (as := [.int (xs (nI i + 1).toNatClampNeg)]) (rest := []) hx hb hml hown hw hT hX hS hl.1 (by decide) (by decide +kernel) (by rw [k0, show zMc 128 = 11 by decide +kernel]) hc0 n1 n2 (Nat.le_of_ble_eq_true (by simp only [Value.category, List.map, List.sum_cons, List.sum_nil]; decide +kernel)) (by rw [show zNp 128 = 1 by decide +kernel]; rfl) rfl (by decide) hc1 hs1 dl_975 (fun H locs hS1 => ?_)
  refine W.eq (g2 := F0 m 978 ls [.int r]) rfl ?_
  refine lv_aload_n hx hb dl_978 rfl (lv_at hl 2 rfl) ?_
  refine lv_aload_n hx hb dl_979 rfl (lv_at hl 0 rfl) ?_
  refine lv_iload_n hx hb dl_980 rfl (lv_at hl 3 rfl) ?_
  refine lv_iconst (v := 1) hx hb dl_981 (by decide) ?_
  refine lv_iadd hx hb dl_982 ?_
  refine va_sld hx hb hscr hbl hbA (zlaw_S hG hS1) (i := nI i + 1) (by rw [show nI i + 1 = nI (i + 1) from nI_add i 1]; exact vp_in_nI (by omega) (by omega)) dl_983 ?_
  refine zlaw_call (z := 293) (a := A) (as := [.int (xs (nI i + 1).toNatClampNeg)]) (rest := [.int r]) hx hb hml hown hw hT hX hS1 hl.1 (by decide) (by decide +kernel) (by rw [kA, show zMc 293 = 12 by decide +kernel]) hc9 n3 n4 (Nat.le_of_ble_eq_true (by simp only [Value.category, List.map, List.sum_cons, List.sum_nil]; decide +kernel)) (by rw [show zNp 293 = 1 by decide +kernel]; rfl) rfl (by simp [Value.category]) hc1 hs1 dl_984 (fun H locs hS2 => ?_)
  refine W.eq (g2 := F0 m 987 ls [.int r, .int r]) rfl ?_
  exact lv_icmp_eq (tgt := 1727) hx hb dl_987 (by decide) (fun _ => kk m2 H locs hS2 hsim2) (fun q => absurd rfl q)
set_option maxHeartbeats 4000000 in
theorem law_c23 (hx : p.tables.exec = Jvm.exec) (hb : c.code = code) (hml : c.maxLocals = 4) (hown : s.vm.findClass R_law = some m.cls) (hw : ∀ w ∈ zTw, w.before #[Value.ref b] s = true) (hT : zTab G s) (hX : zStr G s) (hG : G.1 = s.heap.size) (hscr : va_X b L xs s s.heap) (hbl : b < s.heap.size) (hL : L ≤ 3072) {A cells slots i : Nat} {Sim : zMem → Prop} {mm : zMem} {H : Heap} {locs : List Loc} {ls : Array Slot} (hc1 : cells ≤ room_1.cells) (hs1 : slots ≤ room_1.slots) (hS : zSt G s.heap mm H locs) (hsim : Sim mm) (hl : lv_has ls 4 [(0, .ref b), (1, .ref (G.1 + 0)), (2, .ref (G.1 + A)), (3, .int (nI i))]) (hi : i + 6 ≤ L) (hok : ∀ (y0 : Int32), zOkI Sim A 129 294 [.int y0]) (kk : ∀ (m2 : zMem) (H2 : Heap) (locs2 : List Loc), zSt G s.heap m2 H2 locs2 → Sim m2 → W p l e room_1 s m #[Value.ref b] below meth c H2 locs2 cells slots Q (F0 m 1727 ls [])) : W p l e room_1 s m #[Value.ref b] below meth c H locs cells slots Q (F0 m 992 ls []) := by
  have hbA : ¬ (fun q : Nat => s.heap.size ≤ q) b := Nat.not_le.mpr hbl
  refine lv_aload_n hx hb dl_992 rfl (lv_at hl 1 rfl) ?_
  refine lv_aload_n hx hb dl_993 rfl (lv_at hl 0 rfl) ?_
  refine lv_iload_n hx hb dl_994 rfl (lv_at hl 3 rfl) ?_
  refine lv_iconst (v := 1) hx hb dl_995 (by decide) ?_
  refine lv_iadd hx hb dl_996 ?_
  refine va_sld hx hb hscr hbl hbA (zlaw_S hG hS) (i := nI i + 1) (by rw [show nI i + 1 = nI (i + 1) from nI_add i 1]; exact vp_in_nI (by omega) (by omega)) dl_997 ?_
  obtain ⟨r, m1, m2, hc0, hc9, ⟨n1, n2, n3, n4⟩, k0, kA, hsim2⟩ := hok (xs (nI i + 1).toNatClampNeg) mm hsim
  refine zlaw_call (z := 129) (a := 0) (as := [.int (xs (nI i + 1).toNatClampNeg)]) (rest := []) hx hb hml hown hw hT hX hS hl.1 (by decide) (by decide +kernel) (by rw [k0, show zMc 129 = 11 by decide +kernel]) hc0 n1 n2 (Nat.le_of_ble_eq_true (by simp only [Value.category, List.map, List.sum_cons, List.sum_nil]; decide +kernel)) (by rw [show zNp 129 = 1 by decide +kernel]; rfl) rfl (by decide) hc1 hs1 dl_998 (fun H locs hS1 => ?_)
  refine W.eq (g2 := F0 m 1001 ls [.int r]) rfl ?_
  refine lv_aload_n hx hb dl_1001 rfl (lv_at hl 2 rfl) ?_
  refine lv_aload_n hx hb dl_1002 rfl (lv_at hl 0 rfl) ?_
  refine lv_iload_n hx hb dl_1003 rfl (lv_at hl 3 rfl) ?_
  refine lv_iconst (v := 1) hx hb dl_1004 (by decide) ?_
  refine lv_iadd hx hb dl_1005 ?_
  refine va_sld hx hb hscr hbl hbA (zlaw_S hG hS1) (i := nI i + 1) (by rw [show nI i + 1 = nI (i + 1) from nI_add i 1]; exact vp_in_nI (by omega) (by omega)) dl_1006 ?_
  refine zlaw_call (z := 294) (a := A) (as := [.int (xs (nI i + 1).toNatClampNeg)]) (rest := [.int r]) hx hb hml hown hw hT hX hS1 hl.1 (by decide) (by decide +kernel) (by rw [kA, show zMc 294 = 12 by decide +kernel]) hc9 n3 n4 (Nat.le_of_ble_eq_true (by simp only [Value.category, List.map, List.sum_cons, List.sum_nil]; decide +kernel)) (by rw [show zNp 294 = 1 by decide +kernel]; rfl) rfl (by simp [Value.category]) hc1 hs1 dl_1007 (fun H locs hS2 => ?_)
  refine W.eq (g2 := F0 m 1010 ls [.int r, .int r]) rfl ?_
  exact lv_icmp_eq (tgt := 1727) hx hb dl_1010 (by decide) (fun _ => kk m2 H locs hS2 hsim2) (fun q => absurd rfl q)
set_option maxHeartbeats 4000000 in
theorem law_c24 (hx : p.tables.exec = Jvm.exec) (hb : c.code = code) (hml : c.maxLocals = 4) (hown : s.vm.findClass R_law = some m.cls) (hw : ∀ w ∈ zTw, w.before #[Value.ref b] s = true) (hT : zTab G s) (hX : zStr G s) (hG : G.1 = s.heap.size) (hscr : va_X b L xs s s.heap) (hbl : b < s.heap.size) (hL : L ≤ 3072) {A cells slots i : Nat} {Sim : zMem → Prop} {mm : zMem} {H : Heap} {locs : List Loc} {ls : Array Slot} (hc1 : cells ≤ room_1.cells) (hs1 : slots ≤ room_1.slots) (hS : zSt G s.heap mm H locs) (hsim : Sim mm) (hl : lv_has ls 4 [(0, .ref b), (1, .ref (G.1 + 0)), (2, .ref (G.1 + A)), (3, .int (nI i))]) (hi : i + 6 ≤ L) (hok : ∀ (y0 : Int32) (y1 : Int32) (y2 : Int32), zOkI Sim A 130 295 [.int y0, .int y1, .int y2]) (kk : ∀ (m2 : zMem) (H2 : Heap) (locs2 : List Loc), zSt G s.heap m2 H2 locs2 → Sim m2 → W p l e room_1 s m #[Value.ref b] below meth c H2 locs2 cells slots Q (F0 m 1727 ls [])) : W p l e room_1 s m #[Value.ref b] below meth c H locs cells slots Q (F0 m 1015 ls []) := by
  have hbA : ¬ (fun q : Nat => s.heap.size ≤ q) b := Nat.not_le.mpr hbl
  refine lv_aload_n hx hb dl_1015 rfl (lv_at hl 1 rfl) ?_
  refine lv_aload_n hx hb dl_1016 rfl (lv_at hl 0 rfl) ?_
  refine lv_iload_n hx hb dl_1017 rfl (lv_at hl 3 rfl) ?_
  refine lv_iconst (v := 1) hx hb dl_1018 (by decide) ?_
  refine lv_iadd hx hb dl_1019 ?_
  refine va_sld hx hb hscr hbl hbA (zlaw_S hG hS) (i := nI i + 1) (by rw [show nI i + 1 = nI (i + 1) from nI_add i 1]; exact vp_in_nI (by omega) (by omega)) dl_1020 ?_
  refine lv_aload_n hx hb dl_1021 rfl (lv_at hl 0 rfl) ?_
  refine lv_iload_n hx hb dl_1022 rfl (lv_at hl 3 rfl) ?_
  refine lv_iconst (v := 2) hx hb dl_1023 (by decide) ?_
  refine lv_iadd hx hb dl_1024 ?_
  refine va_sld hx hb hscr hbl hbA (zlaw_S hG hS) (i := nI i + 2) (by rw [show nI i + 2 = nI (i + 2) from nI_add i 2]; exact vp_in_nI (by omega) (by omega)) dl_1025 ?_
  refine lv_aload_n hx hb dl_1026 rfl (lv_at hl 0 rfl) ?_
  refine lv_iload_n hx hb dl_1027 rfl (lv_at hl 3 rfl) ?_
  refine lv_iconst (v := 3) hx hb dl_1028 (by decide) ?_
  refine lv_iadd hx hb dl_1029 ?_
  refine va_sld hx hb hscr hbl hbA (zlaw_S hG hS) (i := nI i + 3) (by rw [show nI i + 3 = nI (i + 3) from nI_add i 3]; exact vp_in_nI (by omega) (by omega)) dl_1030 ?_
  obtain ⟨r, m1, m2, hc0, hc9, ⟨n1, n2, n3, n4⟩, k0, kA, hsim2⟩ := hok (xs (nI i + 1).toNatClampNeg) (xs (nI i + 2).toNatClampNeg) (xs (nI i + 3).toNatClampNeg) mm hsim
  refine zlaw_call (z := 130) (a := 0) (as := [.int (xs (nI i + 1).toNatClampNeg), .int (xs (nI i + 2).toNatClampNeg), .int (xs (nI i + 3).toNatClampNeg)]) (rest := []) hx hb hml hown hw hT hX hS hl.1 (by decide) (by decide +kernel) (by rw [k0, show zMc 130 = 11 by decide +kernel]) hc0 n1 n2 (Nat.le_of_ble_eq_true (by simp only [Value.category, List.map, List.sum_cons, List.sum_nil]; decide +kernel)) (by rw [show zNp 130 = 3 by decide +kernel]; rfl) rfl (by decide) hc1 hs1 dl_1031 (fun H locs hS1 => ?_)
  refine W.eq (g2 := F0 m 1034 ls [.int r]) rfl ?_
  refine lv_aload_n hx hb dl_1034 rfl (lv_at hl 2 rfl) ?_
  refine lv_aload_n hx hb dl_1035 rfl (lv_at hl 0 rfl) ?_
  refine lv_iload_n hx hb dl_1036 rfl (lv_at hl 3 rfl) ?_
  refine lv_iconst (v := 1) hx hb dl_1037 (by decide) ?_
  refine lv_iadd hx hb dl_1038 ?_
  refine va_sld hx hb hscr hbl hbA (zlaw_S hG hS1) (i := nI i + 1) (by rw [show nI i + 1 = nI (i + 1) from nI_add i 1]; exact vp_in_nI (by omega) (by omega)) dl_1039 ?_
  refine lv_aload_n hx hb dl_1040 rfl (lv_at hl 0 rfl) ?_
  refine lv_iload_n hx hb dl_1041 rfl (lv_at hl 3 rfl) ?_
  refine lv_iconst (v := 2) hx hb dl_1042 (by decide) ?_
  refine lv_iadd hx hb dl_1043 ?_
  refine va_sld hx hb hscr hbl hbA (zlaw_S hG hS1) (i := nI i + 2) (by rw [show nI i + 2 = nI (i + 2) from nI_add i 2]; exact vp_in_nI (by omega) (by omega)) dl_1044 ?_
  refine lv_aload_n hx hb dl_1045 rfl (lv_at hl 0 rfl) ?_
  refine lv_iload_n hx hb dl_1046 rfl (lv_at hl 3 rfl) ?_
  refine lv_iconst (v := 3) hx hb dl_1047 (by decide) ?_
  refine lv_iadd hx hb dl_1048 ?_
  refine va_sld hx hb hscr hbl hbA (zlaw_S hG hS1) (i := nI i + 3) (by rw [show nI i + 3 = nI (i + 3) from nI_add i 3]; exact vp_in_nI (by omega) (by omega)) dl_1049 ?_
  refine zlaw_call (z := 295) (a := A) (as := [.int (xs (nI i + 1).toNatClampNeg), .int (xs (nI i + 2).toNatClampNeg), .int (xs (nI i + 3).toNatClampNeg)]) (rest := [.int r]) hx hb hml hown hw hT hX hS1 hl.1 (by decide) (by decide +kernel) (by rw [kA, show zMc 295 = 12 by decide +kernel]) hc9 n3 n4 (Nat.le_of_ble_eq_true (by simp only [Value.category, List.map, List.sum_cons, List.sum_nil]; decide +kernel)) (by rw [show zNp 295 = 3 by decide +kernel]; rfl) rfl (by simp [Value.category]) hc1 hs1 dl_1050 (fun H locs hS2 => ?_)
  refine W.eq (g2 := F0 m 1053 ls [.int r, .int r]) rfl ?_
  exact lv_icmp_eq (tgt := 1727) hx hb dl_1053 (by decide) (fun _ => kk m2 H locs hS2 hsim2) (fun q => absurd rfl q)
set_option maxHeartbeats 4000000 in
theorem law_c25 (hx : p.tables.exec = Jvm.exec) (hb : c.code = code) (hml : c.maxLocals = 4) (hown : s.vm.findClass R_law = some m.cls) (hw : ∀ w ∈ zTw, w.before #[Value.ref b] s = true) (hT : zTab G s) (hX : zStr G s) (hG : G.1 = s.heap.size) (hscr : va_X b L xs s s.heap) (hbl : b < s.heap.size) (hL : L ≤ 3072) {A cells slots i : Nat} {Sim : zMem → Prop} {mm : zMem} {H : Heap} {locs : List Loc} {ls : Array Slot} (hc1 : cells ≤ room_1.cells) (hs1 : slots ≤ room_1.slots) (hS : zSt G s.heap mm H locs) (hsim : Sim mm) (hl : lv_has ls 4 [(0, .ref b), (1, .ref (G.1 + 0)), (2, .ref (G.1 + A)), (3, .int (nI i))]) (hi : i + 6 ≤ L) (hok : ∀ (y0 : Int32) (y1 : Int32), zOkI Sim A 131 296 [.int y0, .int y1]) (kk : ∀ (m2 : zMem) (H2 : Heap) (locs2 : List Loc), zSt G s.heap m2 H2 locs2 → Sim m2 → W p l e room_1 s m #[Value.ref b] below meth c H2 locs2 cells slots Q (F0 m 1727 ls [])) : W p l e room_1 s m #[Value.ref b] below meth c H locs cells slots Q (F0 m 1058 ls []) := by
  have hbA : ¬ (fun q : Nat => s.heap.size ≤ q) b := Nat.not_le.mpr hbl
  refine lv_aload_n hx hb dl_1058 rfl (lv_at hl 1 rfl) ?_
  refine lv_aload_n hx hb dl_1059 rfl (lv_at hl 0 rfl) ?_
  refine lv_iload_n hx hb dl_1060 rfl (lv_at hl 3 rfl) ?_
  refine lv_iconst (v := 1) hx hb dl_1061 (by decide) ?_
  refine lv_iadd hx hb dl_1062 ?_
  refine va_sld hx hb hscr hbl hbA (zlaw_S hG hS) (i := nI i + 1) (by rw [show nI i + 1 = nI (i + 1) from nI_add i 1]; exact vp_in_nI (by omega) (by omega)) dl_1063 ?_
  refine lv_aload_n hx hb dl_1064 rfl (lv_at hl 0 rfl) ?_
  refine lv_iload_n hx hb dl_1065 rfl (lv_at hl 3 rfl) ?_
  refine lv_iconst (v := 2) hx hb dl_1066 (by decide) ?_
  refine lv_iadd hx hb dl_1067 ?_
  refine va_sld hx hb hscr hbl hbA (zlaw_S hG hS) (i := nI i + 2) (by rw [show nI i + 2 = nI (i + 2) from nI_add i 2]; exact vp_in_nI (by omega) (by omega)) dl_1068 ?_
  obtain ⟨r, m1, m2, hc0, hc9, ⟨n1, n2, n3, n4⟩, k0, kA, hsim2⟩ := hok (xs (nI i + 1).toNatClampNeg) (xs (nI i + 2).toNatClampNeg) mm hsim
  refine zlaw_call (z := 131) (a := 0) (as := [.int (xs (nI i + 1).toNatClampNeg), .int (xs (nI i + 2).toNatClampNeg)]) (rest := []) hx hb hml hown hw hT hX hS hl.1 (by decide) (by decide +kernel) (by rw [k0, show zMc 131 = 11 by decide +kernel]) hc0 n1 n2 (Nat.le_of_ble_eq_true (by simp only [Value.category, List.map, List.sum_cons, List.sum_nil]; decide +kernel)) (by rw [show zNp 131 = 2 by decide +kernel]; rfl) rfl (by decide) hc1 hs1 dl_1069 (fun H locs hS1 => ?_)
  refine W.eq (g2 := F0 m 1072 ls [.int r]) rfl ?_
  refine lv_aload_n hx hb dl_1072 rfl (lv_at hl 2 rfl) ?_
  refine lv_aload_n hx hb dl_1073 rfl (lv_at hl 0 rfl) ?_
  refine lv_iload_n hx hb dl_1074 rfl (lv_at hl 3 rfl) ?_
  refine lv_iconst (v := 1) hx hb dl_1075 (by decide) ?_
  refine lv_iadd hx hb dl_1076 ?_
  refine va_sld hx hb hscr hbl hbA (zlaw_S hG hS1) (i := nI i + 1) (by rw [show nI i + 1 = nI (i + 1) from nI_add i 1]; exact vp_in_nI (by omega) (by omega)) dl_1077 ?_
  refine lv_aload_n hx hb dl_1078 rfl (lv_at hl 0 rfl) ?_
  refine lv_iload_n hx hb dl_1079 rfl (lv_at hl 3 rfl) ?_
  refine lv_iconst (v := 2) hx hb dl_1080 (by decide) ?_
  refine lv_iadd hx hb dl_1081 ?_
  refine va_sld hx hb hscr hbl hbA (zlaw_S hG hS1) (i := nI i + 2) (by rw [show nI i + 2 = nI (i + 2) from nI_add i 2]; exact vp_in_nI (by omega) (by omega)) dl_1082 ?_
  refine zlaw_call (z := 296) (a := A) (as := [.int (xs (nI i + 1).toNatClampNeg), .int (xs (nI i + 2).toNatClampNeg)]) (rest := [.int r]) hx hb hml hown hw hT hX hS1 hl.1 (by decide) (by decide +kernel) (by rw [kA, show zMc 296 = 12 by decide +kernel]) hc9 n3 n4 (Nat.le_of_ble_eq_true (by simp only [Value.category, List.map, List.sum_cons, List.sum_nil]; decide +kernel)) (by rw [show zNp 296 = 2 by decide +kernel]; rfl) rfl (by simp [Value.category]) hc1 hs1 dl_1083 (fun H locs hS2 => ?_)
  refine W.eq (g2 := F0 m 1086 ls [.int r, .int r]) rfl ?_
  exact lv_icmp_eq (tgt := 1727) hx hb dl_1086 (by decide) (fun _ => kk m2 H locs hS2 hsim2) (fun q => absurd rfl q)
set_option maxHeartbeats 4000000 in
theorem law_c26 (hx : p.tables.exec = Jvm.exec) (hb : c.code = code) (hml : c.maxLocals = 4) (hown : s.vm.findClass R_law = some m.cls) (hw : ∀ w ∈ zTw, w.before #[Value.ref b] s = true) (hT : zTab G s) (hX : zStr G s) (hG : G.1 = s.heap.size) (hscr : va_X b L xs s s.heap) (hbl : b < s.heap.size) (hL : L ≤ 3072) {A cells slots i : Nat} {Sim : zMem → Prop} {mm : zMem} {H : Heap} {locs : List Loc} {ls : Array Slot} (hc1 : cells ≤ room_1.cells) (hs1 : slots ≤ room_1.slots) (hS : zSt G s.heap mm H locs) (hsim : Sim mm) (hl : lv_has ls 4 [(0, .ref b), (1, .ref (G.1 + 0)), (2, .ref (G.1 + A)), (3, .int (nI i))]) (hi : i + 6 ≤ L) (hok : ∀ (y0 : Int32) (y1 : Int32), zOkI Sim A 132 297 [.int y0, .int y1]) (kk : ∀ (m2 : zMem) (H2 : Heap) (locs2 : List Loc), zSt G s.heap m2 H2 locs2 → Sim m2 → W p l e room_1 s m #[Value.ref b] below meth c H2 locs2 cells slots Q (F0 m 1727 ls [])) : W p l e room_1 s m #[Value.ref b] below meth c H locs cells slots Q (F0 m 1091 ls []) := by
  have hbA : ¬ (fun q : Nat => s.heap.size ≤ q) b := Nat.not_le.mpr hbl
  refine lv_aload_n hx hb dl_1091 rfl (lv_at hl 1 rfl) ?_
  refine lv_aload_n hx hb dl_1092 rfl (lv_at hl 0 rfl) ?_
  refine lv_iload_n hx hb dl_1093 rfl (lv_at hl 3 rfl) ?_
  refine lv_iconst (v := 1) hx hb dl_1094 (by decide) ?_
  refine lv_iadd hx hb dl_1095 ?_
  refine va_sld hx hb hscr hbl hbA (zlaw_S hG hS) (i := nI i + 1) (by rw [show nI i + 1 = nI (i + 1) from nI_add i 1]; exact vp_in_nI (by omega) (by omega)) dl_1096 ?_
  refine lv_aload_n hx hb dl_1097 rfl (lv_at hl 0 rfl) ?_
  refine lv_iload_n hx hb dl_1098 rfl (lv_at hl 3 rfl) ?_
  refine lv_iconst (v := 2) hx hb dl_1099 (by decide) ?_
  refine lv_iadd hx hb dl_1100 ?_
  refine va_sld hx hb hscr hbl hbA (zlaw_S hG hS) (i := nI i + 2) (by rw [show nI i + 2 = nI (i + 2) from nI_add i 2]; exact vp_in_nI (by omega) (by omega)) dl_1101 ?_
  obtain ⟨r, m1, m2, hc0, hc9, ⟨n1, n2, n3, n4⟩, k0, kA, hsim2⟩ := hok (xs (nI i + 1).toNatClampNeg) (xs (nI i + 2).toNatClampNeg) mm hsim
  refine zlaw_call (z := 132) (a := 0) (as := [.int (xs (nI i + 1).toNatClampNeg), .int (xs (nI i + 2).toNatClampNeg)]) (rest := []) hx hb hml hown hw hT hX hS hl.1 (by decide) (by decide +kernel) (by rw [k0, show zMc 132 = 11 by decide +kernel]) hc0 n1 n2 (Nat.le_of_ble_eq_true (by simp only [Value.category, List.map, List.sum_cons, List.sum_nil]; decide +kernel)) (by rw [show zNp 132 = 2 by decide +kernel]; rfl) rfl (by decide) hc1 hs1 dl_1102 (fun H locs hS1 => ?_)
  refine W.eq (g2 := F0 m 1105 ls [.int r]) rfl ?_
  refine lv_aload_n hx hb dl_1105 rfl (lv_at hl 2 rfl) ?_
  refine lv_aload_n hx hb dl_1106 rfl (lv_at hl 0 rfl) ?_
  refine lv_iload_n hx hb dl_1107 rfl (lv_at hl 3 rfl) ?_
  refine lv_iconst (v := 1) hx hb dl_1108 (by decide) ?_
  refine lv_iadd hx hb dl_1109 ?_
  refine va_sld hx hb hscr hbl hbA (zlaw_S hG hS1) (i := nI i + 1) (by rw [show nI i + 1 = nI (i + 1) from nI_add i 1]; exact vp_in_nI (by omega) (by omega)) dl_1110 ?_
  refine lv_aload_n hx hb dl_1111 rfl (lv_at hl 0 rfl) ?_
  refine lv_iload_n hx hb dl_1112 rfl (lv_at hl 3 rfl) ?_
  refine lv_iconst (v := 2) hx hb dl_1113 (by decide) ?_
  refine lv_iadd hx hb dl_1114 ?_
  refine va_sld hx hb hscr hbl hbA (zlaw_S hG hS1) (i := nI i + 2) (by rw [show nI i + 2 = nI (i + 2) from nI_add i 2]; exact vp_in_nI (by omega) (by omega)) dl_1115 ?_
  refine zlaw_call (z := 297) (a := A) (as := [.int (xs (nI i + 1).toNatClampNeg), .int (xs (nI i + 2).toNatClampNeg)]) (rest := [.int r]) hx hb hml hown hw hT hX hS1 hl.1 (by decide) (by decide +kernel) (by rw [kA, show zMc 297 = 12 by decide +kernel]) hc9 n3 n4 (Nat.le_of_ble_eq_true (by simp only [Value.category, List.map, List.sum_cons, List.sum_nil]; decide +kernel)) (by rw [show zNp 297 = 2 by decide +kernel]; rfl) rfl (by simp [Value.category]) hc1 hs1 dl_1116 (fun H locs hS2 => ?_)
  refine W.eq (g2 := F0 m 1119 ls [.int r, .int r]) rfl ?_
  exact lv_icmp_eq (tgt := 1727) hx hb dl_1119 (by decide) (fun _ => kk m2 H locs hS2 hsim2) (fun q => absurd rfl q)
set_option maxHeartbeats 4000000 in
theorem law_c27 (hx : p.tables.exec = Jvm.exec) (hb : c.code = code) (hml : c.maxLocals = 4) (hown : s.vm.findClass R_law = some m.cls) (hw : ∀ w ∈ zTw, w.before #[Value.ref b] s = true) (hT : zTab G s) (hX : zStr G s) (hG : G.1 = s.heap.size) (hscr : va_X b L xs s s.heap) (hbl : b < s.heap.size) (hL : L ≤ 3072) {A cells slots i : Nat} {Sim : zMem → Prop} {mm : zMem} {H : Heap} {locs : List Loc} {ls : Array Slot} (hc1 : cells ≤ room_1.cells) (hs1 : slots ≤ room_1.slots) (hS : zSt G s.heap mm H locs) (hsim : Sim mm) (hl : lv_has ls 4 [(0, .ref b), (1, .ref (G.1 + 0)), (2, .ref (G.1 + A)), (3, .int (nI i))]) (hi : i + 6 ≤ L) (hok : ∀ (y0 : Int32) (y1 : Int32), zOkI Sim A 140 303 [.int y0, .int y1]) (kk : ∀ (m2 : zMem) (H2 : Heap) (locs2 : List Loc), zSt G s.heap m2 H2 locs2 → Sim m2 → W p l e room_1 s m #[Value.ref b] below meth c H2 locs2 cells slots Q (F0 m 1727 ls [])) : W p l e room_1 s m #[Value.ref b] below meth c H locs cells slots Q (F0 m 1124 ls []) := by
  have hbA : ¬ (fun q : Nat => s.heap.size ≤ q) b := Nat.not_le.mpr hbl
  refine lv_aload_n hx hb dl_1124 rfl (lv_at hl 1 rfl) ?_
  refine lv_aload_n hx hb dl_1125 rfl (lv_at hl 0 rfl) ?_
  refine lv_iload_n hx hb dl_1126 rfl (lv_at hl 3 rfl) ?_
  refine lv_iconst (v := 1) hx hb dl_1127 (by decide) ?_
  refine lv_iadd hx hb dl_1128 ?_
  refine va_sld hx hb hscr hbl hbA (zlaw_S hG hS) (i := nI i + 1) (by rw [show nI i + 1 = nI (i + 1) from nI_add i 1]; exact vp_in_nI (by omega) (by omega)) dl_1129 ?_
  refine lv_aload_n hx hb dl_1130 rfl (lv_at hl 0 rfl) ?_
  refine lv_iload_n hx hb dl_1131 rfl (lv_at hl 3 rfl) ?_
  refine lv_iconst (v := 2) hx hb dl_1132 (by decide) ?_
  refine lv_iadd hx hb dl_1133 ?_
  refine va_sld hx hb hscr hbl hbA (zlaw_S hG hS) (i := nI i + 2) (by rw [show nI i + 2 = nI (i + 2) from nI_add i 2]; exact vp_in_nI (by omega) (by omega)) dl_1134 ?_
  obtain ⟨r, m1, m2, hc0, hc9, ⟨n1, n2, n3, n4⟩, k0, kA, hsim2⟩ := hok (xs (nI i + 1).toNatClampNeg) (xs (nI i + 2).toNatClampNeg) mm hsim
  refine zlaw_call (z := 140) (a := 0) (as := [.int (xs (nI i + 1).toNatClampNeg), .int (xs (nI i + 2).toNatClampNeg)]) (rest := []) hx hb hml hown hw hT hX hS hl.1 (by decide) (by decide +kernel) (by rw [k0, show zMc 140 = 11 by decide +kernel]) hc0 n1 n2 (Nat.le_of_ble_eq_true (by simp only [Value.category, List.map, List.sum_cons, List.sum_nil]; decide +kernel)) (by rw [show zNp 140 = 2 by decide +kernel]; rfl) rfl (by decide) hc1 hs1 dl_1135 (fun H locs hS1 => ?_)
  refine W.eq (g2 := F0 m 1138 ls [.int r]) rfl ?_
  refine lv_aload_n hx hb dl_1138 rfl (lv_at hl 2 rfl) ?_
  refine lv_aload_n hx hb dl_1139 rfl (lv_at hl 0 rfl) ?_
  refine lv_iload_n hx hb dl_1140 rfl (lv_at hl 3 rfl) ?_
  refine lv_iconst (v := 1) hx hb dl_1141 (by decide) ?_
  refine lv_iadd hx hb dl_1142 ?_
  refine va_sld hx hb hscr hbl hbA (zlaw_S hG hS1) (i := nI i + 1) (by rw [show nI i + 1 = nI (i + 1) from nI_add i 1]; exact vp_in_nI (by omega) (by omega)) dl_1143 ?_
  refine lv_aload_n hx hb dl_1144 rfl (lv_at hl 0 rfl) ?_
  refine lv_iload_n hx hb dl_1145 rfl (lv_at hl 3 rfl) ?_
  refine lv_iconst (v := 2) hx hb dl_1146 (by decide) ?_
  refine lv_iadd hx hb dl_1147 ?_
  refine va_sld hx hb hscr hbl hbA (zlaw_S hG hS1) (i := nI i + 2) (by rw [show nI i + 2 = nI (i + 2) from nI_add i 2]; exact vp_in_nI (by omega) (by omega)) dl_1148 ?_
  refine zlaw_call (z := 303) (a := A) (as := [.int (xs (nI i + 1).toNatClampNeg), .int (xs (nI i + 2).toNatClampNeg)]) (rest := [.int r]) hx hb hml hown hw hT hX hS1 hl.1 (by decide) (by decide +kernel) (by rw [kA, show zMc 303 = 12 by decide +kernel]) hc9 n3 n4 (Nat.le_of_ble_eq_true (by simp only [Value.category, List.map, List.sum_cons, List.sum_nil]; decide +kernel)) (by rw [show zNp 303 = 2 by decide +kernel]; rfl) rfl (by simp [Value.category]) hc1 hs1 dl_1149 (fun H locs hS2 => ?_)
  refine W.eq (g2 := F0 m 1152 ls [.int r, .int r]) rfl ?_
  exact lv_icmp_eq (tgt := 1727) hx hb dl_1152 (by decide) (fun _ => kk m2 H locs hS2 hsim2) (fun q => absurd rfl q)
set_option maxHeartbeats 4000000 in
theorem law_c28 (hx : p.tables.exec = Jvm.exec) (hb : c.code = code) (hml : c.maxLocals = 4) (hown : s.vm.findClass R_law = some m.cls) (hw : ∀ w ∈ zTw, w.before #[Value.ref b] s = true) (hT : zTab G s) (hX : zStr G s) (hG : G.1 = s.heap.size) (hscr : va_X b L xs s s.heap) (hbl : b < s.heap.size) (hL : L ≤ 3072) {A cells slots i : Nat} {Sim : zMem → Prop} {mm : zMem} {H : Heap} {locs : List Loc} {ls : Array Slot} (hc1 : cells ≤ room_1.cells) (hs1 : slots ≤ room_1.slots) (hS : zSt G s.heap mm H locs) (hsim : Sim mm) (hl : lv_has ls 4 [(0, .ref b), (1, .ref (G.1 + 0)), (2, .ref (G.1 + A)), (3, .int (nI i))]) (hi : i + 6 ≤ L) (hok : ∀ (y0 : Int32) (y1 : Int32) (y2 : Int32), zOkI Sim A 141 304 [.int y0, .int y1, .int y2]) (kk : ∀ (m2 : zMem) (H2 : Heap) (locs2 : List Loc), zSt G s.heap m2 H2 locs2 → Sim m2 → W p l e room_1 s m #[Value.ref b] below meth c H2 locs2 cells slots Q (F0 m 1727 ls [])) : W p l e room_1 s m #[Value.ref b] below meth c H locs cells slots Q (F0 m 1157 ls []) := by
  have hbA : ¬ (fun q : Nat => s.heap.size ≤ q) b := Nat.not_le.mpr hbl
  refine lv_aload_n hx hb dl_1157 rfl (lv_at hl 1 rfl) ?_
  refine lv_aload_n hx hb dl_1158 rfl (lv_at hl 0 rfl) ?_
  refine lv_iload_n hx hb dl_1159 rfl (lv_at hl 3 rfl) ?_
  refine lv_iconst (v := 1) hx hb dl_1160 (by decide) ?_
  refine lv_iadd hx hb dl_1161 ?_
  refine va_sld hx hb hscr hbl hbA (zlaw_S hG hS) (i := nI i + 1) (by rw [show nI i + 1 = nI (i + 1) from nI_add i 1]; exact vp_in_nI (by omega) (by omega)) dl_1162 ?_
  refine lv_aload_n hx hb dl_1163 rfl (lv_at hl 0 rfl) ?_
  refine lv_iload_n hx hb dl_1164 rfl (lv_at hl 3 rfl) ?_
  refine lv_iconst (v := 2) hx hb dl_1165 (by decide) ?_
  refine lv_iadd hx hb dl_1166 ?_
  refine va_sld hx hb hscr hbl hbA (zlaw_S hG hS) (i := nI i + 2) (by rw [show nI i + 2 = nI (i + 2) from nI_add i 2]; exact vp_in_nI (by omega) (by omega)) dl_1167 ?_
  refine lv_aload_n hx hb dl_1168 rfl (lv_at hl 0 rfl) ?_
  refine lv_iload_n hx hb dl_1169 rfl (lv_at hl 3 rfl) ?_
  refine lv_iconst (v := 3) hx hb dl_1170 (by decide) ?_
  refine lv_iadd hx hb dl_1171 ?_
  refine va_sld hx hb hscr hbl hbA (zlaw_S hG hS) (i := nI i + 3) (by rw [show nI i + 3 = nI (i + 3) from nI_add i 3]; exact vp_in_nI (by omega) (by omega)) dl_1172 ?_
  obtain ⟨r, m1, m2, hc0, hc9, ⟨n1, n2, n3, n4⟩, k0, kA, hsim2⟩ := hok (xs (nI i + 1).toNatClampNeg) (xs (nI i + 2).toNatClampNeg) (xs (nI i + 3).toNatClampNeg) mm hsim
  refine zlaw_call (z := 141) (a := 0) (as := [.int (xs (nI i + 1).toNatClampNeg), .int (xs (nI i + 2).toNatClampNeg), .int (xs (nI i + 3).toNatClampNeg)]) (rest := []) hx hb hml hown hw hT hX hS hl.1 (by decide) (by decide +kernel) (by rw [k0, show zMc 141 = 11 by decide +kernel]) hc0 n1 n2 (Nat.le_of_ble_eq_true (by simp only [Value.category, List.map, List.sum_cons, List.sum_nil]; decide +kernel)) (by rw [show zNp 141 = 3 by decide +kernel]; rfl) rfl (by decide) hc1 hs1 dl_1173 (fun H locs hS1 => ?_)
  refine W.eq (g2 := F0 m 1176 ls [.int r]) rfl ?_
  refine lv_aload_n hx hb dl_1176 rfl (lv_at hl 2 rfl) ?_
  refine lv_aload_n hx hb dl_1177 rfl (lv_at hl 0 rfl) ?_
  refine lv_iload_n hx hb dl_1178 rfl (lv_at hl 3 rfl) ?_
  refine lv_iconst (v := 1) hx hb dl_1179 (by decide) ?_
  refine lv_iadd hx hb dl_1180 ?_
  refine va_sld hx hb hscr hbl hbA (zlaw_S hG hS1) (i := nI i + 1) (by rw [show nI i + 1 = nI (i + 1) from nI_add i 1]; exact vp_in_nI (by omega) (by omega)) dl_1181 ?_
  refine lv_aload_n hx hb dl_1182 rfl (lv_at hl 0 rfl) ?_
  refine lv_iload_n hx hb dl_1183 rfl (lv_at hl 3 rfl) ?_
  refine lv_iconst (v := 2) hx hb dl_1184 (by decide) ?_
  refine lv_iadd hx hb dl_1185 ?_
  refine va_sld hx hb hscr hbl hbA (zlaw_S hG hS1) (i := nI i + 2) (by rw [show nI i + 2 = nI (i + 2) from nI_add i 2]; exact vp_in_nI (by omega) (by omega)) dl_1186 ?_
  refine lv_aload_n hx hb dl_1187 rfl (lv_at hl 0 rfl) ?_
  refine lv_iload_n hx hb dl_1188 rfl (lv_at hl 3 rfl) ?_
  refine lv_iconst (v := 3) hx hb dl_1189 (by decide) ?_
  refine lv_iadd hx hb dl_1190 ?_
  refine va_sld hx hb hscr hbl hbA (zlaw_S hG hS1) (i := nI i + 3) (by rw [show nI i + 3 = nI (i + 3) from nI_add i 3]; exact vp_in_nI (by omega) (by omega)) dl_1191 ?_
  refine zlaw_call (z := 304) (a := A) (as := [.int (xs (nI i + 1).toNatClampNeg), .int (xs (nI i + 2).toNatClampNeg), .int (xs (nI i + 3).toNatClampNeg)]) (rest := [.int r]) hx hb hml hown hw hT hX hS1 hl.1 (by decide) (by decide +kernel) (by rw [kA, show zMc 304 = 12 by decide +kernel]) hc9 n3 n4 (Nat.le_of_ble_eq_true (by simp only [Value.category, List.map, List.sum_cons, List.sum_nil]; decide +kernel)) (by rw [show zNp 304 = 3 by decide +kernel]; rfl) rfl (by simp [Value.category]) hc1 hs1 dl_1192 (fun H locs hS2 => ?_)
  refine W.eq (g2 := F0 m 1195 ls [.int r, .int r]) rfl ?_
  exact lv_icmp_eq (tgt := 1727) hx hb dl_1195 (by decide) (fun _ => kk m2 H locs hS2 hsim2) (fun q => absurd rfl q)
set_option maxHeartbeats 4000000 in
theorem law_c29 (hx : p.tables.exec = Jvm.exec) (hb : c.code = code) (hml : c.maxLocals = 4) (hown : s.vm.findClass R_law = some m.cls) (hw : ∀ w ∈ zTw, w.before #[Value.ref b] s = true) (hT : zTab G s) (hX : zStr G s) (hG : G.1 = s.heap.size) (hscr : va_X b L xs s s.heap) (hbl : b < s.heap.size) (hL : L ≤ 3072) {A cells slots i : Nat} {Sim : zMem → Prop} {mm : zMem} {H : Heap} {locs : List Loc} {ls : Array Slot} (hc1 : cells ≤ room_1.cells) (hs1 : slots ≤ room_1.slots) (hS : zSt G s.heap mm H locs) (hsim : Sim mm) (hl : lv_has ls 4 [(0, .ref b), (1, .ref (G.1 + 0)), (2, .ref (G.1 + A)), (3, .int (nI i))]) (hi : i + 6 ≤ L) (hok : ∀ (y0 : Int32), zOkI Sim A 143 305 [.int y0]) (kk : ∀ (m2 : zMem) (H2 : Heap) (locs2 : List Loc), zSt G s.heap m2 H2 locs2 → Sim m2 → W p l e room_1 s m #[Value.ref b] below meth c H2 locs2 cells slots Q (F0 m 1727 ls [])) : W p l e room_1 s m #[Value.ref b] below meth c H locs cells slots Q (F0 m 1200 ls []) := by
  have hbA : ¬ (fun q : Nat => s.heap.size ≤ q) b := Nat.not_le.mpr hbl
  refine lv_aload_n hx hb dl_1200 rfl (lv_at hl 1 rfl) ?_
  refine lv_aload_n hx hb dl_1201 rfl (lv_at hl 0 rfl) ?_
  refine lv_iload_n hx hb dl_1202 rfl (lv_at hl 3 rfl) ?_
  refine lv_iconst (v := 1) hx hb dl_1203 (by decide) ?_
  refine lv_iadd hx hb dl_1204 ?_
  refine va_sld hx hb hscr hbl hbA (zlaw_S hG hS) (i := nI i + 1) (by rw [show nI i + 1 = nI (i + 1) from nI_add i 1]; exact vp_in_nI (by omega) (by omega)) dl_1205 ?_
  obtain ⟨r, m1, m2, hc0, hc9, ⟨n1, n2, n3, n4⟩, k0, kA, hsim2⟩ := hok (xs (nI i + 1).toNatClampNeg) mm hsim
  refine zlaw_call (z := 143) (a := 0) (as := [.int (xs (nI i + 1).toNatClampNeg)]) (rest := []) hx hb hml hown hw hT hX hS hl.1 (by decide) (by decide +kernel) (by rw [k0, show zMc 143 = 11 by decide +kernel]) hc0 n1 n2 (Nat.le_of_ble_eq_true (by simp only [Value.category, List.map, List.sum_cons, List.sum_nil]; decide +kernel)) (by rw [show zNp 143 = 1 by decide +kernel]; rfl) rfl (by decide) hc1 hs1 dl_1206 (fun H locs hS1 => ?_)
  refine W.eq (g2 := F0 m 1209 ls [.int r]) rfl ?_
  refine lv_aload_n hx hb dl_1209 rfl (lv_at hl 2 rfl) ?_
  refine lv_aload_n hx hb dl_1210 rfl (lv_at hl 0 rfl) ?_
  refine lv_iload_n hx hb dl_1211 rfl (lv_at hl 3 rfl) ?_
  refine lv_iconst (v := 1) hx hb dl_1212 (by decide) ?_
  refine lv_iadd hx hb dl_1213 ?_
  refine va_sld hx hb hscr hbl hbA (zlaw_S hG hS1) (i := nI i + 1) (by rw [show nI i + 1 = nI (i + 1) from nI_add i 1]; exact vp_in_nI (by omega) (by omega)) dl_1214 ?_
  refine zlaw_call (z := 305) (a := A) (as := [.int (xs (nI i + 1).toNatClampNeg)]) (rest := [.int r]) hx hb hml hown hw hT hX hS1 hl.1 (by decide) (by decide +kernel) (by rw [kA, show zMc 305 = 12 by decide +kernel]) hc9 n3 n4 (Nat.le_of_ble_eq_true (by simp only [Value.category, List.map, List.sum_cons, List.sum_nil]; decide +kernel)) (by rw [show zNp 305 = 1 by decide +kernel]; rfl) rfl (by simp [Value.category]) hc1 hs1 dl_1215 (fun H locs hS2 => ?_)
  refine W.eq (g2 := F0 m 1218 ls [.int r, .int r]) rfl ?_
  exact lv_icmp_eq (tgt := 1727) hx hb dl_1218 (by decide) (fun _ => kk m2 H locs hS2 hsim2) (fun q => absurd rfl q)
set_option maxHeartbeats 4000000 in
theorem law_c30 (hx : p.tables.exec = Jvm.exec) (hb : c.code = code) (hml : c.maxLocals = 4) (hown : s.vm.findClass R_law = some m.cls) (hw : ∀ w ∈ zTw, w.before #[Value.ref b] s = true) (hT : zTab G s) (hX : zStr G s) (hG : G.1 = s.heap.size) (hscr : va_X b L xs s s.heap) (hbl : b < s.heap.size) (hL : L ≤ 3072) {A cells slots i : Nat} {Sim : zMem → Prop} {mm : zMem} {H : Heap} {locs : List Loc} {ls : Array Slot} (hc1 : cells ≤ room_1.cells) (hs1 : slots ≤ room_1.slots) (hS : zSt G s.heap mm H locs) (hsim : Sim mm) (hl : lv_has ls 4 [(0, .ref b), (1, .ref (G.1 + 0)), (2, .ref (G.1 + A)), (3, .int (nI i))]) (hi : i + 6 ≤ L) (hok : ∀ (y0 : Int32) (y1 : Int32), zOkI Sim A 144 306 [.int y0, .int y1]) (kk : ∀ (m2 : zMem) (H2 : Heap) (locs2 : List Loc), zSt G s.heap m2 H2 locs2 → Sim m2 → W p l e room_1 s m #[Value.ref b] below meth c H2 locs2 cells slots Q (F0 m 1727 ls [])) : W p l e room_1 s m #[Value.ref b] below meth c H locs cells slots Q (F0 m 1223 ls []) := by
  have hbA : ¬ (fun q : Nat => s.heap.size ≤ q) b := Nat.not_le.mpr hbl
  refine lv_aload_n hx hb dl_1223 rfl (lv_at hl 1 rfl) ?_
  refine lv_aload_n hx hb dl_1224 rfl (lv_at hl 0 rfl) ?_
  refine lv_iload_n hx hb dl_1225 rfl (lv_at hl 3 rfl) ?_
  refine lv_iconst (v := 1) hx hb dl_1226 (by decide) ?_
  refine lv_iadd hx hb dl_1227 ?_
  refine va_sld hx hb hscr hbl hbA (zlaw_S hG hS) (i := nI i + 1) (by rw [show nI i + 1 = nI (i + 1) from nI_add i 1]; exact vp_in_nI (by omega) (by omega)) dl_1228 ?_
  refine lv_aload_n hx hb dl_1229 rfl (lv_at hl 0 rfl) ?_
  refine lv_iload_n hx hb dl_1230 rfl (lv_at hl 3 rfl) ?_
  refine lv_iconst (v := 2) hx hb dl_1231 (by decide) ?_
  refine lv_iadd hx hb dl_1232 ?_
  refine va_sld hx hb hscr hbl hbA (zlaw_S hG hS) (i := nI i + 2) (by rw [show nI i + 2 = nI (i + 2) from nI_add i 2]; exact vp_in_nI (by omega) (by omega)) dl_1233 ?_
  obtain ⟨r, m1, m2, hc0, hc9, ⟨n1, n2, n3, n4⟩, k0, kA, hsim2⟩ := hok (xs (nI i + 1).toNatClampNeg) (xs (nI i + 2).toNatClampNeg) mm hsim
  refine zlaw_call (z := 144) (a := 0) (as := [.int (xs (nI i + 1).toNatClampNeg), .int (xs (nI i + 2).toNatClampNeg)]) (rest := []) hx hb hml hown hw hT hX hS hl.1 (by decide) (by decide +kernel) (by rw [k0, show zMc 144 = 11 by decide +kernel]) hc0 n1 n2 (Nat.le_of_ble_eq_true (by simp only [Value.category, List.map, List.sum_cons, List.sum_nil]; decide +kernel)) (by rw [show zNp 144 = 2 by decide +kernel]; rfl) rfl (by decide) hc1 hs1 dl_1234 (fun H locs hS1 => ?_)
  refine W.eq (g2 := F0 m 1237 ls [.int r]) rfl ?_
  refine lv_aload_n hx hb dl_1237 rfl (lv_at hl 2 rfl) ?_
  refine lv_aload_n hx hb dl_1238 rfl (lv_at hl 0 rfl) ?_
  refine lv_iload_n hx hb dl_1239 rfl (lv_at hl 3 rfl) ?_
  refine lv_iconst (v := 1) hx hb dl_1240 (by decide) ?_
  refine lv_iadd hx hb dl_1241 ?_
  refine va_sld hx hb hscr hbl hbA (zlaw_S hG hS1) (i := nI i + 1) (by rw [show nI i + 1 = nI (i + 1) from nI_add i 1]; exact vp_in_nI (by omega) (by omega)) dl_1242 ?_
  refine lv_aload_n hx hb dl_1243 rfl (lv_at hl 0 rfl) ?_
  refine lv_iload_n hx hb dl_1244 rfl (lv_at hl 3 rfl) ?_
  refine lv_iconst (v := 2) hx hb dl_1245 (by decide) ?_
  refine lv_iadd hx hb dl_1246 ?_
  refine va_sld hx hb hscr hbl hbA (zlaw_S hG hS1) (i := nI i + 2) (by rw [show nI i + 2 = nI (i + 2) from nI_add i 2]; exact vp_in_nI (by omega) (by omega)) dl_1247 ?_
  refine zlaw_call (z := 306) (a := A) (as := [.int (xs (nI i + 1).toNatClampNeg), .int (xs (nI i + 2).toNatClampNeg)]) (rest := [.int r]) hx hb hml hown hw hT hX hS1 hl.1 (by decide) (by decide +kernel) (by rw [kA, show zMc 306 = 12 by decide +kernel]) hc9 n3 n4 (Nat.le_of_ble_eq_true (by simp only [Value.category, List.map, List.sum_cons, List.sum_nil]; decide +kernel)) (by rw [show zNp 306 = 2 by decide +kernel]; rfl) rfl (by simp [Value.category]) hc1 hs1 dl_1248 (fun H locs hS2 => ?_)
  refine W.eq (g2 := F0 m 1251 ls [.int r, .int r]) rfl ?_
  exact lv_icmp_eq (tgt := 1727) hx hb dl_1251 (by decide) (fun _ => kk m2 H locs hS2 hsim2) (fun q => absurd rfl q)
set_option maxHeartbeats 4000000 in
theorem law_c31 (hx : p.tables.exec = Jvm.exec) (hb : c.code = code) (hml : c.maxLocals = 4) (hown : s.vm.findClass R_law = some m.cls) (hw : ∀ w ∈ zTw, w.before #[Value.ref b] s = true) (hT : zTab G s) (hX : zStr G s) (hG : G.1 = s.heap.size) (hscr : va_X b L xs s s.heap) (hbl : b < s.heap.size) (hL : L ≤ 3072) {A cells slots i : Nat} {Sim : zMem → Prop} {mm : zMem} {H : Heap} {locs : List Loc} {ls : Array Slot} (hc1 : cells ≤ room_1.cells) (hs1 : slots ≤ room_1.slots) (hS : zSt G s.heap mm H locs) (hsim : Sim mm) (hl : lv_has ls 4 [(0, .ref b), (1, .ref (G.1 + 0)), (2, .ref (G.1 + A)), (3, .int (nI i))]) (hi : i + 6 ≤ L) (hok : ∀ (y0 : Int32) (y1 : Int32) (y2 : Int32), zOkI Sim A 149 311 [.int y0, .int y1, .int y2]) (kk : ∀ (m2 : zMem) (H2 : Heap) (locs2 : List Loc), zSt G s.heap m2 H2 locs2 → Sim m2 → W p l e room_1 s m #[Value.ref b] below meth c H2 locs2 cells slots Q (F0 m 1727 ls [])) : W p l e room_1 s m #[Value.ref b] below meth c H locs cells slots Q (F0 m 1256 ls []) := by
  have hbA : ¬ (fun q : Nat => s.heap.size ≤ q) b := Nat.not_le.mpr hbl
  refine lv_aload_n hx hb dl_1256 rfl (lv_at hl 1 rfl) ?_
  refine lv_aload_n hx hb dl_1257 rfl (lv_at hl 0 rfl) ?_
  refine lv_iload_n hx hb dl_1258 rfl (lv_at hl 3 rfl) ?_
  refine lv_iconst (v := 1) hx hb dl_1259 (by decide) ?_
  refine lv_iadd hx hb dl_1260 ?_
  refine va_sld hx hb hscr hbl hbA (zlaw_S hG hS) (i := nI i + 1) (by rw [show nI i + 1 = nI (i + 1) from nI_add i 1]; exact vp_in_nI (by omega) (by omega)) dl_1261 ?_
  refine lv_aload_n hx hb dl_1262 rfl (lv_at hl 0 rfl) ?_
  refine lv_iload_n hx hb dl_1263 rfl (lv_at hl 3 rfl) ?_
  refine lv_iconst (v := 2) hx hb dl_1264 (by decide) ?_
  refine lv_iadd hx hb dl_1265 ?_
  refine va_sld hx hb hscr hbl hbA (zlaw_S hG hS) (i := nI i + 2) (by rw [show nI i + 2 = nI (i + 2) from nI_add i 2]; exact vp_in_nI (by omega) (by omega)) dl_1266 ?_
  refine lv_aload_n hx hb dl_1267 rfl (lv_at hl 0 rfl) ?_
  refine lv_iload_n hx hb dl_1268 rfl (lv_at hl 3 rfl) ?_
  refine lv_iconst (v := 3) hx hb dl_1269 (by decide) ?_
  refine lv_iadd hx hb dl_1270 ?_
  refine va_sld hx hb hscr hbl hbA (zlaw_S hG hS) (i := nI i + 3) (by rw [show nI i + 3 = nI (i + 3) from nI_add i 3]; exact vp_in_nI (by omega) (by omega)) dl_1271 ?_
  obtain ⟨r, m1, m2, hc0, hc9, ⟨n1, n2, n3, n4⟩, k0, kA, hsim2⟩ := hok (xs (nI i + 1).toNatClampNeg) (xs (nI i + 2).toNatClampNeg) (xs (nI i + 3).toNatClampNeg) mm hsim
  refine zlaw_call (z := 149) (a := 0) (as := [.int (xs (nI i + 1).toNatClampNeg), .int (xs (nI i + 2).toNatClampNeg), .int (xs (nI i + 3).toNatClampNeg)]) (rest := []) hx hb hml hown hw hT hX hS hl.1 (by decide) (by decide +kernel) (by rw [k0, show zMc 149 = 11 by decide +kernel]) hc0 n1 n2 (Nat.le_of_ble_eq_true (by simp only [Value.category, List.map, List.sum_cons, List.sum_nil]; decide +kernel)) (by rw [show zNp 149 = 3 by decide +kernel]; rfl) rfl (by decide) hc1 hs1 dl_1272 (fun H locs hS1 => ?_)
  refine W.eq (g2 := F0 m 1275 ls [.int r]) rfl ?_
  refine lv_aload_n hx hb dl_1275 rfl (lv_at hl 2 rfl) ?_
  refine lv_aload_n hx hb dl_1276 rfl (lv_at hl 0 rfl) ?_
  refine lv_iload_n hx hb dl_1277 rfl (lv_at hl 3 rfl) ?_
  refine lv_iconst (v := 1) hx hb dl_1278 (by decide) ?_
  refine lv_iadd hx hb dl_1279 ?_
  refine va_sld hx hb hscr hbl hbA (zlaw_S hG hS1) (i := nI i + 1) (by rw [show nI i + 1 = nI (i + 1) from nI_add i 1]; exact vp_in_nI (by omega) (by omega)) dl_1280 ?_
  refine lv_aload_n hx hb dl_1281 rfl (lv_at hl 0 rfl) ?_
  refine lv_iload_n hx hb dl_1282 rfl (lv_at hl 3 rfl) ?_
  refine lv_iconst (v := 2) hx hb dl_1283 (by decide) ?_
  refine lv_iadd hx hb dl_1284 ?_
  refine va_sld hx hb hscr hbl hbA (zlaw_S hG hS1) (i := nI i + 2) (by rw [show nI i + 2 = nI (i + 2) from nI_add i 2]; exact vp_in_nI (by omega) (by omega)) dl_1285 ?_
  refine lv_aload_n hx hb dl_1286 rfl (lv_at hl 0 rfl) ?_
  refine lv_iload_n hx hb dl_1287 rfl (lv_at hl 3 rfl) ?_
  refine lv_iconst (v := 3) hx hb dl_1288 (by decide) ?_
  refine lv_iadd hx hb dl_1289 ?_
  refine va_sld hx hb hscr hbl hbA (zlaw_S hG hS1) (i := nI i + 3) (by rw [show nI i + 3 = nI (i + 3) from nI_add i 3]; exact vp_in_nI (by omega) (by omega)) dl_1290 ?_
  refine zlaw_call (z := 311) (a := A) (as := [.int (xs (nI i + 1).toNatClampNeg), .int (xs (nI i + 2).toNatClampNeg), .int (xs (nI i + 3).toNatClampNeg)]) (rest := [.int r]) hx hb hml hown hw hT hX hS1 hl.1 (by decide) (by decide +kernel) (by rw [kA, show zMc 311 = 12 by decide +kernel]) hc9 n3 n4 (Nat.le_of_ble_eq_true (by simp only [Value.category, List.map, List.sum_cons, List.sum_nil]; decide +kernel)) (by rw [show zNp 311 = 3 by decide +kernel]; rfl) rfl (by simp [Value.category]) hc1 hs1 dl_1291 (fun H locs hS2 => ?_)
  refine W.eq (g2 := F0 m 1294 ls [.int r, .int r]) rfl ?_
  exact lv_icmp_eq (tgt := 1727) hx hb dl_1294 (by decide) (fun _ => kk m2 H locs hS2 hsim2) (fun q => absurd rfl q)
set_option maxHeartbeats 4000000 in
theorem law_c32 (hx : p.tables.exec = Jvm.exec) (hb : c.code = code) (hml : c.maxLocals = 4) (hown : s.vm.findClass R_law = some m.cls) (hw : ∀ w ∈ zTw, w.before #[Value.ref b] s = true) (hT : zTab G s) (hX : zStr G s) (hG : G.1 = s.heap.size) (hscr : va_X b L xs s s.heap) (hbl : b < s.heap.size) (hL : L ≤ 3072) {A cells slots i : Nat} {Sim : zMem → Prop} {mm : zMem} {H : Heap} {locs : List Loc} {ls : Array Slot} (hc1 : cells ≤ room_1.cells) (hs1 : slots ≤ room_1.slots) (hS : zSt G s.heap mm H locs) (hsim : Sim mm) (hl : lv_has ls 4 [(0, .ref b), (1, .ref (G.1 + 0)), (2, .ref (G.1 + A)), (3, .int (nI i))]) (hi : i + 6 ≤ L) (hok : ∀ (y0 : Int32) (y1 : Int32), zOkI Sim A 150 312 [.int y0, .int y1]) (kk : ∀ (m2 : zMem) (H2 : Heap) (locs2 : List Loc), zSt G s.heap m2 H2 locs2 → Sim m2 → W p l e room_1 s m #[Value.ref b] below meth c H2 locs2 cells slots Q (F0 m 1727 ls [])) : W p l e room_1 s m #[Value.ref b] below meth c H locs cells slots Q (F0 m 1299 ls []) := by
  have hbA : ¬ (fun q : Nat => s.heap.size ≤ q) b := Nat.not_le.mpr hbl
  refine lv_aload_n hx hb dl_1299 rfl (lv_at hl 1 rfl) ?_
  refine lv_aload_n hx hb dl_1300 rfl (lv_at hl 0 rfl) ?_
  refine lv_iload_n hx hb dl_1301 rfl (lv_at hl 3 rfl) ?_
  refine lv_iconst (v := 1) hx hb dl_1302 (by decide) ?_
  refine lv_iadd hx hb dl_1303 ?_
  refine va_sld hx hb hscr hbl hbA (zlaw_S hG hS) (i := nI i + 1) (by rw [show nI i + 1 = nI (i + 1) from nI_add i 1]; exact vp_in_nI (by omega) (by omega)) dl_1304 ?_
  refine lv_aload_n hx hb dl_1305 rfl (lv_at hl 0 rfl) ?_
  refine lv_iload_n hx hb dl_1306 rfl (lv_at hl 3 rfl) ?_
  refine lv_iconst (v := 2) hx hb dl_1307 (by decide) ?_
  refine lv_iadd hx hb dl_1308 ?_
  refine va_sld hx hb hscr hbl hbA (zlaw_S hG hS) (i := nI i + 2) (by rw [show nI i + 2 = nI (i + 2) from nI_add i 2]; exact vp_in_nI (by omega) (by omega)) dl_1309 ?_
  obtain ⟨r, m1, m2, hc0, hc9, ⟨n1, n2, n3, n4⟩, k0, kA, hsim2⟩ := hok (xs (nI i + 1).toNatClampNeg) (xs (nI i + 2).toNatClampNeg) mm hsim
  refine zlaw_call (z := 150) (a := 0) (as := [.int (xs (nI i + 1).toNatClampNeg), .int (xs (nI i + 2).toNatClampNeg)]) (rest := []) hx hb hml hown hw hT hX hS hl.1 (by decide) (by decide +kernel) (by rw [k0, show zMc 150 = 11 by decide +kernel]) hc0 n1 n2 (Nat.le_of_ble_eq_true (by simp only [Value.category, List.map, List.sum_cons, List.sum_nil]; decide +kernel)) (by rw [show zNp 150 = 2 by decide +kernel]; rfl) rfl (by decide) hc1 hs1 dl_1310 (fun H locs hS1 => ?_)
  refine W.eq (g2 := F0 m 1313 ls [.int r]) rfl ?_
  refine lv_aload_n hx hb dl_1313 rfl (lv_at hl 2 rfl) ?_
  refine lv_aload_n hx hb dl_1314 rfl (lv_at hl 0 rfl) ?_
  refine lv_iload_n hx hb dl_1315 rfl (lv_at hl 3 rfl) ?_
  refine lv_iconst (v := 1) hx hb dl_1316 (by decide) ?_
  refine lv_iadd hx hb dl_1317 ?_
  refine va_sld hx hb hscr hbl hbA (zlaw_S hG hS1) (i := nI i + 1) (by rw [show nI i + 1 = nI (i + 1) from nI_add i 1]; exact vp_in_nI (by omega) (by omega)) dl_1318 ?_
  refine lv_aload_n hx hb dl_1319 rfl (lv_at hl 0 rfl) ?_
  refine lv_iload_n hx hb dl_1320 rfl (lv_at hl 3 rfl) ?_
  refine lv_iconst (v := 2) hx hb dl_1321 (by decide) ?_
  refine lv_iadd hx hb dl_1322 ?_
  refine va_sld hx hb hscr hbl hbA (zlaw_S hG hS1) (i := nI i + 2) (by rw [show nI i + 2 = nI (i + 2) from nI_add i 2]; exact vp_in_nI (by omega) (by omega)) dl_1323 ?_
  refine zlaw_call (z := 312) (a := A) (as := [.int (xs (nI i + 1).toNatClampNeg), .int (xs (nI i + 2).toNatClampNeg)]) (rest := [.int r]) hx hb hml hown hw hT hX hS1 hl.1 (by decide) (by decide +kernel) (by rw [kA, show zMc 312 = 12 by decide +kernel]) hc9 n3 n4 (Nat.le_of_ble_eq_true (by simp only [Value.category, List.map, List.sum_cons, List.sum_nil]; decide +kernel)) (by rw [show zNp 312 = 2 by decide +kernel]; rfl) rfl (by simp [Value.category]) hc1 hs1 dl_1324 (fun H locs hS2 => ?_)
  refine W.eq (g2 := F0 m 1327 ls [.int r, .int r]) rfl ?_
  exact lv_icmp_eq (tgt := 1727) hx hb dl_1327 (by decide) (fun _ => kk m2 H locs hS2 hsim2) (fun q => absurd rfl q)
set_option maxHeartbeats 4000000 in
theorem law_c33 (hx : p.tables.exec = Jvm.exec) (hb : c.code = code) (hml : c.maxLocals = 4) (hown : s.vm.findClass R_law = some m.cls) (hw : ∀ w ∈ zTw, w.before #[Value.ref b] s = true) (hT : zTab G s) (hX : zStr G s) (hG : G.1 = s.heap.size) (hscr : va_X b L xs s s.heap) (hbl : b < s.heap.size) (hL : L ≤ 3072) {A cells slots i : Nat} {Sim : zMem → Prop} {mm : zMem} {H : Heap} {locs : List Loc} {ls : Array Slot} (hc1 : cells ≤ room_1.cells) (hs1 : slots ≤ room_1.slots) (hS : zSt G s.heap mm H locs) (hsim : Sim mm) (hl : lv_has ls 4 [(0, .ref b), (1, .ref (G.1 + 0)), (2, .ref (G.1 + A)), (3, .int (nI i))]) (hi : i + 6 ≤ L) (hok : ∀ (y0 : Int32) (y1 : Int32), zOkI Sim A 152 313 [.int y0, .int y1]) (kk : ∀ (m2 : zMem) (H2 : Heap) (locs2 : List Loc), zSt G s.heap m2 H2 locs2 → Sim m2 → W p l e room_1 s m #[Value.ref b] below meth c H2 locs2 cells slots Q (F0 m 1727 ls [])) : W p l e room_1 s m #[Value.ref b] below meth c H locs cells slots Q (F0 m 1332 ls []) := by
  have hbA : ¬ (fun q : Nat => s.heap.size ≤ q) b := Nat.not_le.mpr hbl
  refine lv_aload_n hx hb dl_1332 rfl (lv_at hl 1 rfl) ?_
  refine lv_aload_n hx hb dl_1333 rfl (lv_at hl 0 rfl) ?_
  refine lv_iload_n hx hb dl_1334 rfl (lv_at hl 3 rfl) ?_
  refine lv_iconst (v := 1) hx hb dl_1335 (by decide) ?_
  refine lv_iadd hx hb dl_1336 ?_
  refine va_sld hx hb hscr hbl hbA (zlaw_S hG hS) (i := nI i + 1) (by rw [show nI i + 1 = nI (i + 1) from nI_add i 1]; exact vp_in_nI (by omega) (by omega)) dl_1337 ?_
  refine lv_aload_n hx hb dl_1338 rfl (lv_at hl 0 rfl) ?_
  refine lv_iload_n hx hb dl_1339 rfl (lv_at hl 3 rfl) ?_
  refine lv_iconst (v := 2) hx hb dl_1340 (by decide) ?_
  refine lv_iadd hx hb dl_1341 ?_
  refine va_sld hx hb hscr hbl hbA (zlaw_S hG hS) (i := nI i + 2) (by rw [show nI i + 2 = nI (i + 2) from nI_add i 2]; exact vp_in_nI (by omega) (by omega)) dl_1342 ?_
  obtain ⟨r, m1, m2, hc0, hc9, ⟨n1, n2, n3, n4⟩, k0, kA, hsim2⟩ := hok (xs (nI i + 1).toNatClampNeg) (xs (nI i + 2).toNatClampNeg) mm hsim
  refine zlaw_call (z := 152) (a := 0) (as := [.int (xs (nI i + 1).toNatClampNeg), .int (xs (nI i + 2).toNatClampNeg)]) (rest := []) hx hb hml hown hw hT hX hS hl.1 (by decide) (by decide +kernel) (by rw [k0, show zMc 152 = 11 by decide +kernel]) hc0 n1 n2 (Nat.le_of_ble_eq_true (by simp only [Value.category, List.map, List.sum_cons, List.sum_nil]; decide +kernel)) (by rw [show zNp 152 = 2 by decide +kernel]; rfl) rfl (by decide) hc1 hs1 dl_1343 (fun H locs hS1 => ?_)
  refine W.eq (g2 := F0 m 1346 ls [.int r]) rfl ?_
  refine lv_aload_n hx hb dl_1346 rfl (lv_at hl 2 rfl) ?_
  refine lv_aload_n hx hb dl_1347 rfl (lv_at hl 0 rfl) ?_
  refine lv_iload_n hx hb dl_1348 rfl (lv_at hl 3 rfl) ?_
  refine lv_iconst (v := 1) hx hb dl_1349 (by decide) ?_
  refine lv_iadd hx hb dl_1350 ?_
  refine va_sld hx hb hscr hbl hbA (zlaw_S hG hS1) (i := nI i + 1) (by rw [show nI i + 1 = nI (i + 1) from nI_add i 1]; exact vp_in_nI (by omega) (by omega)) dl_1351 ?_
  refine lv_aload_n hx hb dl_1352 rfl (lv_at hl 0 rfl) ?_
  refine lv_iload_n hx hb dl_1353 rfl (lv_at hl 3 rfl) ?_
  refine lv_iconst (v := 2) hx hb dl_1354 (by decide) ?_
  refine lv_iadd hx hb dl_1355 ?_
  refine va_sld hx hb hscr hbl hbA (zlaw_S hG hS1) (i := nI i + 2) (by rw [show nI i + 2 = nI (i + 2) from nI_add i 2]; exact vp_in_nI (by omega) (by omega)) dl_1356 ?_
  refine zlaw_call (z := 313) (a := A) (as := [.int (xs (nI i + 1).toNatClampNeg), .int (xs (nI i + 2).toNatClampNeg)]) (rest := [.int r]) hx hb hml hown hw hT hX hS1 hl.1 (by decide) (by decide +kernel) (by rw [kA, show zMc 313 = 12 by decide +kernel]) hc9 n3 n4 (Nat.le_of_ble_eq_true (by simp only [Value.category, List.map, List.sum_cons, List.sum_nil]; decide +kernel)) (by rw [show zNp 313 = 2 by decide +kernel]; rfl) rfl (by simp [Value.category]) hc1 hs1 dl_1357 (fun H locs hS2 => ?_)
  refine W.eq (g2 := F0 m 1360 ls [.int r, .int r]) rfl ?_
  exact lv_icmp_eq (tgt := 1727) hx hb dl_1360 (by decide) (fun _ => kk m2 H locs hS2 hsim2) (fun q => absurd rfl q)
set_option maxHeartbeats 4000000 in
theorem law_c34 (hx : p.tables.exec = Jvm.exec) (hb : c.code = code) (hml : c.maxLocals = 4) (hown : s.vm.findClass R_law = some m.cls) (hw : ∀ w ∈ zTw, w.before #[Value.ref b] s = true) (hT : zTab G s) (hX : zStr G s) (hG : G.1 = s.heap.size) (hscr : va_X b L xs s s.heap) (hbl : b < s.heap.size) (hL : L ≤ 3072) {A cells slots i : Nat} {Sim : zMem → Prop} {mm : zMem} {H : Heap} {locs : List Loc} {ls : Array Slot} (hc1 : cells ≤ room_1.cells) (hs1 : slots ≤ room_1.slots) (hS : zSt G s.heap mm H locs) (hsim : Sim mm) (hl : lv_has ls 4 [(0, .ref b), (1, .ref (G.1 + 0)), (2, .ref (G.1 + A)), (3, .int (nI i))]) (hi : i + 6 ≤ L) (hok : ∀ (y0 : Int32), zOkI Sim A 155 315 [.int y0]) (kk : ∀ (m2 : zMem) (H2 : Heap) (locs2 : List Loc), zSt G s.heap m2 H2 locs2 → Sim m2 → W p l e room_1 s m #[Value.ref b] below meth c H2 locs2 cells slots Q (F0 m 1727 ls [])) : W p l e room_1 s m #[Value.ref b] below meth c H locs cells slots Q (F0 m 1365 ls []) := by
  have hbA : ¬ (fun q : Nat => s.heap.size ≤ q) b := Nat.not_le.mpr hbl
  refine lv_aload_n hx hb dl_1365 rfl (lv_at hl 1 rfl) ?_
  refine lv_aload_n hx hb dl_1366 rfl (lv_at hl 0 rfl) ?_
  refine lv_iload_n hx hb dl_1367 rfl (lv_at hl 3 rfl) ?_
  refine lv_iconst (v := 1) hx hb dl_1368 (by decide) ?_
  refine lv_iadd hx hb dl_1369 ?_
  refine va_sld hx hb hscr hbl hbA (zlaw_S hG hS) (i := nI i + 1) (by rw [show nI i + 1 = nI (i + 1) from nI_add i 1]; exact vp_in_nI (by omega) (by omega)) dl_1370 ?_
  obtain ⟨r, m1, m2, hc0, hc9, ⟨n1, n2, n3, n4⟩, k0, kA, hsim2⟩ := hok (xs (nI i + 1).toNatClampNeg) mm hsim
  refine zlaw_call (z := 155) (a := 0) (as := [.int (xs (nI i + 1).toNatClampNeg)]) (rest := []) hx hb hml hown hw hT hX hS hl.1 (by decide) (by decide +kernel) (by rw [k0, show zMc 155 = 11 by decide +kernel]) hc0 n1 n2 (Nat.le_of_ble_eq_true (by simp only [Value.category, List.map, List.sum_cons, List.sum_nil]; decide +kernel)) (by rw [show zNp 155 = 1 by decide +kernel]; rfl) rfl (by decide) hc1 hs1 dl_1371 (fun H locs hS1 => ?_)
  refine W.eq (g2 := F0 m 1374 ls [.int r]) rfl ?_
  refine lv_aload_n hx hb dl_1374 rfl (lv_at hl 2 rfl) ?_
  refine lv_aload_n hx hb dl_1375 rfl (lv_at hl 0 rfl) ?_
  refine lv_iload_n hx hb dl_1376 rfl (lv_at hl 3 rfl) ?_
  refine lv_iconst (v := 1) hx hb dl_1377 (by decide) ?_
  refine lv_iadd hx hb dl_1378 ?_
  refine va_sld hx hb hscr hbl hbA (zlaw_S hG hS1) (i := nI i + 1) (by rw [show nI i + 1 = nI (i + 1) from nI_add i 1]; exact vp_in_nI (by omega) (by omega)) dl_1379 ?_
  refine zlaw_call (z := 315) (a := A) (as := [.int (xs (nI i + 1).toNatClampNeg)]) (rest := [.int r]) hx hb hml hown hw hT hX hS1 hl.1 (by decide) (by decide +kernel) (by rw [kA, show zMc 315 = 12 by decide +kernel]) hc9 n3 n4 (Nat.le_of_ble_eq_true (by simp only [Value.category, List.map, List.sum_cons, List.sum_nil]; decide +kernel)) (by rw [show zNp 315 = 1 by decide +kernel]; rfl) rfl (by simp [Value.category]) hc1 hs1 dl_1380 (fun H locs hS2 => ?_)
  refine W.eq (g2 := F0 m 1383 ls [.int r, .int r]) rfl ?_
  exact lv_icmp_eq (tgt := 1727) hx hb dl_1383 (by decide) (fun _ => kk m2 H locs hS2 hsim2) (fun q => absurd rfl q)
set_option maxHeartbeats 4000000 in
theorem law_c35 (hx : p.tables.exec = Jvm.exec) (hb : c.code = code) (hml : c.maxLocals = 4) (hown : s.vm.findClass R_law = some m.cls) (hw : ∀ w ∈ zTw, w.before #[Value.ref b] s = true) (hT : zTab G s) (hX : zStr G s) (hG : G.1 = s.heap.size) (hscr : va_X b L xs s s.heap) (hbl : b < s.heap.size) (hL : L ≤ 3072) {A cells slots i : Nat} {Sim : zMem → Prop} {mm : zMem} {H : Heap} {locs : List Loc} {ls : Array Slot} (hc1 : cells ≤ room_1.cells) (hs1 : slots ≤ room_1.slots) (hS : zSt G s.heap mm H locs) (hsim : Sim mm) (hl : lv_has ls 4 [(0, .ref b), (1, .ref (G.1 + 0)), (2, .ref (G.1 + A)), (3, .int (nI i))]) (hi : i + 6 ≤ L) (hok : ∀ (y0 : Int32), zOkI Sim A 158 318 [.int y0]) (kk : ∀ (m2 : zMem) (H2 : Heap) (locs2 : List Loc), zSt G s.heap m2 H2 locs2 → Sim m2 → W p l e room_1 s m #[Value.ref b] below meth c H2 locs2 cells slots Q (F0 m 1727 ls [])) : W p l e room_1 s m #[Value.ref b] below meth c H locs cells slots Q (F0 m 1388 ls []) := by
  have hbA : ¬ (fun q : Nat => s.heap.size ≤ q) b := Nat.not_le.mpr hbl
  refine lv_aload_n hx hb dl_1388 rfl (lv_at hl 1 rfl) ?_
  refine lv_aload_n hx hb dl_1389 rfl (lv_at hl 0 rfl) ?_
  refine lv_iload_n hx hb dl_1390 rfl (lv_at hl 3 rfl) ?_
  refine lv_iconst (v := 1) hx hb dl_1391 (by decide) ?_
  refine lv_iadd hx hb dl_1392 ?_
  refine va_sld hx hb hscr hbl hbA (zlaw_S hG hS) (i := nI i + 1) (by rw [show nI i + 1 = nI (i + 1) from nI_add i 1]; exact vp_in_nI (by omega) (by omega)) dl_1393 ?_
  obtain ⟨r, m1, m2, hc0, hc9, ⟨n1, n2, n3, n4⟩, k0, kA, hsim2⟩ := hok (xs (nI i + 1).toNatClampNeg) mm hsim
  refine zlaw_call (z := 158) (a := 0) (as := [.int (xs (nI i + 1).toNatClampNeg)]) (rest := []) hx hb hml hown hw hT hX hS hl.1 (by decide) (by decide +kernel) (by rw [k0, show zMc 158 = 11 by decide +kernel]) hc0 n1 n2 (Nat.le_of_ble_eq_true (by simp only [Value.category, List.map, List.sum_cons, List.sum_nil]; decide +kernel)) (by rw [show zNp 158 = 1 by decide +kernel]; rfl) rfl (by decide) hc1 hs1 dl_1394 (fun H locs hS1 => ?_)
  refine W.eq (g2 := F0 m 1397 ls [.int r]) rfl ?_
  refine lv_aload_n hx hb dl_1397 rfl (lv_at hl 2 rfl) ?_
  refine lv_aload_n hx hb dl_1398 rfl (lv_at hl 0 rfl) ?_
  refine lv_iload_n hx hb dl_1399 rfl (lv_at hl 3 rfl) ?_
  refine lv_iconst (v := 1) hx hb dl_1400 (by decide) ?_
  refine lv_iadd hx hb dl_1401 ?_
  refine va_sld hx hb hscr hbl hbA (zlaw_S hG hS1) (i := nI i + 1) (by rw [show nI i + 1 = nI (i + 1) from nI_add i 1]; exact vp_in_nI (by omega) (by omega)) dl_1402 ?_
  refine zlaw_call (z := 318) (a := A) (as := [.int (xs (nI i + 1).toNatClampNeg)]) (rest := [.int r]) hx hb hml hown hw hT hX hS1 hl.1 (by decide) (by decide +kernel) (by rw [kA, show zMc 318 = 12 by decide +kernel]) hc9 n3 n4 (Nat.le_of_ble_eq_true (by simp only [Value.category, List.map, List.sum_cons, List.sum_nil]; decide +kernel)) (by rw [show zNp 318 = 1 by decide +kernel]; rfl) rfl (by simp [Value.category]) hc1 hs1 dl_1403 (fun H locs hS2 => ?_)
  refine W.eq (g2 := F0 m 1406 ls [.int r, .int r]) rfl ?_
  exact lv_icmp_eq (tgt := 1727) hx hb dl_1406 (by decide) (fun _ => kk m2 H locs hS2 hsim2) (fun q => absurd rfl q)
set_option maxHeartbeats 4000000 in
theorem law_c36 (hx : p.tables.exec = Jvm.exec) (hb : c.code = code) (hml : c.maxLocals = 4) (hown : s.vm.findClass R_law = some m.cls) (hw : ∀ w ∈ zTw, w.before #[Value.ref b] s = true) (hT : zTab G s) (hX : zStr G s) (hG : G.1 = s.heap.size) (hscr : va_X b L xs s s.heap) (hbl : b < s.heap.size) (hL : L ≤ 3072) {A cells slots i : Nat} {Sim : zMem → Prop} {mm : zMem} {H : Heap} {locs : List Loc} {ls : Array Slot} (hc1 : cells ≤ room_1.cells) (hs1 : slots ≤ room_1.slots) (hS : zSt G s.heap mm H locs) (hsim : Sim mm) (hl : lv_has ls 4 [(0, .ref b), (1, .ref (G.1 + 0)), (2, .ref (G.1 + A)), (3, .int (nI i))]) (hi : i + 6 ≤ L) (hok : ∀ (y0 : Int32) (y1 : Int32), zOkI Sim A 159 319 [.int y0, .int y1]) (kk : ∀ (m2 : zMem) (H2 : Heap) (locs2 : List Loc), zSt G s.heap m2 H2 locs2 → Sim m2 → W p l e room_1 s m #[Value.ref b] below meth c H2 locs2 cells slots Q (F0 m 1727 ls [])) : W p l e room_1 s m #[Value.ref b] below meth c H locs cells slots Q (F0 m 1411 ls []) := by
  have hbA : ¬ (fun q : Nat => s.heap.size ≤ q) b := Nat.not_le.mpr hbl
  refine lv_aload_n hx hb dl_1411 rfl (lv_at hl 1 rfl) ?_
  refine lv_aload_n hx hb dl_1412 rfl (lv_at hl 0 rfl) ?_
  refine lv_iload_n hx hb dl_1413 rfl (lv_at hl 3 rfl) ?_
  refine lv_iconst (v := 1) hx hb dl_1414 (by decide) ?_
  refine lv_iadd hx hb dl_1415 ?_
  refine va_sld hx hb hscr hbl hbA (zlaw_S hG hS) (i := nI i + 1) (by rw [show nI i + 1 = nI (i + 1) from nI_add i 1]; exact vp_in_nI (by omega) (by omega)) dl_1416 ?_
  refine lv_aload_n hx hb dl_1417 rfl (lv_at hl 0 rfl) ?_
  refine lv_iload_n hx hb dl_1418 rfl (lv_at hl 3 rfl) ?_
  refine lv_iconst (v := 2) hx hb dl_1419 (by decide) ?_
  refine lv_iadd hx hb dl_1420 ?_
  refine va_sld hx hb hscr hbl hbA (zlaw_S hG hS) (i := nI i + 2) (by rw [show nI i + 2 = nI (i + 2) from nI_add i 2]; exact vp_in_nI (by omega) (by omega)) dl_1421 ?_
  obtain ⟨r, m1, m2, hc0, hc9, ⟨n1, n2, n3, n4⟩, k0, kA, hsim2⟩ := hok (xs (nI i + 1).toNatClampNeg) (xs (nI i + 2).toNatClampNeg) mm hsim
  refine zlaw_call (z := 159) (a := 0) (as := [.int (xs (nI i + 1).toNatClampNeg), .int (xs (nI i + 2).toNatClampNeg)]) (rest := []) hx hb hml hown hw hT hX hS hl.1 (by decide) (by decide +kernel) (by rw [k0, show zMc 159 = 11 by decide +kernel]) hc0 n1 n2 (Nat.le_of_ble_eq_true (by simp only [Value.category, List.map, List.sum_cons, List.sum_nil]; decide +kernel)) (by rw [show zNp 159 = 2 by decide +kernel]; rfl) rfl (by decide) hc1 hs1 dl_1422 (fun H locs hS1 => ?_)
  refine W.eq (g2 := F0 m 1425 ls [.int r]) rfl ?_
  refine lv_aload_n hx hb dl_1425 rfl (lv_at hl 2 rfl) ?_
  refine lv_aload_n hx hb dl_1426 rfl (lv_at hl 0 rfl) ?_
  refine lv_iload_n hx hb dl_1427 rfl (lv_at hl 3 rfl) ?_
  refine lv_iconst (v := 1) hx hb dl_1428 (by decide) ?_
  refine lv_iadd hx hb dl_1429 ?_
  refine va_sld hx hb hscr hbl hbA (zlaw_S hG hS1) (i := nI i + 1) (by rw [show nI i + 1 = nI (i + 1) from nI_add i 1]; exact vp_in_nI (by omega) (by omega)) dl_1430 ?_
  refine lv_aload_n hx hb dl_1431 rfl (lv_at hl 0 rfl) ?_
  refine lv_iload_n hx hb dl_1432 rfl (lv_at hl 3 rfl) ?_
  refine lv_iconst (v := 2) hx hb dl_1433 (by decide) ?_
  refine lv_iadd hx hb dl_1434 ?_
  refine va_sld hx hb hscr hbl hbA (zlaw_S hG hS1) (i := nI i + 2) (by rw [show nI i + 2 = nI (i + 2) from nI_add i 2]; exact vp_in_nI (by omega) (by omega)) dl_1435 ?_
  refine zlaw_call (z := 319) (a := A) (as := [.int (xs (nI i + 1).toNatClampNeg), .int (xs (nI i + 2).toNatClampNeg)]) (rest := [.int r]) hx hb hml hown hw hT hX hS1 hl.1 (by decide) (by decide +kernel) (by rw [kA, show zMc 319 = 12 by decide +kernel]) hc9 n3 n4 (Nat.le_of_ble_eq_true (by simp only [Value.category, List.map, List.sum_cons, List.sum_nil]; decide +kernel)) (by rw [show zNp 319 = 2 by decide +kernel]; rfl) rfl (by simp [Value.category]) hc1 hs1 dl_1436 (fun H locs hS2 => ?_)
  refine W.eq (g2 := F0 m 1439 ls [.int r, .int r]) rfl ?_
  exact lv_icmp_eq (tgt := 1727) hx hb dl_1439 (by decide) (fun _ => kk m2 H locs hS2 hsim2) (fun q => absurd rfl q)
set_option maxHeartbeats 4000000 in
theorem law_c37 (hx : p.tables.exec = Jvm.exec) (hb : c.code = code) (hml : c.maxLocals = 4) (hown : s.vm.findClass R_law = some m.cls) (hw : ∀ w ∈ zTw, w.before #[Value.ref b] s = true) (hT : zTab G s) (hX : zStr G s) (hG : G.1 = s.heap.size) (hscr : va_X b L xs s s.heap) (hbl : b < s.heap.size) (hL : L ≤ 3072) {A cells slots i : Nat} {Sim : zMem → Prop} {mm : zMem} {H : Heap} {locs : List Loc} {ls : Array Slot} (hc1 : cells ≤ room_1.cells) (hs1 : slots ≤ room_1.slots) (hS : zSt G s.heap mm H locs) (hsim : Sim mm) (hl : lv_has ls 4 [(0, .ref b), (1, .ref (G.1 + 0)), (2, .ref (G.1 + A)), (3, .int (nI i))]) (hi : i + 6 ≤ L) (hok : zOkI Sim A 162 322 []) (kk : ∀ (m2 : zMem) (H2 : Heap) (locs2 : List Loc), zSt G s.heap m2 H2 locs2 → Sim m2 → W p l e room_1 s m #[Value.ref b] below meth c H2 locs2 cells slots Q (F0 m 1727 ls [])) : W p l e room_1 s m #[Value.ref b] below meth c H locs cells slots Q (F0 m 1444 ls []) := by
  have hbA : ¬ (fun q : Nat => s.heap.size ≤ q) b := Nat.not_le.mpr hbl
  refine lv_aload_n hx hb dl_1444 rfl (lv_at hl 1 rfl) ?_
  obtain ⟨r, m1, m2, hc0, hc9, ⟨n1, n2, n3, n4⟩, k0, kA, hsim2⟩ := hok mm hsim
  refine zlaw_call (z := 162) (a := 0) (as := []) (rest := []) hx hb hml hown hw hT hX hS hl.1 (by decide) (by decide +kernel) (by rw [k0, show zMc 162 = 11 by decide +kernel]) hc0 n1 n2 (Nat.le_of_ble_eq_true (by simp only [Value.category, List.map, List.sum_cons, List.sum_nil]; decide +kernel)) (by rw [show zNp 162 = 0 by decide +kernel]; rfl) rfl (by decide) hc1 hs1 dl_1445 (fun H locs hS1 => ?_)
  refine W.eq (g2 := F0 m 1448 ls [.int r]) rfl ?_
  refine lv_aload_n hx hb dl_1448 rfl (lv_at hl 2 rfl) ?_
  refine zlaw_call (z := 322) (a := A) (as := []) (rest := [.int r]) hx hb hml hown hw hT hX hS1 hl.1 (by decide) (by decide +kernel) (by rw [kA, show zMc 322 = 12 by decide +kernel]) hc9 n3 n4 (Nat.le_of_ble_eq_true (by simp only [Value.category, List.map, List.sum_cons, List.sum_nil]; decide +kernel)) (by rw [show zNp 322 = 0 by decide +kernel]; rfl) rfl (by simp [Value.category]) hc1 hs1 dl_1449 (fun H locs hS2 => ?_)
  refine W.eq (g2 := F0 m 1452 ls [.int r, .int r]) rfl ?_
  exact lv_icmp_eq (tgt := 1727) hx hb dl_1452 (by decide) (fun _ => kk m2 H locs hS2 hsim2) (fun q => absurd rfl q)
set_option maxHeartbeats 4000000 in
theorem law_c38 (hx : p.tables.exec = Jvm.exec) (hb : c.code = code) (hml : c.maxLocals = 4) (hown : s.vm.findClass R_law = some m.cls) (hw : ∀ w ∈ zTw, w.before #[Value.ref b] s = true) (hT : zTab G s) (hX : zStr G s) (hG : G.1 = s.heap.size) (hscr : va_X b L xs s s.heap) (hbl : b < s.heap.size) (hL : L ≤ 3072) {A cells slots i : Nat} {Sim : zMem → Prop} {mm : zMem} {H : Heap} {locs : List Loc} {ls : Array Slot} (hc1 : cells ≤ room_1.cells) (hs1 : slots ≤ room_1.slots) (hS : zSt G s.heap mm H locs) (hsim : Sim mm) (hl : lv_has ls 4 [(0, .ref b), (1, .ref (G.1 + 0)), (2, .ref (G.1 + A)), (3, .int (nI i))]) (hi : i + 6 ≤ L) (hok : ∀ (y0 : Int32), zOkI Sim A 166 324 [.int y0]) (kk : ∀ (m2 : zMem) (H2 : Heap) (locs2 : List Loc), zSt G s.heap m2 H2 locs2 → Sim m2 → W p l e room_1 s m #[Value.ref b] below meth c H2 locs2 cells slots Q (F0 m 1727 ls [])) : W p l e room_1 s m #[Value.ref b] below meth c H locs cells slots Q (F0 m 1457 ls []) := by
  have hbA : ¬ (fun q : Nat => s.heap.size ≤ q) b := Nat.not_le.mpr hbl
  refine lv_aload_n hx hb dl_1457 rfl (lv_at hl 1 rfl) ?_
  refine lv_aload_n hx hb dl_1458 rfl (lv_at hl 0 rfl) ?_
  refine lv_iload_n hx hb dl_1459 rfl (lv_at hl 3 rfl) ?_
  refine lv_iconst (v := 1) hx hb dl_1460 (by decide) ?_
  refine lv_iadd hx hb dl_1461 ?_
  refine va_sld hx hb hscr hbl hbA (zlaw_S hG hS) (i := nI i + 1) (by rw [show nI i + 1 = nI (i + 1) from nI_add i 1]; exact vp_in_nI (by omega) (by omega)) dl_1462 ?_
  obtain ⟨r, m1, m2, hc0, hc9, ⟨n1, n2, n3, n4⟩, k0, kA, hsim2⟩ := hok (xs (nI i + 1).toNatClampNeg) mm hsim
  refine zlaw_call (z := 166) (a := 0) (as := [.int (xs (nI i + 1).toNatClampNeg)]) (rest := []) hx hb hml hown hw hT hX hS hl.1 (by decide) (by decide +kernel) (by rw [k0, show zMc 166 = 11 by decide +kernel]) hc0 n1 n2 (Nat.le_of_ble_eq_true (by simp only [Value.category, List.map, List.sum_cons, List.sum_nil]; decide +kernel)) (by rw [show zNp 166 = 1 by decide +kernel]; rfl) rfl (by decide) hc1 hs1 dl_1463 (fun H locs hS1 => ?_)
  refine W.eq (g2 := F0 m 1466 ls [.int r]) rfl ?_
  refine lv_aload_n hx hb dl_1466 rfl (lv_at hl 2 rfl) ?_
  refine lv_aload_n hx hb dl_1467 rfl (lv_at hl 0 rfl) ?_
  refine lv_iload_n hx hb dl_1468 rfl (lv_at hl 3 rfl) ?_
  refine lv_iconst (v := 1) hx hb dl_1469 (by decide) ?_
  refine lv_iadd hx hb dl_1470 ?_
  refine va_sld hx hb hscr hbl hbA (zlaw_S hG hS1) (i := nI i + 1) (by rw [show nI i + 1 = nI (i + 1) from nI_add i 1]; exact vp_in_nI (by omega) (by omega)) dl_1471 ?_
  refine zlaw_call (z := 324) (a := A) (as := [.int (xs (nI i + 1).toNatClampNeg)]) (rest := [.int r]) hx hb hml hown hw hT hX hS1 hl.1 (by decide) (by decide +kernel) (by rw [kA, show zMc 324 = 12 by decide +kernel]) hc9 n3 n4 (Nat.le_of_ble_eq_true (by simp only [Value.category, List.map, List.sum_cons, List.sum_nil]; decide +kernel)) (by rw [show zNp 324 = 1 by decide +kernel]; rfl) rfl (by simp [Value.category]) hc1 hs1 dl_1472 (fun H locs hS2 => ?_)
  refine W.eq (g2 := F0 m 1475 ls [.int r, .int r]) rfl ?_
  exact lv_icmp_eq (tgt := 1727) hx hb dl_1475 (by decide) (fun _ => kk m2 H locs hS2 hsim2) (fun q => absurd rfl q)
set_option maxHeartbeats 4000000 in
theorem law_c39 (hx : p.tables.exec = Jvm.exec) (hb : c.code = code) (hml : c.maxLocals = 4) (hown : s.vm.findClass R_law = some m.cls) (hw : ∀ w ∈ zTw, w.before #[Value.ref b] s = true) (hT : zTab G s) (hX : zStr G s) (hG : G.1 = s.heap.size) (hscr : va_X b L xs s s.heap) (hbl : b < s.heap.size) (hL : L ≤ 3072) {A cells slots i : Nat} {Sim : zMem → Prop} {mm : zMem} {H : Heap} {locs : List Loc} {ls : Array Slot} (hc1 : cells ≤ room_1.cells) (hs1 : slots ≤ room_1.slots) (hS : zSt G s.heap mm H locs) (hsim : Sim mm) (hl : lv_has ls 4 [(0, .ref b), (1, .ref (G.1 + 0)), (2, .ref (G.1 + A)), (3, .int (nI i))]) (hi : i + 6 ≤ L) (hok : ∀ (y0 : Int32) (y1 : Int32) (y2 : Int32), zOkI Sim A 169 325 [.int y0, .int y1, .int y2]) (kk : ∀ (m2 : zMem) (H2 : Heap) (locs2 : List Loc), zSt G s.heap m2 H2 locs2 → Sim m2 → W p l e room_1 s m #[Value.ref b] below meth c H2 locs2 cells slots Q (F0 m 1727 ls [])) : W p l e room_1 s m #[Value.ref b] below meth c H locs cells slots Q (F0 m 1480 ls []) := by
  have hbA : ¬ (fun q : Nat => s.heap.size ≤ q) b := Nat.not_le.mpr hbl
  refine lv_aload_n hx hb dl_1480 rfl (lv_at hl 1 rfl) ?_
  refine lv_aload_n hx hb dl_1481 rfl (lv_at hl 0 rfl) ?_
  refine lv_iload_n hx hb dl_1482 rfl (lv_at hl 3 rfl) ?_
  refine lv_iconst (v := 1) hx hb dl_1483 (by decide) ?_
  refine lv_iadd hx hb dl_1484 ?_
  refine va_sld hx hb hscr hbl hbA (zlaw_S hG hS) (i := nI i + 1) (by rw [show nI i + 1 = nI (i + 1) from nI_add i 1]; exact vp_in_nI (by omega) (by omega)) dl_1485 ?_
  refine lv_aload_n hx hb dl_1486 rfl (lv_at hl 0 rfl) ?_
  refine lv_iload_n hx hb dl_1487 rfl (lv_at hl 3 rfl) ?_
  refine lv_iconst (v := 2) hx hb dl_1488 (by decide) ?_
  refine lv_iadd hx hb dl_1489 ?_
  refine va_sld hx hb hscr hbl hbA (zlaw_S hG hS) (i := nI i + 2) (by rw [show nI i + 2 = nI (i + 2) from nI_add i 2]; exact vp_in_nI (by omega) (by omega)) dl_1490 ?_
  refine lv_aload_n hx hb dl_1491 rfl (lv_at hl 0 rfl) ?_
  refine lv_iload_n hx hb dl_1492 rfl (lv_at hl 3 rfl) ?_
  refine lv_iconst (v := 3) hx hb dl_1493 (by decide) ?_
  refine lv_iadd hx hb dl_1494 ?_
  refine va_sld hx hb hscr hbl hbA (zlaw_S hG hS) (i := nI i + 3) (by rw [show nI i + 3 = nI (i + 3) from nI_add i 3]; exact vp_in_nI (by omega) (by omega)) dl_1495 ?_
  obtain ⟨r, m1, m2, hc0, hc9, ⟨n1, n2, n3, n4⟩, k0, kA, hsim2⟩ := hok (xs (nI i + 1).toNatClampNeg) (xs (nI i + 2).toNatClampNeg) (xs (nI i + 3).toNatClampNeg) mm hsim
  refine zlaw_call (z := 169) (a := 0) (as := [.int (xs (nI i + 1).toNatClampNeg), .int (xs (nI i + 2).toNatClampNeg), .int (xs (nI i + 3).toNatClampNeg)]) (rest := []) hx hb hml hown hw hT hX hS hl.1 (by decide) (by decide +kernel) (by rw [k0, show zMc 169 = 11 by decide +kernel]) hc0 n1 n2 (Nat.le_of_ble_eq_true (by simp only [Value.category, List.map, List.sum_cons, List.sum_nil]; decide +kernel)) (by rw [show zNp 169 = 3 by decide +kernel]; rfl) rfl (by decide) hc1 hs1 dl_1496 (fun H locs hS1 => ?_)
  refine W.eq (g2 := F0 m 1499 ls [.int r]) rfl ?_
  refine lv_aload_n hx hb dl_1499 rfl (lv_at hl 2 rfl) ?_
  refine lv_aload_n hx hb dl_1500 rfl (lv_at hl 0 rfl) ?_
  refine lv_iload_n hx hb dl_1501 rfl (lv_at hl 3 rfl) ?_
  refine lv_iconst (v := 1) hx hb dl_1502 (by decide) ?_
  refine lv_iadd hx hb dl_1503 ?_
  refine va_sld hx hb hscr hbl hbA (zlaw_S hG hS1) (i := nI i + 1) (by rw [show nI i + 1 = nI (i + 1) from nI_add i 1]; exact vp_in_nI (by omega) (by omega)) dl_1504 ?_
  refine lv_aload_n hx hb dl_1505 rfl (lv_at hl 0 rfl) ?_
  refine lv_iload_n hx hb dl_1506 rfl (lv_at hl 3 rfl) ?_
  refine lv_iconst (v := 2) hx hb dl_1507 (by decide) ?_
  refine lv_iadd hx hb dl_1508 ?_
  refine va_sld hx hb hscr hbl hbA (zlaw_S hG hS1) (i := nI i + 2) (by rw [show nI i + 2 = nI (i + 2) from nI_add i 2]; exact vp_in_nI (by omega) (by omega)) dl_1509 ?_
  refine lv_aload_n hx hb dl_1510 rfl (lv_at hl 0 rfl) ?_
  refine lv_iload_n hx hb dl_1511 rfl (lv_at hl 3 rfl) ?_
  refine lv_iconst (v := 3) hx hb dl_1512 (by decide) ?_
  refine lv_iadd hx hb dl_1513 ?_
  refine va_sld hx hb hscr hbl hbA (zlaw_S hG hS1) (i := nI i + 3) (by rw [show nI i + 3 = nI (i + 3) from nI_add i 3]; exact vp_in_nI (by omega) (by omega)) dl_1514 ?_
  refine zlaw_call (z := 325) (a := A) (as := [.int (xs (nI i + 1).toNatClampNeg), .int (xs (nI i + 2).toNatClampNeg), .int (xs (nI i + 3).toNatClampNeg)]) (rest := [.int r]) hx hb hml hown hw hT hX hS1 hl.1 (by decide) (by decide +kernel) (by rw [kA, show zMc 325 = 12 by decide +kernel]) hc9 n3 n4 (Nat.le_of_ble_eq_true (by simp only [Value.category, List.map, List.sum_cons, List.sum_nil]; decide +kernel)) (by rw [show zNp 325 = 3 by decide +kernel]; rfl) rfl (by simp [Value.category]) hc1 hs1 dl_1515 (fun H locs hS2 => ?_)
  refine W.eq (g2 := F0 m 1518 ls [.int r, .int r]) rfl ?_
  exact lv_icmp_eq (tgt := 1727) hx hb dl_1518 (by decide) (fun _ => kk m2 H locs hS2 hsim2) (fun q => absurd rfl q)
set_option maxHeartbeats 4000000 in
theorem law_c40 (hx : p.tables.exec = Jvm.exec) (hb : c.code = code) (hml : c.maxLocals = 4) (hown : s.vm.findClass R_law = some m.cls) (hw : ∀ w ∈ zTw, w.before #[Value.ref b] s = true) (hT : zTab G s) (hX : zStr G s) (hG : G.1 = s.heap.size) (hscr : va_X b L xs s s.heap) (hbl : b < s.heap.size) (hL : L ≤ 3072) {A cells slots i : Nat} {Sim : zMem → Prop} {mm : zMem} {H : Heap} {locs : List Loc} {ls : Array Slot} (hc1 : cells ≤ room_1.cells) (hs1 : slots ≤ room_1.slots) (hS : zSt G s.heap mm H locs) (hsim : Sim mm) (hl : lv_has ls 4 [(0, .ref b), (1, .ref (G.1 + 0)), (2, .ref (G.1 + A)), (3, .int (nI i))]) (hi : i + 6 ≤ L) (hok : ∀ (y0 : Int32) (y1 : Int32) (y2 : Int32), zOkI Sim A 173 328 [.int y0, .int y1, .int y2]) (kk : ∀ (m2 : zMem) (H2 : Heap) (locs2 : List Loc), zSt G s.heap m2 H2 locs2 → Sim m2 → W p l e room_1 s m #[Value.ref b] below meth c H2 locs2 cells slots Q (F0 m 1727 ls [])) : W p l e room_1 s m #[Value.ref b] below meth c H locs cells slots Q (F0 m 1523 ls []) := by
  have hbA : ¬ (fun q : Nat => s.heap.size ≤ q) b := Nat.not_le.mpr hbl
  refine lv_aload_n hx hb dl_1523 rfl (lv_at hl 1 rfl) ?_
  refine lv_aload_n hx hb dl_1524 rfl (lv_at hl 0 rfl) ?_
  refine lv_iload_n hx hb dl_1525 rfl (lv_at hl 3 rfl) ?_
  refine lv_iconst (v := 1) hx hb dl_1526 (by decide) ?_
  refine lv_iadd hx hb dl_1527 ?_
  refine va_sld hx hb hscr hbl hbA (zlaw_S hG hS) (i := nI i + 1) (by rw [show nI i + 1 = nI (i + 1) from nI_add i 1]; exact vp_in_nI (by omega) (by omega)) dl_1528 ?_
  refine lv_aload_n hx hb dl_1529 rfl (lv_at hl 0 rfl) ?_
  refine lv_iload_n hx hb dl_1530 rfl (lv_at hl 3 rfl) ?_
  refine lv_iconst (v := 2) hx hb dl_1531 (by decide) ?_
  refine lv_iadd hx hb dl_1532 ?_
  refine va_sld hx hb hscr hbl hbA (zlaw_S hG hS) (i := nI i + 2) (by rw [show nI i + 2 = nI (i + 2) from nI_add i 2]; exact vp_in_nI (by omega) (by omega)) dl_1533 ?_
  refine lv_aload_n hx hb dl_1534 rfl (lv_at hl 0 rfl) ?_
  refine lv_iload_n hx hb dl_1535 rfl (lv_at hl 3 rfl) ?_
  refine lv_iconst (v := 3) hx hb dl_1536 (by decide) ?_
  refine lv_iadd hx hb dl_1537 ?_
  refine va_sld hx hb hscr hbl hbA (zlaw_S hG hS) (i := nI i + 3) (by rw [show nI i + 3 = nI (i + 3) from nI_add i 3]; exact vp_in_nI (by omega) (by omega)) dl_1538 ?_
  obtain ⟨r, m1, m2, hc0, hc9, ⟨n1, n2, n3, n4⟩, k0, kA, hsim2⟩ := hok (xs (nI i + 1).toNatClampNeg) (xs (nI i + 2).toNatClampNeg) (xs (nI i + 3).toNatClampNeg) mm hsim
  refine zlaw_call (z := 173) (a := 0) (as := [.int (xs (nI i + 1).toNatClampNeg), .int (xs (nI i + 2).toNatClampNeg), .int (xs (nI i + 3).toNatClampNeg)]) (rest := []) hx hb hml hown hw hT hX hS hl.1 (by decide) (by decide +kernel) (by rw [k0, show zMc 173 = 11 by decide +kernel]) hc0 n1 n2 (Nat.le_of_ble_eq_true (by simp only [Value.category, List.map, List.sum_cons, List.sum_nil]; decide +kernel)) (by rw [show zNp 173 = 3 by decide +kernel]; rfl) rfl (by decide) hc1 hs1 dl_1539 (fun H locs hS1 => ?_)
  refine W.eq (g2 := F0 m 1542 ls [.int r]) rfl ?_
  refine lv_aload_n hx hb dl_1542 rfl (lv_at hl 2 rfl) ?_
  refine lv_aload_n hx hb dl_1543 rfl (lv_at hl 0 rfl) ?_
  refine lv_iload_n hx hb dl_1544 rfl (lv_at hl 3 rfl) ?_
  refine lv_iconst (v := 1) hx hb dl_1545 (by decide) ?_
  refine lv_iadd hx hb dl_1546 ?_
  refine va_sld hx hb hscr hbl hbA (zlaw_S hG hS1) (i := nI i + 1) (by rw [show nI i + 1 = nI (i + 1) from nI_add i 1]; exact vp_in_nI (by omega) (by omega)) dl_1547 ?_
  refine lv_aload_n hx hb dl_1548 rfl (lv_at hl 0 rfl) ?_
  refine lv_iload_n hx hb dl_1549 rfl (lv_at hl 3 rfl) ?_
  refine lv_iconst (v := 2) hx hb dl_1550 (by decide) ?_
  refine lv_iadd hx hb dl_1551 ?_
  refine va_sld hx hb hscr hbl hbA (zlaw_S hG hS1) (i := nI i + 2) (by rw [show nI i + 2 = nI (i + 2) from nI_add i 2]; exact vp_in_nI (by omega) (by omega)) dl_1552 ?_
  refine lv_aload_n hx hb dl_1553 rfl (lv_at hl 0 rfl) ?_
  refine lv_iload_n hx hb dl_1554 rfl (lv_at hl 3 rfl) ?_
  refine lv_iconst (v := 3) hx hb dl_1555 (by decide) ?_
  refine lv_iadd hx hb dl_1556 ?_
  refine va_sld hx hb hscr hbl hbA (zlaw_S hG hS1) (i := nI i + 3) (by rw [show nI i + 3 = nI (i + 3) from nI_add i 3]; exact vp_in_nI (by omega) (by omega)) dl_1557 ?_
  refine zlaw_call (z := 328) (a := A) (as := [.int (xs (nI i + 1).toNatClampNeg), .int (xs (nI i + 2).toNatClampNeg), .int (xs (nI i + 3).toNatClampNeg)]) (rest := [.int r]) hx hb hml hown hw hT hX hS1 hl.1 (by decide) (by decide +kernel) (by rw [kA, show zMc 328 = 12 by decide +kernel]) hc9 n3 n4 (Nat.le_of_ble_eq_true (by simp only [Value.category, List.map, List.sum_cons, List.sum_nil]; decide +kernel)) (by rw [show zNp 328 = 3 by decide +kernel]; rfl) rfl (by simp [Value.category]) hc1 hs1 dl_1558 (fun H locs hS2 => ?_)
  refine W.eq (g2 := F0 m 1561 ls [.int r, .int r]) rfl ?_
  exact lv_icmp_eq (tgt := 1727) hx hb dl_1561 (by decide) (fun _ => kk m2 H locs hS2 hsim2) (fun q => absurd rfl q)
set_option maxHeartbeats 4000000 in
theorem law_c41 (hx : p.tables.exec = Jvm.exec) (hb : c.code = code) (hml : c.maxLocals = 4) (hown : s.vm.findClass R_law = some m.cls) (hw : ∀ w ∈ zTw, w.before #[Value.ref b] s = true) (hT : zTab G s) (hX : zStr G s) (hG : G.1 = s.heap.size) (hscr : va_X b L xs s s.heap) (hbl : b < s.heap.size) (hL : L ≤ 3072) {A cells slots i : Nat} {Sim : zMem → Prop} {mm : zMem} {H : Heap} {locs : List Loc} {ls : Array Slot} (hc1 : cells ≤ room_1.cells) (hs1 : slots ≤ room_1.slots) (hS : zSt G s.heap mm H locs) (hsim : Sim mm) (hl : lv_has ls 4 [(0, .ref b), (1, .ref (G.1 + 0)), (2, .ref (G.1 + A)), (3, .int (nI i))]) (hi : i + 6 ≤ L) (hok : ∀ (y0 : Int32) (y1 : Int32), zOkI Sim A 174 329 [.int y0, .int y1]) (kk : ∀ (m2 : zMem) (H2 : Heap) (locs2 : List Loc), zSt G s.heap m2 H2 locs2 → Sim m2 → W p l e room_1 s m #[Value.ref b] below meth c H2 locs2 cells slots Q (F0 m 1727 ls [])) : W p l e room_1 s m #[Value.ref b] below meth c H locs cells slots Q (F0 m 1566 ls []) := by
  have hbA : ¬ (fun q : Nat => s.heap.size ≤ q) b := Nat.not_le.mpr hbl
  refine lv_aload_n hx hb dl_1566 rfl (lv_at hl 1 rfl) ?_
  refine lv_aload_n hx hb dl_1567 rfl (lv_at hl 0 rfl) ?_
  refine lv_iload_n hx hb dl_1568 rfl (lv_at hl 3 rfl) ?_
  refine lv_iconst (v := 1) hx hb dl_1569 (by decide) ?_
  refine lv_iadd hx hb dl_1570 ?_
  refine va_sld hx hb hscr hbl hbA (zlaw_S hG hS) (i := nI i + 1) (by rw [show nI i + 1 = nI (i + 1) from nI_add i 1]; exact vp_in_nI (by omega) (by omega)) dl_1571 ?_
  refine lv_aload_n hx hb dl_1572 rfl (lv_at hl 0 rfl) ?_
  refine lv_iload_n hx hb dl_1573 rfl (lv_at hl 3 rfl) ?_
  refine lv_iconst (v := 2) hx hb dl_1574 (by decide) ?_
  refine lv_iadd hx hb dl_1575 ?_
  refine va_sld hx hb hscr hbl hbA (zlaw_S hG hS) (i := nI i + 2) (by rw [show nI i + 2 = nI (i + 2) from nI_add i 2]; exact vp_in_nI (by omega) (by omega)) dl_1576 ?_
  obtain ⟨r, m1, m2, hc0, hc9, ⟨n1, n2, n3, n4⟩, k0, kA, hsim2⟩ := hok (xs (nI i + 1).toNatClampNeg) (xs (nI i + 2).toNatClampNeg) mm hsim
  refine zlaw_call (z := 174) (a := 0) (as := [.int (xs (nI i + 1).toNatClampNeg), .int (xs (nI i + 2).toNatClampNeg)]) (rest := []) hx hb hml hown hw hT hX hS hl.1 (by decide) (by decide +kernel) (by rw [k0, show zMc 174 = 11 by decide +kernel]) hc0 n1 n2 (Nat.le_of_ble_eq_true (by simp only [Value.category, List.map, List.sum_cons, List.sum_nil]; decide +kernel)) (by rw [show zNp 174 = 2 by decide +kernel]; rfl) rfl (by decide) hc1 hs1 dl_1577 (fun H locs hS1 => ?_)
  refine W.eq (g2 := F0 m 1580 ls [.int r]) rfl ?_
  refine lv_aload_n hx hb dl_1580 rfl (lv_at hl 2 rfl) ?_
  refine lv_aload_n hx hb dl_1581 rfl (lv_at hl 0 rfl) ?_
  refine lv_iload_n hx hb dl_1582 rfl (lv_at hl 3 rfl) ?_
  refine lv_iconst (v := 1) hx hb dl_1583 (by decide) ?_
  refine lv_iadd hx hb dl_1584 ?_
  refine va_sld hx hb hscr hbl hbA (zlaw_S hG hS1) (i := nI i + 1) (by rw [show nI i + 1 = nI (i + 1) from nI_add i 1]; exact vp_in_nI (by omega) (by omega)) dl_1585 ?_
  refine lv_aload_n hx hb dl_1586 rfl (lv_at hl 0 rfl) ?_
  refine lv_iload_n hx hb dl_1587 rfl (lv_at hl 3 rfl) ?_
  refine lv_iconst (v := 2) hx hb dl_1588 (by decide) ?_
  refine lv_iadd hx hb dl_1589 ?_
  refine va_sld hx hb hscr hbl hbA (zlaw_S hG hS1) (i := nI i + 2) (by rw [show nI i + 2 = nI (i + 2) from nI_add i 2]; exact vp_in_nI (by omega) (by omega)) dl_1590 ?_
  refine zlaw_call (z := 329) (a := A) (as := [.int (xs (nI i + 1).toNatClampNeg), .int (xs (nI i + 2).toNatClampNeg)]) (rest := [.int r]) hx hb hml hown hw hT hX hS1 hl.1 (by decide) (by decide +kernel) (by rw [kA, show zMc 329 = 12 by decide +kernel]) hc9 n3 n4 (Nat.le_of_ble_eq_true (by simp only [Value.category, List.map, List.sum_cons, List.sum_nil]; decide +kernel)) (by rw [show zNp 329 = 2 by decide +kernel]; rfl) rfl (by simp [Value.category]) hc1 hs1 dl_1591 (fun H locs hS2 => ?_)
  refine W.eq (g2 := F0 m 1594 ls [.int r, .int r]) rfl ?_
  exact lv_icmp_eq (tgt := 1727) hx hb dl_1594 (by decide) (fun _ => kk m2 H locs hS2 hsim2) (fun q => absurd rfl q)
set_option maxHeartbeats 4000000 in
theorem law_c42 (hx : p.tables.exec = Jvm.exec) (hb : c.code = code) (hml : c.maxLocals = 4) (hown : s.vm.findClass R_law = some m.cls) (hw : ∀ w ∈ zTw, w.before #[Value.ref b] s = true) (hT : zTab G s) (hX : zStr G s) (hG : G.1 = s.heap.size) (hscr : va_X b L xs s s.heap) (hbl : b < s.heap.size) (hL : L ≤ 3072) {A cells slots i : Nat} {Sim : zMem → Prop} {mm : zMem} {H : Heap} {locs : List Loc} {ls : Array Slot} (hc1 : cells ≤ room_1.cells) (hs1 : slots ≤ room_1.slots) (hS : zSt G s.heap mm H locs) (hsim : Sim mm) (hl : lv_has ls 4 [(0, .ref b), (1, .ref (G.1 + 0)), (2, .ref (G.1 + A)), (3, .int (nI i))]) (hi : i + 6 ≤ L) (hok : ∀ (y0 : Int32), zOkI Sim A 177 330 [.int y0]) (kk : ∀ (m2 : zMem) (H2 : Heap) (locs2 : List Loc), zSt G s.heap m2 H2 locs2 → Sim m2 → W p l e room_1 s m #[Value.ref b] below meth c H2 locs2 cells slots Q (F0 m 1727 ls [])) : W p l e room_1 s m #[Value.ref b] below meth c H locs cells slots Q (F0 m 1599 ls []) := by
  have hbA : ¬ (fun q : Nat => s.heap.size ≤ q) b := Nat.not_le.mpr hbl
  refine lv_aload_n hx hb dl_1599 rfl (lv_at hl 1 rfl) ?_
  refine lv_aload_n hx hb dl_1600 rfl (lv_at hl 0 rfl) ?_
  refine lv_iload_n hx hb dl_1601 rfl (lv_at hl 3 rfl) ?_
  refine lv_iconst (v := 1) hx hb dl_1602 (by decide) ?_
  refine lv_iadd hx hb dl_1603 ?_
  refine va_sld hx hb hscr hbl hbA (zlaw_S hG hS) (i := nI i + 1) (by rw [show nI i + 1 = nI (i + 1) from nI_add i 1]; exact vp_in_nI (by omega) (by omega)) dl_1604 ?_
  obtain ⟨r, m1, m2, hc0, hc9, ⟨n1, n2, n3, n4⟩, k0, kA, hsim2⟩ := hok (xs (nI i + 1).toNatClampNeg) mm hsim
  refine zlaw_call (z := 177) (a := 0) (as := [.int (xs (nI i + 1).toNatClampNeg)]) (rest := []) hx hb hml hown hw hT hX hS hl.1 (by decide) (by decide +kernel) (by rw [k0, show zMc 177 = 11 by decide +kernel]) hc0 n1 n2 (Nat.le_of_ble_eq_true (by simp only [Value.category, List.map, List.sum_cons, List.sum_nil]; decide +kernel)) (by rw [show zNp 177 = 1 by decide +kernel]; rfl) rfl (by decide) hc1 hs1 dl_1605 (fun H locs hS1 => ?_)
  refine W.eq (g2 := F0 m 1608 ls [.int r]) rfl ?_
  refine lv_aload_n hx hb dl_1608 rfl (lv_at hl 2 rfl) ?_
  refine lv_aload_n hx hb dl_1609 rfl (lv_at hl 0 rfl) ?_
  refine lv_iload_n hx hb dl_1610 rfl (lv_at hl 3 rfl) ?_
  refine lv_iconst (v := 1) hx hb dl_1611 (by decide) ?_
  refine lv_iadd hx hb dl_1612 ?_
  refine va_sld hx hb hscr hbl hbA (zlaw_S hG hS1) (i := nI i + 1) (by rw [show nI i + 1 = nI (i + 1) from nI_add i 1]; exact vp_in_nI (by omega) (by omega)) dl_1613 ?_
  refine zlaw_call (z := 330) (a := A) (as := [.int (xs (nI i + 1).toNatClampNeg)]) (rest := [.int r]) hx hb hml hown hw hT hX hS1 hl.1 (by decide) (by decide +kernel) (by rw [kA, show zMc 330 = 12 by decide +kernel]) hc9 n3 n4 (Nat.le_of_ble_eq_true (by simp only [Value.category, List.map, List.sum_cons, List.sum_nil]; decide +kernel)) (by rw [show zNp 330 = 1 by decide +kernel]; rfl) rfl (by simp [Value.category]) hc1 hs1 dl_1614 (fun H locs hS2 => ?_)
  refine W.eq (g2 := F0 m 1617 ls [.int r, .int r]) rfl ?_
  exact lv_icmp_eq (tgt := 1727) hx hb dl_1617 (by decide) (fun _ => kk m2 H locs hS2 hsim2) (fun q => absurd rfl q)
set_option maxHeartbeats 4000000 in
theorem law_c43 (hx : p.tables.exec = Jvm.exec) (hb : c.code = code) (hml : c.maxLocals = 4) (hown : s.vm.findClass R_law = some m.cls) (hw : ∀ w ∈ zTw, w.before #[Value.ref b] s = true) (hT : zTab G s) (hX : zStr G s) (hG : G.1 = s.heap.size) (hscr : va_X b L xs s s.heap) (hbl : b < s.heap.size) (hL : L ≤ 3072) {A cells slots i : Nat} {Sim : zMem → Prop} {mm : zMem} {H : Heap} {locs : List Loc} {ls : Array Slot} (hc1 : cells ≤ room_1.cells) (hs1 : slots ≤ room_1.slots) (hS : zSt G s.heap mm H locs) (hsim : Sim mm) (hl : lv_has ls 4 [(0, .ref b), (1, .ref (G.1 + 0)), (2, .ref (G.1 + A)), (3, .int (nI i))]) (hi : i + 6 ≤ L) (hok : ∀ (y0 : Int32), zOkI Sim A 178 331 [.int y0]) (kk : ∀ (m2 : zMem) (H2 : Heap) (locs2 : List Loc), zSt G s.heap m2 H2 locs2 → Sim m2 → W p l e room_1 s m #[Value.ref b] below meth c H2 locs2 cells slots Q (F0 m 1727 ls [])) : W p l e room_1 s m #[Value.ref b] below meth c H locs cells slots Q (F0 m 1622 ls []) := by
  have hbA : ¬ (fun q : Nat => s.heap.size ≤ q) b := Nat.not_le.mpr hbl
  refine lv_aload_n hx hb dl_1622 rfl (lv_at hl 1 rfl) ?_
  refine lv_aload_n hx hb dl_1623 rfl (lv_at hl 0 rfl) ?_
  refine lv_iload_n hx hb dl_1624 rfl (lv_at hl 3 rfl) ?_
  refine lv_iconst (v := 1) hx hb dl_1625 (by decide) ?_
  refine lv_iadd hx hb dl_1626 ?_
  refine va_sld hx hb hscr hbl hbA (zlaw_S hG hS) (i := nI i + 1) (by rw [show nI i + 1 = nI (i + 1) from nI_add i 1]; exact vp_in_nI (by omega) (by omega)) dl_1627 ?_
  obtain ⟨r, m1, m2, hc0, hc9, ⟨n1, n2, n3, n4⟩, k0, kA, hsim2⟩ := hok (xs (nI i + 1).toNatClampNeg) mm hsim
  refine zlaw_call (z := 178) (a := 0) (as := [.int (xs (nI i + 1).toNatClampNeg)]) (rest := []) hx hb hml hown hw hT hX hS hl.1 (by decide) (by decide +kernel) (by rw [k0, show zMc 178 = 11 by decide +kernel]) hc0 n1 n2 (Nat.le_of_ble_eq_true (by simp only [Value.category, List.map, List.sum_cons, List.sum_nil]; decide +kernel)) (by rw [show zNp 178 = 1 by decide +kernel]; rfl) rfl (by decide) hc1 hs1 dl_1628 (fun H locs hS1 => ?_)
  refine W.eq (g2 := F0 m 1631 ls [.int r]) rfl ?_
  refine lv_aload_n hx hb dl_1631 rfl (lv_at hl 2 rfl) ?_
  refine lv_aload_n hx hb dl_1632 rfl (lv_at hl 0 rfl) ?_
  refine lv_iload_n hx hb dl_1633 rfl (lv_at hl 3 rfl) ?_
  refine lv_iconst (v := 1) hx hb dl_1634 (by decide) ?_
  refine lv_iadd hx hb dl_1635 ?_
  refine va_sld hx hb hscr hbl hbA (zlaw_S hG hS1) (i := nI i + 1) (by rw [show nI i + 1 = nI (i + 1) from nI_add i 1]; exact vp_in_nI (by omega) (by omega)) dl_1636 ?_
  refine zlaw_call (z := 331) (a := A) (as := [.int (xs (nI i + 1).toNatClampNeg)]) (rest := [.int r]) hx hb hml hown hw hT hX hS1 hl.1 (by decide) (by decide +kernel) (by rw [kA, show zMc 331 = 12 by decide +kernel]) hc9 n3 n4 (Nat.le_of_ble_eq_true (by simp only [Value.category, List.map, List.sum_cons, List.sum_nil]; decide +kernel)) (by rw [show zNp 331 = 1 by decide +kernel]; rfl) rfl (by simp [Value.category]) hc1 hs1 dl_1637 (fun H locs hS2 => ?_)
  refine W.eq (g2 := F0 m 1640 ls [.int r, .int r]) rfl ?_
  exact lv_icmp_eq (tgt := 1727) hx hb dl_1640 (by decide) (fun _ => kk m2 H locs hS2 hsim2) (fun q => absurd rfl q)
set_option maxHeartbeats 4000000 in
theorem law_c44 (hx : p.tables.exec = Jvm.exec) (hb : c.code = code) (hml : c.maxLocals = 4) (hown : s.vm.findClass R_law = some m.cls) (hw : ∀ w ∈ zTw, w.before #[Value.ref b] s = true) (hT : zTab G s) (hX : zStr G s) (hG : G.1 = s.heap.size) (hscr : va_X b L xs s s.heap) (hbl : b < s.heap.size) (hL : L ≤ 3072) {A cells slots i : Nat} {Sim : zMem → Prop} {mm : zMem} {H : Heap} {locs : List Loc} {ls : Array Slot} (hc1 : cells ≤ room_1.cells) (hs1 : slots ≤ room_1.slots) (hS : zSt G s.heap mm H locs) (hsim : Sim mm) (hl : lv_has ls 4 [(0, .ref b), (1, .ref (G.1 + 0)), (2, .ref (G.1 + A)), (3, .int (nI i))]) (hi : i + 6 ≤ L) (hok : ∀ (y0 : Int32), zOkI Sim A 190 342 [.int y0]) (kk : ∀ (m2 : zMem) (H2 : Heap) (locs2 : List Loc), zSt G s.heap m2 H2 locs2 → Sim m2 → W p l e room_1 s m #[Value.ref b] below meth c H2 locs2 cells slots Q (F0 m 1727 ls [])) : W p l e room_1 s m #[Value.ref b] below meth c H locs cells slots Q (F0 m 1645 ls []) := by
  have hbA : ¬ (fun q : Nat => s.heap.size ≤ q) b := Nat.not_le.mpr hbl
  refine lv_aload_n hx hb dl_1645 rfl (lv_at hl 1 rfl) ?_
  refine lv_aload_n hx hb dl_1646 rfl (lv_at hl 0 rfl) ?_
  refine lv_iload_n hx hb dl_1647 rfl (lv_at hl 3 rfl) ?_
  refine lv_iconst (v := 1) hx hb dl_1648 (by decide) ?_
  refine lv_iadd hx hb dl_1649 ?_
  refine va_sld hx hb hscr hbl hbA (zlaw_S hG hS) (i := nI i + 1) (by rw [show nI i + 1 = nI (i + 1) from nI_add i 1]; exact vp_in_nI (by omega) (by omega)) dl_1650 ?_
  obtain ⟨r, m1, m2, hc0, hc9, ⟨n1, n2, n3, n4⟩, k0, kA, hsim2⟩ := hok (xs (nI i + 1).toNatClampNeg) mm hsim
  refine zlaw_call (z := 190) (a := 0) (as := [.int (xs (nI i + 1).toNatClampNeg)]) (rest := []) hx hb hml hown hw hT hX hS hl.1 (by decide) (by decide +kernel) (by rw [k0, show zMc 190 = 11 by decide +kernel]) hc0 n1 n2 (Nat.le_of_ble_eq_true (by simp only [Value.category, List.map, List.sum_cons, List.sum_nil]; decide +kernel)) (by rw [show zNp 190 = 1 by decide +kernel]; rfl) rfl (by decide) hc1 hs1 dl_1651 (fun H locs hS1 => ?_)
  refine W.eq (g2 := F0 m 1654 ls [.int r]) rfl ?_
  refine lv_aload_n hx hb dl_1654 rfl (lv_at hl 2 rfl) ?_
  refine lv_aload_n hx hb dl_1655 rfl (lv_at hl 0 rfl) ?_
  refine lv_iload_n hx hb dl_1656 rfl (lv_at hl 3 rfl) ?_
  refine lv_iconst (v := 1) hx hb dl_1657 (by decide) ?_
  refine lv_iadd hx hb dl_1658 ?_
  refine va_sld hx hb hscr hbl hbA (zlaw_S hG hS1) (i := nI i + 1) (by rw [show nI i + 1 = nI (i + 1) from nI_add i 1]; exact vp_in_nI (by omega) (by omega)) dl_1659 ?_
  refine zlaw_call (z := 342) (a := A) (as := [.int (xs (nI i + 1).toNatClampNeg)]) (rest := [.int r]) hx hb hml hown hw hT hX hS1 hl.1 (by decide) (by decide +kernel) (by rw [kA, show zMc 342 = 12 by decide +kernel]) hc9 n3 n4 (Nat.le_of_ble_eq_true (by simp only [Value.category, List.map, List.sum_cons, List.sum_nil]; decide +kernel)) (by rw [show zNp 342 = 1 by decide +kernel]; rfl) rfl (by simp [Value.category]) hc1 hs1 dl_1660 (fun H locs hS2 => ?_)
  refine W.eq (g2 := F0 m 1663 ls [.int r, .int r]) rfl ?_
  exact lv_icmp_eq (tgt := 1727) hx hb dl_1663 (by decide) (fun _ => kk m2 H locs hS2 hsim2) (fun q => absurd rfl q)
set_option maxHeartbeats 4000000 in
theorem law_c45 (hx : p.tables.exec = Jvm.exec) (hb : c.code = code) (hml : c.maxLocals = 4) (hown : s.vm.findClass R_law = some m.cls) (hw : ∀ w ∈ zTw, w.before #[Value.ref b] s = true) (hT : zTab G s) (hX : zStr G s) (hG : G.1 = s.heap.size) (hscr : va_X b L xs s s.heap) (hbl : b < s.heap.size) (hL : L ≤ 3072) {A cells slots i : Nat} {Sim : zMem → Prop} {mm : zMem} {H : Heap} {locs : List Loc} {ls : Array Slot} (hc1 : cells ≤ room_1.cells) (hs1 : slots ≤ room_1.slots) (hS : zSt G s.heap mm H locs) (hsim : Sim mm) (hl : lv_has ls 4 [(0, .ref b), (1, .ref (G.1 + 0)), (2, .ref (G.1 + A)), (3, .int (nI i))]) (hi : i + 6 ≤ L) (hok : ∀ (y0 : Int32) (y1 : Int32), zOkI Sim A 191 343 [.int y0, .int y1]) (kk : ∀ (m2 : zMem) (H2 : Heap) (locs2 : List Loc), zSt G s.heap m2 H2 locs2 → Sim m2 → W p l e room_1 s m #[Value.ref b] below meth c H2 locs2 cells slots Q (F0 m 1727 ls [])) : W p l e room_1 s m #[Value.ref b] below meth c H locs cells slots Q (F0 m 1668 ls []) := by
  have hbA : ¬ (fun q : Nat => s.heap.size ≤ q) b := Nat.not_le.mpr hbl
  refine lv_aload_n hx hb dl_1668 rfl (lv_at hl 1 rfl) ?_
  refine lv_aload_n hx hb dl_1669 rfl (lv_at hl 0 rfl) ?_
  refine lv_iload_n hx hb dl_1670 rfl (lv_at hl 3 rfl) ?_
  refine lv_iconst (v := 1) hx hb dl_1671 (by decide) ?_
  refine lv_iadd hx hb dl_1672 ?_
  refine va_sld hx hb hscr hbl hbA (zlaw_S hG hS) (i := nI i + 1) (by rw [show nI i + 1 = nI (i + 1) from nI_add i 1]; exact vp_in_nI (by omega) (by omega)) dl_1673 ?_
  refine lv_aload_n hx hb dl_1674 rfl (lv_at hl 0 rfl) ?_
  refine lv_iload_n hx hb dl_1675 rfl (lv_at hl 3 rfl) ?_
  refine lv_iconst (v := 2) hx hb dl_1676 (by decide) ?_
  refine lv_iadd hx hb dl_1677 ?_
  refine va_sld hx hb hscr hbl hbA (zlaw_S hG hS) (i := nI i + 2) (by rw [show nI i + 2 = nI (i + 2) from nI_add i 2]; exact vp_in_nI (by omega) (by omega)) dl_1678 ?_
  obtain ⟨r, m1, m2, hc0, hc9, ⟨n1, n2, n3, n4⟩, k0, kA, hsim2⟩ := hok (xs (nI i + 1).toNatClampNeg) (xs (nI i + 2).toNatClampNeg) mm hsim
  refine zlaw_call (z := 191) (a := 0) (as := [.int (xs (nI i + 1).toNatClampNeg), .int (xs (nI i + 2).toNatClampNeg)]) (rest := []) hx hb hml hown hw hT hX hS hl.1 (by decide) (by decide +kernel) (by rw [k0, show zMc 191 = 11 by decide +kernel]) hc0 n1 n2 (Nat.le_of_ble_eq_true (by simp only [Value.category, List.map, List.sum_cons, List.sum_nil]; decide +kernel)) (by rw [show zNp 191 = 2 by decide +kernel]; rfl) rfl (by decide) hc1 hs1 dl_1679 (fun H locs hS1 => ?_)
  refine W.eq (g2 := F0 m 1682 ls [.int r]) rfl ?_
  refine lv_aload_n hx hb dl_1682 rfl (lv_at hl 2 rfl) ?_
  refine lv_aload_n hx hb dl_1683 rfl (lv_at hl 0 rfl) ?_
  refine lv_iload_n hx hb dl_1684 rfl (lv_at hl 3 rfl) ?_
  refine lv_iconst (v := 1) hx hb dl_1685 (by decide) ?_
  refine lv_iadd hx hb dl_1686 ?_
  refine va_sld hx hb hscr hbl hbA (zlaw_S hG hS1) (i := nI i + 1) (by rw [show nI i + 1 = nI (i + 1) from nI_add i 1]; exact vp_in_nI (by omega) (by omega)) dl_1687 ?_
  refine lv_aload_n hx hb dl_1688 rfl (lv_at hl 0 rfl) ?_
  refine lv_iload_n hx hb dl_1689 rfl (lv_at hl 3 rfl) ?_
  refine lv_iconst (v := 2) hx hb dl_1690 (by decide) ?_
  refine lv_iadd hx hb dl_1691 ?_
  refine va_sld hx hb hscr hbl hbA (zlaw_S hG hS1) (i := nI i + 2) (by rw [show nI i + 2 = nI (i + 2) from nI_add i 2]; exact vp_in_nI (by omega) (by omega)) dl_1692 ?_
  refine zlaw_call (z := 343) (a := A) (as := [.int (xs (nI i + 1).toNatClampNeg), .int (xs (nI i + 2).toNatClampNeg)]) (rest := [.int r]) hx hb hml hown hw hT hX hS1 hl.1 (by decide) (by decide +kernel) (by rw [kA, show zMc 343 = 12 by decide +kernel]) hc9 n3 n4 (Nat.le_of_ble_eq_true (by simp only [Value.category, List.map, List.sum_cons, List.sum_nil]; decide +kernel)) (by rw [show zNp 343 = 2 by decide +kernel]; rfl) rfl (by simp [Value.category]) hc1 hs1 dl_1693 (fun H locs hS2 => ?_)
  refine W.eq (g2 := F0 m 1696 ls [.int r, .int r]) rfl ?_
  exact lv_icmp_eq (tgt := 1727) hx hb dl_1696 (by decide) (fun _ => kk m2 H locs hS2 hsim2) (fun q => absurd rfl q)
set_option maxHeartbeats 4000000 in
theorem law_c46 (hx : p.tables.exec = Jvm.exec) (hb : c.code = code) (hml : c.maxLocals = 4) (hown : s.vm.findClass R_law = some m.cls) (hw : ∀ w ∈ zTw, w.before #[Value.ref b] s = true) (hT : zTab G s) (hX : zStr G s) (hG : G.1 = s.heap.size) (hscr : va_X b L xs s s.heap) (hbl : b < s.heap.size) (hL : L ≤ 3072) {A cells slots i : Nat} {Sim : zMem → Prop} {mm : zMem} {H : Heap} {locs : List Loc} {ls : Array Slot} (hc1 : cells ≤ room_1.cells) (hs1 : slots ≤ room_1.slots) (hS : zSt G s.heap mm H locs) (hsim : Sim mm) (hl : lv_has ls 4 [(0, .ref b), (1, .ref (G.1 + 0)), (2, .ref (G.1 + A)), (3, .int (nI i))]) (hi : i + 6 ≤ L) (hok : zOkI Sim A 192 344 []) (kk : ∀ (m2 : zMem) (H2 : Heap) (locs2 : List Loc), zSt G s.heap m2 H2 locs2 → Sim m2 → W p l e room_1 s m #[Value.ref b] below meth c H2 locs2 cells slots Q (F0 m 1727 ls [])) : W p l e room_1 s m #[Value.ref b] below meth c H locs cells slots Q (F0 m 1701 ls []) := by
  have hbA : ¬ (fun q : Nat => s.heap.size ≤ q) b := Nat.not_le.mpr hbl
  refine lv_aload_n hx hb dl_1701 rfl (lv_at hl 1 rfl) ?_
  obtain ⟨r, m1, m2, hc0, hc9, ⟨n1, n2, n3, n4⟩, k0, kA, hsim2⟩ := hok mm hsim
  refine zlaw_call (z := 192) (a := 0) (as := []) (rest := []) hx hb hml hown hw hT hX hS hl.1 (by decide) (by decide +kernel) (by rw [k0, show zMc 192 = 11 by decide +kernel]) hc0 n1 n2 (Nat.le_of_ble_eq_true (by simp only [Value.category, List.map, List.sum_cons, List.sum_nil]; decide +kernel)) (by rw [show zNp 192 = 0 by decide +kernel]; rfl) rfl (by decide) hc1 hs1 dl_1702 (fun H locs hS1 => ?_)
  refine W.eq (g2 := F0 m 1705 ls [.int r]) rfl ?_
  refine lv_aload_n hx hb dl_1705 rfl (lv_at hl 2 rfl) ?_
  refine zlaw_call (z := 344) (a := A) (as := []) (rest := [.int r]) hx hb hml hown hw hT hX hS1 hl.1 (by decide) (by decide +kernel) (by rw [kA, show zMc 344 = 12 by decide +kernel]) hc9 n3 n4 (Nat.le_of_ble_eq_true (by simp only [Value.category, List.map, List.sum_cons, List.sum_nil]; decide +kernel)) (by rw [show zNp 344 = 0 by decide +kernel]; rfl) rfl (by simp [Value.category]) hc1 hs1 dl_1706 (fun H locs hS2 => ?_)
  refine W.eq (g2 := F0 m 1709 ls [.int r, .int r]) rfl ?_
  exact lv_icmp_eq (tgt := 1727) hx hb dl_1709 (by decide) (fun _ => kk m2 H locs hS2 hsim2) (fun q => absurd rfl q)
set_option maxHeartbeats 4000000 in
theorem law_c47 (hx : p.tables.exec = Jvm.exec) (hb : c.code = code) (hml : c.maxLocals = 4) (hown : s.vm.findClass R_law = some m.cls) (hw : ∀ w ∈ zTw, w.before #[Value.ref b] s = true) (hT : zTab G s) (hX : zStr G s) (hG : G.1 = s.heap.size) (hscr : va_X b L xs s s.heap) (hbl : b < s.heap.size) (hL : L ≤ 3072) {A cells slots i : Nat} {Sim : zMem → Prop} {mm : zMem} {H : Heap} {locs : List Loc} {ls : Array Slot} (hc1 : cells ≤ room_1.cells) (hs1 : slots ≤ room_1.slots) (hS : zSt G s.heap mm H locs) (hsim : Sim mm) (hl : lv_has ls 4 [(0, .ref b), (1, .ref (G.1 + 0)), (2, .ref (G.1 + A)), (3, .int (nI i))]) (hi : i + 6 ≤ L) (hok : zOkI Sim A 193 345 []) (kk : ∀ (m2 : zMem) (H2 : Heap) (locs2 : List Loc), zSt G s.heap m2 H2 locs2 → Sim m2 → W p l e room_1 s m #[Value.ref b] below meth c H2 locs2 cells slots Q (F0 m 1727 ls [])) : W p l e room_1 s m #[Value.ref b] below meth c H locs cells slots Q (F0 m 1714 ls []) := by
  have hbA : ¬ (fun q : Nat => s.heap.size ≤ q) b := Nat.not_le.mpr hbl
  refine lv_aload_n hx hb dl_1714 rfl (lv_at hl 1 rfl) ?_
  obtain ⟨r, m1, m2, hc0, hc9, ⟨n1, n2, n3, n4⟩, k0, kA, hsim2⟩ := hok mm hsim
  refine zlaw_call (z := 193) (a := 0) (as := []) (rest := []) hx hb hml hown hw hT hX hS hl.1 (by decide) (by decide +kernel) (by rw [k0, show zMc 193 = 11 by decide +kernel]) hc0 n1 n2 (Nat.le_of_ble_eq_true (by simp only [Value.category, List.map, List.sum_cons, List.sum_nil]; decide +kernel)) (by rw [show zNp 193 = 0 by decide +kernel]; rfl) rfl (by decide) hc1 hs1 dl_1715 (fun H locs hS1 => ?_)
  refine W.eq (g2 := F0 m 1718 ls [.int r]) rfl ?_
  refine lv_aload_n hx hb dl_1718 rfl (lv_at hl 2 rfl) ?_
  refine zlaw_call (z := 345) (a := A) (as := []) (rest := [.int r]) hx hb hml hown hw hT hX hS1 hl.1 (by decide) (by decide +kernel) (by rw [kA, show zMc 345 = 12 by decide +kernel]) hc9 n3 n4 (Nat.le_of_ble_eq_true (by simp only [Value.category, List.map, List.sum_cons, List.sum_nil]; decide +kernel)) (by rw [show zNp 345 = 0 by decide +kernel]; rfl) rfl (by simp [Value.category]) hc1 hs1 dl_1719 (fun H locs hS2 => ?_)
  refine W.eq (g2 := F0 m 1722 ls [.int r, .int r]) rfl ?_
  exact lv_icmp_eq (tgt := 1727) hx hb dl_1722 (by decide) (fun _ => kk m2 H locs hS2 hsim2) (fun q => absurd rfl q)
/-- what is left to show: every call of every run -/
def zLawOk (Sim : zMem → Prop) (A : Nat) : Prop :=
  (zOkI Sim A 25 196 []) ∧
  (zOkL Sim A 26 197 []) ∧
  (zOkL Sim A 27 198 []) ∧
  (∀ (y0 : Int32) (y1 : Int32) (y2 : Int32), zOkI Sim A 28 199 [.int y0, .int y1, .int y2]) ∧
  (∀ (y0 : Int32) (y1 : Int32) (y2 : Int64), zOkI Sim A 34 201 [.int y0, .int y1, .long y2]) ∧
  (∀ (y0 : Int32) (y1 : Int32), zOkL Sim A 38 205 [.int y0, .int y1]) ∧
  (∀ (y0 : Int32) (y1 : Int32) (y2 : Int32) (y3 : Int32) (y4 : Int32), zOkI Sim A 40 206 [.int y0, .int y1, .int y2, .int y3, .int y4]) ∧
  (∀ (y0 : Int32) (y1 : Int32) (y2 : Int32) (y3 : Int32) (y4 : Int32), zOkI Sim A 43 207 [.int y0, .int y1, .int y2, .int y3, .int y4]) ∧
  (∀ (y0 : Int32), zOkI Sim A 45 210 [.int y0]) ∧
  (∀ (y0 : Int32), zOkI Sim A 87 258 [.int y0]) ∧
  (∀ (y0 : Int32), zOkI Sim A 95 209 [.int y0]) ∧
  (∀ (y0 : Int32), zOkI Sim A 96 262 [.int y0]) ∧
  (∀ (y0 : Int32) (y1 : Int32), zOkI Sim A 105 273 [.int y0, .int y1]) ∧
  (∀ (y0 : Int32) (y1 : Int32), zOkI Sim A 110 278 [.int y0, .int y1]) ∧
  (∀ (y0 : Int32) (y1 : Int32), zOkI Sim A 113 281 [.int y0, .int y1]) ∧
  (∀ (y0 : Int32) (y1 : Int32), zOkI Sim A 115 282 [.int y0, .int y1]) ∧
  (∀ (y0 : Int32), zOkI Sim A 117 283 [.int y0]) ∧
  (∀ (y0 : Int32) (y1 : Int32), zOkI Sim A 118 285 [.int y0, .int y1]) ∧
  (∀ (y0 : Int32) (y1 : Int32), zOkI Sim A 121 287 [.int y0, .int y1]) ∧
  (∀ (y0 : Int32), zOkI Sim A 123 289 [.int y0]) ∧
  (∀ (y0 : Int32) (y1 : Int32) (y2 : Int32), zOkI Sim A 126 291 [.int y0, .int y1, .int y2]) ∧
  (∀ (y0 : Int32) (y1 : Int32), zOkI Sim A 127 292 [.int y0, .int y1]) ∧
  (∀ (y0 : Int32), zOkI Sim A 128 293 [.int y0]) ∧
  (∀ (y0 : Int32), zOkI Sim A 129 294 [.int y0]) ∧
  (∀ (y0 : Int32) (y1 : Int32) (y2 : Int32), zOkI Sim A 130 295 [.int y0, .int y1, .int y2]) ∧
  (∀ (y0 : Int32) (y1 : Int32), zOkI Sim A 131 296 [.int y0, .int y1]) ∧
  (∀ (y0 : Int32) (y1 : Int32), zOkI Sim A 132 297 [.int y0, .int y1]) ∧
  (∀ (y0 : Int32) (y1 : Int32), zOkI Sim A 140 303 [.int y0, .int y1]) ∧
  (∀ (y0 : Int32) (y1 : Int32) (y2 : Int32), zOkI Sim A 141 304 [.int y0, .int y1, .int y2]) ∧
  (∀ (y0 : Int32), zOkI Sim A 143 305 [.int y0]) ∧
  (∀ (y0 : Int32) (y1 : Int32), zOkI Sim A 144 306 [.int y0, .int y1]) ∧
  (∀ (y0 : Int32) (y1 : Int32) (y2 : Int32), zOkI Sim A 149 311 [.int y0, .int y1, .int y2]) ∧
  (∀ (y0 : Int32) (y1 : Int32), zOkI Sim A 150 312 [.int y0, .int y1]) ∧
  (∀ (y0 : Int32) (y1 : Int32), zOkI Sim A 152 313 [.int y0, .int y1]) ∧
  (∀ (y0 : Int32), zOkI Sim A 155 315 [.int y0]) ∧
  (∀ (y0 : Int32), zOkI Sim A 158 318 [.int y0]) ∧
  (∀ (y0 : Int32) (y1 : Int32), zOkI Sim A 159 319 [.int y0, .int y1]) ∧
  (zOkI Sim A 162 322 []) ∧
  (∀ (y0 : Int32), zOkI Sim A 166 324 [.int y0]) ∧
  (∀ (y0 : Int32) (y1 : Int32) (y2 : Int32), zOkI Sim A 169 325 [.int y0, .int y1, .int y2]) ∧
  (∀ (y0 : Int32) (y1 : Int32) (y2 : Int32), zOkI Sim A 173 328 [.int y0, .int y1, .int y2]) ∧
  (∀ (y0 : Int32) (y1 : Int32), zOkI Sim A 174 329 [.int y0, .int y1]) ∧
  (∀ (y0 : Int32), zOkI Sim A 177 330 [.int y0]) ∧
  (∀ (y0 : Int32), zOkI Sim A 178 331 [.int y0]) ∧
  (∀ (y0 : Int32), zOkI Sim A 190 342 [.int y0]) ∧
  (∀ (y0 : Int32) (y1 : Int32), zOkI Sim A 191 343 [.int y0, .int y1]) ∧
  (zOkI Sim A 192 344 []) ∧
  (zOkI Sim A 193 345 [])
set_option maxHeartbeats 8000000 in
theorem law_loop (hx : p.tables.exec = Jvm.exec) (hb : c.code = code) (hml : c.maxLocals = 4) (hown : s.vm.findClass R_law = some m.cls) (hw : ∀ w ∈ zTw, w.before #[Value.ref b] s = true) (hT : zTab G s) (hX : zStr G s) (hG : G.1 = s.heap.size) (hscr : va_X b L xs s s.heap) (hbl : b < s.heap.size) (hL : L ≤ 3072) {A cells slots : Nat} {Sim : zMem → Prop} (hc1 : cells ≤ room_1.cells) (hs1 : slots ≤ room_1.slots) (hok : zLawOk Sim A) (hQ : Q = lw_Z below #[Value.ref b] s) (hlocks : meth.locks = false) (hr : meth.sig.returnType = ret) :
    ∀ (n i : Nat) (mm : zMem) (H : Heap) (locs : List Loc) (ls : Array Slot), i ≤ 3072 → 3072 < i + n → zSt G s.heap mm H locs → Sim mm → lv_has ls 4 [(0, .ref b), (1, .ref (G.1 + 0)), (2, .ref (G.1 + A)), (3, .int (nI i))] → W p l e room_1 s m #[Value.ref b] below meth c H locs cells slots Q (F0 m 18 ls []) := by
  have hbA : ¬ (fun q : Nat => s.heap.size ≤ q) b := Nat.not_le.mpr hbl
  intro n
  induction n with
  | zero => intro i mm H locs ls h1 h2; omega
  | succ n ih =>
    intro i mm H locs ls h1 h2 hS hsim hl
    refine lv_iload_n hx hb dl_18 rfl (lv_at hl 3 rfl) ?_
    refine lv_aload_n hx hb dl_19 rfl (lv_at hl 0 rfl) ?_
    refine va_slen hx hb hscr hbl hbA (zlaw_S hG hS) dl_20 ?_
    refine lv_bipush (v := 6) hx hb dl_21 (by decide) ?_
    refine lv_isub hx hb dl_23 ?_
    refine lv_icmp_gt (tgt := 1733) hx hb dl_24 (by decide) (fun cgt => ?_) (fun cgt => ?_)
    · subst hQ
      refine lv_iconst (v := 1) hx hb dl_1733 (by decide) ?_
      refine va_forget (fun q hq => by rw [← hG]; exact hS.2.2.2.2 q hq) ?_
      refine W.widen (k := 600000) (n := 7302250) hc1 hs1 ?_
      exact lw_ret hx hb hr hlocks dl_1734
    · have hi : i + 6 ≤ L := by
        have e1 : (nI L - nI 6).toInt = (L : Int) - 6 := pk_sub_toInt (by omega) (by omega)
        have e2 : (nI i).toInt = (i : Int) := nI_toInt (by omega)
        have h3 : ¬ (nI L - nI 6) < nI i := cgt
        rw [Int32.lt_iff_toInt_lt, e1, e2] at h3
        omega
      refine lv_aload_n hx hb dl_27 rfl (lv_at hl 0 rfl) ?_
      refine lv_iload_n hx hb dl_28 rfl (lv_at hl 3 rfl) ?_
      refine va_sld hx hb hscr hbl hbA (zlaw_S hG hS) (vp_in_nI (by omega) (by omega)) dl_29 ?_
      refine lv_bipush (v := 63) hx hb dl_30 (by decide) ?_
      refine lv_iand hx hb dl_32 ?_
      have kk : ∀ (m2 : zMem) (H2 : Heap) (locs2 : List Loc), zSt G s.heap m2 H2 locs2 → Sim m2 → W p l e room_1 s m #[Value.ref b] below meth c H2 locs2 cells slots Q (F0 m 1727 ls []) := by
        intro m2 H2 locs2 hS2 hsim2
        refine lv_iinc (v := nI (i + 6)) (lv' := [(3, .int (nI (i + 6))), (0, .ref b), (1, .ref (G.1 + 0)), (2, .ref (G.1 + A))]) hx hb dl_1727 hl (k := 3) rfl (nI_add i 6) (by decide) rfl (fun ls hl => ?_)
        refine lv_goto (tgt := 18) hx hb dl_1730 (by decide) ?_
        exact ih (i + 6) m2 H2 locs2 ls (by omega) (by omega) hS2 hsim2 (lv_sub hl [1, 2, 3, 0] rfl)
      obtain ⟨j, hj, ej⟩ := pk_andE (xs (nI i).toNatClampNeg) (m := 63) 6 (by decide)
      rw [ej]
      by_cases h48 : 48 ≤ j
      · exact lv_tableOut (tgt := 1727) hx hb dl_33 (Or.inr (by rw [nI_toInt (by omega)]; omega)) (by decide) (kk mm H locs hS hsim)
      · have tab : ∀ (off : Int) (tgt : Nat), (#[207, 220, 234, 248, 291, 364, 398, 461, 524, 547, 570, 593, 616, 649, 682, 715, 748, 771, 804, 837, 860, 903, 936, 959, 982, 1025, 1058, 1091, 1124, 1167, 1190, 1223, 1266, 1299, 1332, 1355, 1378, 1411, 1424, 1447, 1490, 1533, 1566, 1589, 1612, 1635, 1668, 1681] : Array Int)[j]? = some off → ((33 : Nat) : Int) + off = (tgt : Int) → W p l e room_1 s m #[Value.ref b] below meth c H locs cells slots Q (F0 m tgt ls []) → W p l e room_1 s m #[Value.ref b] below meth c H locs cells slots Q (F0 m 33 ls [.int (nI j)]) := by
          intro off tgt ho ht k9
          have e1 : (nI j).toInt = (j : Int) := nI_toInt (by omega)
          refine lv_tableIn (off := off) (tgt := tgt) hx hb dl_33 (by rw [e1]; omega) (by rw [e1]; omega) ?_ ht k9
          rw [e1, show ((j : Int) - 0).toNat = j by omega]
          exact ho
        obtain ⟨o0, o1, o2, o3, o4, o5, o6, o7, o8, o9, o10, o11, o12, o13, o14, o15, o16, o17, o18, o19, o20, o21, o22, o23, o24, o25, o26, o27, o28, o29, o30, o31, o32, o33, o34, o35, o36, o37, o38, o39, o40, o41, o42, o43, o44, o45, o46, o47⟩ := hok
        match j, h48, tab with
        | 0, _, tab => exact tab 207 240 rfl (by decide) (law_c0 hx hb hml hown hw hT hX hG hscr hbl hL hc1 hs1 hS hsim hl hi o0 kk)
        | 1, _, tab => exact tab 220 253 rfl (by decide) (law_c1 hx hb hml hown hw hT hX hG hscr hbl hL hc1 hs1 hS hsim hl hi o1 kk)
        | 2, _, tab => exact tab 234 267 rfl (by decide) (law_c2 hx hb hml hown hw hT hX hG hscr hbl hL hc1 hs1 hS hsim hl hi o2 kk)
        | 3, _, tab => exact tab 248 281 rfl (by decide) (law_c3 hx hb hml hown hw hT hX hG hscr hbl hL hc1 hs1 hS hsim hl hi o3 kk)
        | 4, _, tab => exact tab 291 324 rfl (by decide) (law_c4 hx hb hml hown hw hT hX hG hscr hbl hL hc1 hs1 hS hsim hl hi o4 kk)
        | 5, _, tab => exact tab 364 397 rfl (by decide) (law_c5 hx hb hml hown hw hT hX hG hscr hbl hL hc1 hs1 hS hsim hl hi o5 kk)
        | 6, _, tab => exact tab 398 431 rfl (by decide) (law_c6 hx hb hml hown hw hT hX hG hscr hbl hL hc1 hs1 hS hsim hl hi o6 kk)
        | 7, _, tab => exact tab 461 494 rfl (by decide) (law_c7 hx hb hml hown hw hT hX hG hscr hbl hL hc1 hs1 hS hsim hl hi o7 kk)
        | 8, _, tab => exact tab 524 557 rfl (by decide) (law_c8 hx hb hml hown hw hT hX hG hscr hbl hL hc1 hs1 hS hsim hl hi o8 kk)
        | 9, _, tab => exact tab 547 580 rfl (by decide) (law_c9 hx hb hml hown hw hT hX hG hscr hbl hL hc1 hs1 hS hsim hl hi o9 kk)
        | 10, _, tab => exact tab 570 603 rfl (by decide) (law_c10 hx hb hml hown hw hT hX hG hscr hbl hL hc1 hs1 hS hsim hl hi o10 kk)
        | 11, _, tab => exact tab 593 626 rfl (by decide) (law_c11 hx hb hml hown hw hT hX hG hscr hbl hL hc1 hs1 hS hsim hl hi o11 kk)
        | 12, _, tab => exact tab 616 649 rfl (by decide) (law_c12 hx hb hml hown hw hT hX hG hscr hbl hL hc1 hs1 hS hsim hl hi o12 kk)
        | 13, _, tab => exact tab 649 682 rfl (by decide) (law_c13 hx hb hml hown hw hT hX hG hscr hbl hL hc1 hs1 hS hsim hl hi o13 kk)
        | 14, _, tab => exact tab 682 715 rfl (by decide) (law_c14 hx hb hml hown hw hT hX hG hscr hbl hL hc1 hs1 hS hsim hl hi o14 kk)
        | 15, _, tab => exact tab 715 748 rfl (by decide) (law_c15 hx hb hml hown hw hT hX hG hscr hbl hL hc1 hs1 hS hsim hl hi o15 kk)
        | 16, _, tab => exact tab 748 781 rfl (by decide) (law_c16 hx hb hml hown hw hT hX hG hscr hbl hL hc1 hs1 hS hsim hl hi o16 kk)
        | 17, _, tab => exact tab 771 804 rfl (by decide) (law_c17 hx hb hml hown hw hT hX hG hscr hbl hL hc1 hs1 hS hsim hl hi o17 kk)
        | 18, _, tab => exact tab 804 837 rfl (by decide) (law_c18 hx hb hml hown hw hT hX hG hscr hbl hL hc1 hs1 hS hsim hl hi o18 kk)
        | 19, _, tab => exact tab 837 870 rfl (by decide) (law_c19 hx hb hml hown hw hT hX hG hscr hbl hL hc1 hs1 hS hsim hl hi o19 kk)
        | 20, _, tab => exact tab 860 893 rfl (by decide) (law_c20 hx hb hml hown hw hT hX hG hscr hbl hL hc1 hs1 hS hsim hl hi o20 kk)
        | 21, _, tab => exact tab 903 936 rfl (by decide) (law_c21 hx hb hml hown hw hT hX hG hscr hbl hL hc1 hs1 hS hsim hl hi o21 kk)
        | 22, _, tab => exact tab 936 969 rfl (by decide) (law_c22 hx hb hml hown hw hT hX hG hscr hbl hL hc1 hs1 hS hsim hl hi o22 kk)
        | 23, _, tab => exact tab 959 992 rfl (by decide) (law_c23 hx hb hml hown hw hT hX hG hscr hbl hL hc1 hs1 hS hsim hl hi o23 kk)
        | 24, _, tab => exact tab 982 1015 rfl (by decide) (law_c24 hx hb hml hown hw hT hX hG hscr hbl hL hc1 hs1 hS hsim hl hi o24 kk)
        | 25, _, tab => exact tab 1025 1058 rfl (by decide) (law_c25 hx hb hml hown hw hT hX hG hscr hbl hL hc1 hs1 hS hsim hl hi o25 kk)
        | 26, _, tab => exact tab 1058 1091 rfl (by decide) (law_c26 hx hb hml hown hw hT hX hG hscr hbl hL hc1 hs1 hS hsim hl hi o26 kk)
        | 27, _, tab => exact tab 1091 1124 rfl (by decide) (law_c27 hx hb hml hown hw hT hX hG hscr hbl hL hc1 hs1 hS hsim hl hi o27 kk)
        | 28, _, tab => exact tab 1124 1157 rfl (by decide) (law_c28 hx hb hml hown hw hT hX hG hscr hbl hL hc1 hs1 hS hsim hl hi o28 kk)
        | 29, _, tab => exact tab 1167 1200 rfl (by decide) (law_c29 hx hb hml hown hw hT hX hG hscr hbl hL hc1 hs1 hS hsim hl hi o29 kk)
        | 30, _, tab => exact tab 1190 1223 rfl (by decide) (law_c30 hx hb hml hown hw hT hX hG hscr hbl hL hc1 hs1 hS hsim hl hi o30 kk)
        | 31, _, tab => exact tab 1223 1256 rfl (by decide) (law_c31 hx hb hml hown hw hT hX hG hscr hbl hL hc1 hs1 hS hsim hl hi o31 kk)
        | 32, _, tab => exact tab 1266 1299 rfl (by decide) (law_c32 hx hb hml hown hw hT hX hG hscr hbl hL hc1 hs1 hS hsim hl hi o32 kk)
        | 33, _, tab => exact tab 1299 1332 rfl (by decide) (law_c33 hx hb hml hown hw hT hX hG hscr hbl hL hc1 hs1 hS hsim hl hi o33 kk)
        | 34, _, tab => exact tab 1332 1365 rfl (by decide) (law_c34 hx hb hml hown hw hT hX hG hscr hbl hL hc1 hs1 hS hsim hl hi o34 kk)
        | 35, _, tab => exact tab 1355 1388 rfl (by decide) (law_c35 hx hb hml hown hw hT hX hG hscr hbl hL hc1 hs1 hS hsim hl hi o35 kk)
        | 36, _, tab => exact tab 1378 1411 rfl (by decide) (law_c36 hx hb hml hown hw hT hX hG hscr hbl hL hc1 hs1 hS hsim hl hi o36 kk)
        | 37, _, tab => exact tab 1411 1444 rfl (by decide) (law_c37 hx hb hml hown hw hT hX hG hscr hbl hL hc1 hs1 hS hsim hl hi o37 kk)
        | 38, _, tab => exact tab 1424 1457 rfl (by decide) (law_c38 hx hb hml hown hw hT hX hG hscr hbl hL hc1 hs1 hS hsim hl hi o38 kk)
        | 39, _, tab => exact tab 1447 1480 rfl (by decide) (law_c39 hx hb hml hown hw hT hX hG hscr hbl hL hc1 hs1 hS hsim hl hi o39 kk)
        | 40, _, tab => exact tab 1490 1523 rfl (by decide) (law_c40 hx hb hml hown hw hT hX hG hscr hbl hL hc1 hs1 hS hsim hl hi o40 kk)
        | 41, _, tab => exact tab 1533 1566 rfl (by decide) (law_c41 hx hb hml hown hw hT hX hG hscr hbl hL hc1 hs1 hS hsim hl hi o41 kk)
        | 42, _, tab => exact tab 1566 1599 rfl (by decide) (law_c42 hx hb hml hown hw hT hX hG hscr hbl hL hc1 hs1 hS hsim hl hi o42 kk)
        | 43, _, tab => exact tab 1589 1622 rfl (by decide) (law_c43 hx hb hml hown hw hT hX hG hscr hbl hL hc1 hs1 hS hsim hl hi o43 kk)
        | 44, _, tab => exact tab 1612 1645 rfl (by decide) (law_c44 hx hb hml hown hw hT hX hG hscr hbl hL hc1 hs1 hS hsim hl hi o44 kk)
        | 45, _, tab => exact tab 1635 1668 rfl (by decide) (law_c45 hx hb hml hown hw hT hX hG hscr hbl hL hc1 hs1 hS hsim hl hi o45 kk)
        | 46, _, tab => exact tab 1668 1701 rfl (by decide) (law_c46 hx hb hml hown hw hT hX hG hscr hbl hL hc1 hs1 hS hsim hl hi o46 kk)
        | 47, _, tab => exact tab 1681 1714 rfl (by decide) (law_c47 hx hb hml hown hw hT hX hG hscr hbl hL hc1 hs1 hS hsim hl hi o47 kk)
        | j + 48, h48, _ => exact absurd (Nat.le_add_left 48 j) h48
end ZLAW
