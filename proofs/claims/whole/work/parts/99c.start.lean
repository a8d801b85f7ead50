/-! THE LAW FROM ITS ENTRY -/
theorem all_ok : zLawOk Sim 180 := ⟨ob_status, ob_top, ob_bottom, ob_tray, ob_write, ob_read, ob_pour, ob_feed, ob_land, ob_decades, ob_fault, ob_many, ob_deed, ob_payer, ob_near, ob_part, ob_copyTax, ob_step, ob_shrink, ob_year, ob_price, ob_hire, ob_forgive, ob_come, ob_dream, ob_rule, ob_plan, ob_planSet, ob_lure, ob_owesIn, ob_fits, ob_fitsAt, ob_sure, ob_ask, ob_rounds, ob_crew, ob_split, ob_help, ob_helped, ob_game, ob_moveOf, ob_luck, ob_bears, ob_live, ob_lived, ob_mean, ob_mark, ob_back⟩
section ZST
variable {p : Program} {l : Launch} {e : Env} {s : State} {m : MethodId} {below : List Frame} {meth : Method} {c : Code} {b : Nat} {G : zG} {Q : State → Prop}
/-- new, in the law's body -/
theorem zlaw_new {H : Heap} {locs : List Loc} {ls : Array Slot} {pc ix cl cells slots : Nat} {st : List Value} {mm : zMem} (hx : p.tables.exec = Jvm.exec) (hb : c.code = code) (hown : s.vm.findClass R_law = some m.cls) (hw : ∀ w ∈ zTw, w.before #[Value.ref b] s = true) (hT : zTab G s) (hS : zSt G s.heap mm H locs) (hlk : (Jvm.Cond.classLink R_law ix (zCn cl)).before #[Value.ref b] s = true) (h13 : cl < 13) (hc1 : cells + 1 ≤ room_1.cells) (hs1 : slots + zN cl ≤ room_1.slots) (hd : decode code pc = .ok (.new ix, 3))
    (kk : ∀ H' : Heap, zSt G s.heap (mkCell mm (100 + cl) (zN cl)) H' locs → W p l e room_1 s m #[Value.ref b] below meth c H' locs (cells + 1) (slots + zN cl) Q (F0 m (pc + 3) ls (.ref (G.1 + memN mm) :: st))) : W p l e room_1 s m #[Value.ref b] below meth c H locs cells slots Q (F0 m pc ls st) := by
  have hKn := hT.1 cl h13
  refine W.newcK hx hb hown hlk (hw _ (zw_inst h13).1) (hw _ (zw_inst h13).2) rfl hd hc1 hs1 hKn.2.1 hS.1 fun H1 kC hkC e1 z1 o1 => ?_
  have eK : memK (mkCell mm (100 + cl) (zN cl)) (memN mm) = (100 + cl, zN cl) := if_pos rfl
  refine kk H1 (hS.make (by rw [z1, hS.1]) (fun q hq => o1 q (by rw [← hS.1]; exact hq)) (Or.inr ⟨cl, by rw [eK], h13, ?_⟩))
  exact (u_born (zTy cl) hw (zw_lay h13) hKn hkC e1 (fun k hk => (zf_ty h13 hk).1)).to (fun k hk => z_born mm _ _ h13 hk)
/-- a constructor's call, in the law's body -/
theorem zlaw_ctor {H : Heap} {locs : List Loc} {ls : Array Slot} {pc ix z a cells slots : Nat} {rest : List Value} {mm m1 : zMem} (hx : p.tables.exec = Jvm.exec) (hb : c.code = code) (hml : c.maxLocals = 4) (hown : s.vm.findClass R_law = some m.cls) (hw : ∀ w ∈ zTw, w.before #[Value.ref b] s = true) (hT : zTab G s) (hX : zStr G s) (hS : zSt G s.heap mm H locs) (hls : ls.size = 4)
    (hlk : (ix, z) ∈ zLawC) (hin : (zNm z).name = "<init>") (hrt : zRt z = none) (hc : call 40 z [.ref a] mm = some (none, m1)) (hcat : 1 ≤ zML z) (hnp : zNp z = 0) (h8 : (rest.map fun v => v.category).sum ≤ 8) (hc1 : cells + (memN m1 - memN mm) ≤ room_1.cells) (hs1 : slots + (memS m1 - memS mm) ≤ room_1.slots) (hd : decode code pc = .ok (.invokespecial ix, 3))
    (kk : ∀ (H' : Heap) (locs' : List Loc), zSt G s.heap m1 H' locs' → W p l e room_1 s m #[Value.ref b] below meth c H' locs' (cells + (memN m1 - memN mm)) (slots + (memS m1 - memS mm)) Q (F0 m (pc + 3) ls rest)) : W p l e room_1 s m #[Value.ref b] below meth c H locs cells slots Q (F0 m pc ls (.ref (G.1 + a) :: rest)) := by
  have hck := List.all_eq_true.mp zLawC_in _ hlk
  simp only [Bool.and_eq_true, Bool.or_eq_true, decide_eq_true_eq] at hck
  obtain ⟨⟨⟨c1, c2⟩, c3⟩, -⟩ := hck
  have hz := zMth_of c1 (by omega) (by omega)
  have hM := call_met l G hz (as := [.ref a]) (by rw [List.map_cons, List.sum_cons, show (Value.ref a).category = 1 from rfl]; simpa using hcat) hc
  have hlink : Jvm.Cond.methodLink R_law ix (zNm z) ∈ zTw := zTw_of zLawC_ok _ (List.mem_map.mpr ⟨(ix, z), hlk, rfl⟩) rfl
  have hini : Jvm.Cond.initialized (zNm z).cls ∈ zTw := by rw [hz.2.1]; exact (zw_inst c2).2
  have hwz : zWs z = Jvm.Cond.code (zNm z) (zB z) (zML z) none :: zTw := by unfold zWs; rw [hrt]
  have hroom : ({ frames := 40, cells := memN m1 - memN mm, slots := memS m1 - memS mm, locals := 40 * 40 } : Room).frames + 1 ≤ room_1.frames ∧ 8 + (zML z + 11) + ({ frames := 40, cells := memN m1 - memN mm, slots := memS m1 - memS mm, locals := 40 * 40 } : Room).locals ≤ room_1.locals := ⟨by show 40 + 1 ≤ 2048; decide, by have := hz.2.2.2.2; show 8 + (zML z + 11) + 40 * 40 ≤ 84000; omega⟩
  have hrun := va_runI (R := room_1) (cells := cells) (slots := slots) (locs := locs) (meth := meth) (e := e) (below := below) (own := R_law) (index := ix) (bytes := zB z) (maxL := zML z) (n := zNp z) (b := G.1 + a) (As := []) (rest := rest) (g := F0 m pc ls (.ref (G.1 + a) :: rest)) ⟨hx, hb, hml, hown, hw⟩ hM (cwI (Ts := zTw) (zNp z) hw (zWs_good hz) hwz rfl rfl (hw _ hini) (hw _ hlink) (hw _ (zTw_ins c3)) hin hz.2.2.2.1 hroom) ⟨zPc_blind G _ mm, zs_pre (as := [.ref a]) hT hX rfl hS⟩ rfl hnp.symm hls rfl (by show 2 * 0 + _ ≤ 8; omega) hd ⟨hc1, hs1⟩
  intro T hT' X
  obtain ⟨v, st₀, t, T', L9, h0, X', hL, e1, e2, ⟨hv, hz9⟩, stp⟩ := hrun T hT' X
  have hv' : v = (none : Option Value).map (cvV G) := by injection hv
  subst hv'
  rw [h0] at hz9
  have hz' : zSt G s.heap m1 T'.heap (locs ++ L9) := by
    rw [e1]
    refine ⟨hz9.1, hz9.2.1, hz9.2.2.1, fun q hq => (hz9.2.2.2.1 q hq).trans (hS.2.2.2.1 q hq), fun q hq => ?_⟩
    rcases List.mem_append.mp hq with h | h
    · exact hS.2.2.2.2 q h
    · exact hL q h
  obtain ⟨t2, a1, b1⟩ := kk T'.heap _ hz' T' rfl X'
  exact ⟨t2, stp t2 a1, b1⟩
end ZST
theorem ent_0 {s : State} {G : zG} (hG : G.1 = s.heap.size) : zSt G s.heap mem0 s.heap [] := ⟨by rw [hG]; rfl, fun k _ => rfl, fun k hk => absurd hk (Nat.not_lt_zero k), fun q _ => rfl, fun q hq => absurd hq List.not_mem_nil⟩
set_option maxHeartbeats 4000000 in
theorem whole_start {p : Program} {e : Env} {s : State} {m : MethodId} {below : List Frame} {meth : Method} {c : Code} (l : Launch) {b L : Nat} {xs : Nat → Int32} (hL : L ≤ 3072) (C0 : lw_At p s m meth c b L xs) : W p l e room_1 s m #[Value.ref b] below meth c s.heap [] 0 0 (lw_Z below #[Value.ref b] s) (entryFrame m ([Value.ref b] : List Value).toArray 4) := by
  obtain ⟨hx, hb, hr, hml, hown, hts, hX, hbl, hlocks, hgv⟩ := C0
  have hw : ∀ w ∈ zTw, w.before #[Value.ref b] s = true := fun w h => hts w (zTw_in w h)
  obtain ⟨G, hG, hT, hStr⟩ := ent_G hgv hts
  obtain ⟨m1, m2, q1, n1, s1, -, q2, n2, s2, hsim⟩ := fresh_all
  have hl := lv_entry ([.ref b]) (n := 4) (Nat.le_of_ble_eq_true rfl)
  rw [lg_entry_eq]
  generalize (lg_sl ([.ref b]) ++ List.replicate (4 - (lg_sl ([.ref b])).length) Slot.unset).toArray = ls at hl ⊢
  have hl : lv_has ls 4 [(0, .ref b)] := hl
  refine W.eq (g2 := F0 m 0 ls []) rfl ?_
  refine zlaw_new (cl := 11) (mm := mem0) hx hb hown hw hT (ent_0 hG) (ent_w hts (List.mem_of_getElem? (i := 12) rfl)) (by decide) (by decide) (by rw [show zN 11 = 19 by decide +kernel]; decide) dl_0 (fun H hS => ?_)
  rw [show zN 11 = 19 by decide +kernel] at hS ⊢
  refine lv_dup hx hb dl_3 rfl ?_
  refine zlaw_ctor (z := 0) (a := 0) (rest := [.ref (G.1 + 0)]) hx hb hml hown hw hT hStr hS hl.1 (by decide) (by decide +kernel) (by decide +kernel) q1 (by decide +kernel) (by decide +kernel) (by simp [Value.category]) (by rw [n1]; decide) (by rw [s1]; decide) dl_4 (fun H locs hS => ?_)
  rw [n1, s1]
  refine lv_astore_n (lv' := [(1, .ref (G.1 + 0)), (0, .ref b)]) hx hb dl_7 rfl hl (by decide) rfl (fun ls hl => ?_)
  refine zlaw_new (cl := 12) (mm := m1) hx hb hown hw hT hS (ent_w hts (List.mem_of_getElem? (i := 13) rfl)) (by decide) (by decide) (by rw [show zN 12 = 44 by decide +kernel]; decide) dl_8 (fun H hS => ?_)
  rw [show zN 12 = 44 by decide +kernel] at hS ⊢
  rw [n1]
  refine lv_dup hx hb dl_11 rfl ?_
  refine zlaw_ctor (z := 194) (a := 180) (rest := [.ref (G.1 + 180)]) hx hb hml hown hw hT hStr hS hl.1 (by decide) (by decide +kernel) (by decide +kernel) q2 (by decide +kernel) (by decide +kernel) (by simp [Value.category]) (by rw [n2, memN_mk m1, n1]; decide) (by rw [s2, memS_mk m1, s1]; decide) dl_12 (fun H locs hS => ?_)
  rw [n2, s2, memN_mk m1, n1, memS_mk m1, s1]
  refine lv_astore_n (lv' := [(2, .ref (G.1 + 180)), (1, .ref (G.1 + 0)), (0, .ref b)]) hx hb dl_15 rfl hl (by decide) rfl (fun ls hl => ?_)
  refine lv_iconst (v := nI 0) hx hb dl_16 (by decide) ?_
  refine lv_istore_n (lv' := [(3, .int (nI 0)), (2, .ref (G.1 + 180)), (1, .ref (G.1 + 0)), (0, .ref b)]) hx hb dl_17 rfl hl (by decide) rfl (fun ls hl => ?_)
  exact law_loop hx hb hml hown hw hT hStr hG hX hbl hL (by decide) (by decide) all_ok rfl hlocks hr 3073 0 m2 H locs ls (by omega) (by omega) hS hsim (lv_sub hl [3, 2, 1, 0] rfl)
