/-! THE PURE MACHINE IS SOUND, part 5: calls, and a whole method -/
def zOkM (q : MethodName × ByteArray × Nat × Option FieldType × Nat × Nat) : Bool := decide (q.2.2.2.2.1 = 99) || decide (q.2.2.2.2.1 = 14) || (decide (q.1.cls = zCn q.2.2.2.2.1) && plainName q.1.cls && decide (q.1.cls ≠ "java/lang/invoke/MethodHandle") && decide (q.1.cls ≠ "java/lang/invoke/VarHandle") && decide ((parseMethodDescriptor q.1.desc).map (fun d => d.parameters.length) = some q.2.2.2.2.2) && decide (q.2.2.1 ≤ 21))
set_option maxRecDepth 100000 in
theorem zOkM_ok : zM.all zOkM = true := by decide +kernel
def zOkC (q : (Nat × Nat) × (Nat × Nat)) : Bool := (decide (4 ≤ q.2.1) && decide (q.2.1 ≤ 7)) || decide (9 ≤ q.2.1) || (decide (zMc q.2.2 < 16) && decide (zMc q.2.2 ≠ 14) && zIni.contains (zMc q.2.2) && (decide (q.2.2 < 346)) && (if q.2.1 = 0 ∨ q.2.1 = 3 then zSts.contains q.2.2 else if q.2.1 = 1 then zIns1.contains q.2.2 && (zSel.contains q.2.2 || zPrv.contains q.2.2) else zIns1.contains q.2.2 && decide ((zNm q.2.2).name = "<init>") && decide (zRt q.2.2 = none)))
set_option maxRecDepth 100000 in
theorem zOkC_ok : zCal.all zOkC = true := by decide +kernel
/-- what the tables say of a method -/
def zMth (z : Nat) : Prop := Jvm.Cond.code (zNm z) (zB z) (zML z) (zRt z) ∈ zTw ∧ (zNm z).cls = zCn (zMc z) ∧ plainName (zNm z).cls = true ∧ ((zNm z).cls ≠ "java/lang/invoke/MethodHandle" ∧ (zNm z).cls ≠ "java/lang/invoke/VarHandle" ∧ (parseMethodDescriptor (zNm z).desc).map (fun d => d.parameters.length) = some (zNp z)) ∧ zML z ≤ 21
theorem zMth_of {z : Nat} (hz : z < 346) (h99 : zMc z ≠ 99) (h14 : zMc z ≠ 14) : zMth z := by
  cases hq : zM[z]? with
  | none =>
    have := List.getElem?_eq_none_iff.mp hq
    rw [zM_len] at this
    omega
  | some q =>
    have e1 : zNm z = q.1 := by unfold zNm; rw [hq]; rfl
    have e2 : zB z = q.2.1 := by unfold zB; rw [hq]; rfl
    have e3 : zML z = q.2.2.1 := by unfold zML; rw [hq]; rfl
    have e4 : zRt z = q.2.2.2.1 := by unfold zRt; rw [hq]; rfl
    have e5 : zMc z = q.2.2.2.2.1 := by unfold zMc; rw [hq]; rfl
    have e6 : zNp z = q.2.2.2.2.2 := by unfold zNp; rw [hq]; rfl
    have hm := List.mem_of_getElem? hq
    have h1 := List.all_eq_true.mp zOkM_ok q hm
    unfold zOkM at h1
    rw [Bool.or_eq_true, Bool.or_eq_true] at h1
    rcases h1 with (h1 | h1) | h1
    · exact absurd (by rw [e5]; exact of_decide_eq_true h1) h99
    · exact absurd (by rw [e5]; exact of_decide_eq_true h1) h14
    · simp only [Bool.and_eq_true, decide_eq_true_eq] at h1
      refine ⟨?_, ?_, ?_, ⟨?_, ?_, ?_⟩, ?_⟩
      · rw [e1, e2, e3, e4]
        have h2 : zwCode q ∈ tables_1.filter k2_isCode := by rw [zwCode_ok]; exact List.mem_map.mpr ⟨q, hm, rfl⟩
        exact List.mem_filter.mpr ⟨List.mem_append_right _ (List.mem_filter.mp h2).1, rfl⟩
      · rw [e1, e5]; exact h1.1.1.1.1.1
      · rw [e1]; exact h1.1.1.1.1.2
      · rw [e1]; exact h1.1.1.1.2
      · rw [e1]; exact h1.1.1.2
      · rw [e1, e6]; exact h1.1.2
      · rw [e3]; exact h1.2
theorem zTw_ini {c : Nat} (h : zIni.contains c = true) : Jvm.Cond.initialized (zCn c) ∈ zTw := zTw_of zwIni_ok _ (List.mem_map.mpr ⟨c, by simpa using h, rfl⟩) rfl
theorem zTw_sts {z : Nat} (h : zSts.contains z = true) : Jvm.Cond.static (zNm z) ∈ zTw := zTw_of zwSts_ok _ (List.mem_map.mpr ⟨z, by simpa using h, rfl⟩) rfl
theorem zTw_ins {z : Nat} (h : zIns1.contains z = true) : Jvm.Cond.instanceMethod (zNm z) ∈ zTw := zTw_of zwIns_ok _ (List.mem_map.mpr ⟨z, by simpa using h, rfl⟩) rfl
theorem zTw_sel {z : Nat} (h : (zSel.contains z || zPrv.contains z) = true) : Jvm.Cond.selects (zNm z).cls (zNm z) (zNm z) ∈ zTw := by
  rw [Bool.or_eq_true] at h
  rcases h with h | h
  · exact zTw_of zwSel_ok _ (List.mem_map.mpr ⟨z, by simpa using h, rfl⟩) rfl
  · exact List.mem_filter.mpr ⟨List.mem_append_left _ (zSub_mem _ _ zwPrv_ok _ (List.mem_map.mpr ⟨z, by simpa using h, rfl⟩)), rfl⟩
theorem zNest_3 (a b z : Nat) : zNest ((a, b), (3, z)) = true := rfl
theorem zNest_2 (a b z : Nat) : zNest ((a, b), (2, z)) = true := rfl
theorem zWs_good {z : Nat} (h : zMth z) : GoodIn zTw (zWs z) := by
  intro w hw
  rcases List.mem_cons.mp hw with rfl | hw
  · exact zTw_good _ h.1
  · exact zTw_good _ hw
theorem zTab.same {G : zG} {u U : State} (h : U.vm = u.vm) (hT : zTab G u) : zTab G U := by
  have hal : u.vm.Alike U.vm := by rw [h]; exact Vm.Alike.refl _
  exact ⟨fun c hc => u_Kn_moved hal (hT.1 c hc), fun t h1 h2 => ⟨arrOfT_moved hal (hT.2.1 t h1 h2).1, (hT.2.1 t h1 h2).2.moved hal⟩, fun q hq hn => va_Nw.same rfl h.symm (hT.2.2.1 q hq hn), hT.2.2.2.1.moved hal, hT.2.2.2.2.1.moved hal, zGr_moved hal hT.2.2.2.2.2⟩
/-- the contract of a run of the pure machine -/
def zPc (G : zG) (as : List Value) (m : zMem) : Array Value → State → Prop := va_Pc (as.map (cvV G)) (fun U => zTab G U ∧ zStr G U ∧ zSt G U.heap m U.heap [])
def zQc (G : zG) (r : Option Value) (m' : zMem) : Array Value → State → Outcome → State → Prop := fun _ st o t => o = .returned (r.map (cvV G)) ∧ zSt G st.heap m' t.heap []
theorem zPc_blind (G : zG) (as : List Value) (m : zMem) : FrameBlind (zPc G as m) := by
  intro a U g mk h
  obtain ⟨h1, h2, h3, h4⟩ := h
  exact ⟨h1, zTab.same (u := U) rfl h2, zStr.same (u := U) rfl rfl h3, h4⟩
theorem zSt.self {G : zG} {H0 H : Heap} {m : zMem} {locs : List Loc} (h : zSt G H0 m H locs) : zSt G H m H [] := ⟨h.1, h.2.1, h.2.2.1, fun _ _ => rfl, fun _ h => by cases h⟩
section ZS5
variable {p : Program} {l : Launch} {e : Env} {R : Room} {s : State} {mth : MethodId} {args : Array Value} {below : List Frame} {meth : Method} {c : Code} {cells slots : Nat} {Q : State → Prop} {G : zG} {cc : ByteArray}
variable {nL pc : Nat} {lv : zLV} {m : zMem}
theorem zs_after {H : Heap} {H0 : Heap} {locs : List Loc} {ls : Array Slot} {st0 rest : List Value} {mc ms : Nat} {r : Option Value} {m1 : zMem} {aa : Array Value} (hr : va_Run p l e R s mth args below meth c H locs cells slots mc ms (F0 mth pc ls st0) (rest.map (cvV G)) (zQc G r m1 aa) (fun q => G.1 ≤ q)) (hS : zSt G H0 m H locs) (hl : zLs G ls nL lv)
    (kk : zGo p l e R s mth args below meth c Q G H0 nL (cells + mc) (slots + ms) (pc + 3) lv (r.toList ++ rest) m1) : W p l e R s mth args below meth c H locs cells slots Q (F0 mth pc ls st0) := by
  intro T hT X
  obtain ⟨v, st₀, t, T', L, h0, X', hL, e1, e2, ⟨hv, hz⟩, st⟩ := hr T hT X
  have hv' : v = r.map (cvV G) := by injection hv
  subst hv'
  rw [h0] at hz
  have hz' : zSt G H0 m1 T'.heap (locs ++ L) := by
    rw [e1]
    refine ⟨hz.1, hz.2.1, hz.2.2.1, fun q hq => (hz.2.2.2.1 q hq).trans (hS.2.2.2.1 q hq), fun q hq => ?_⟩
    rcases List.mem_append.mp hq with h | h
    · exact hS.2.2.2.2 q h
    · exact hL q h
  obtain ⟨t2, a1, b1⟩ := kk ls T'.heap _ hz' hl T' rfl X'
  refine ⟨t2, st t2 ?_, b1⟩
  have e9 : (r.map (cvV G)).toList ++ rest.map (cvV G) = (r.toList ++ rest).map (cvV G) := by cases r <;> simp
  show Steps p.tables e below (T'.setTop (F0 mth (pc + 3) ls ((r.map (cvV G)).toList ++ rest.map (cvV G)))) t2
  rw [e9]
  exact a1
/-- a callee's contract where it is called -/
theorem zs_pre {H : Heap} {H0 : Heap} {locs : List Loc} {as : List Value} (hT : zTab G s) (hX : zStr G s) (h0 : H0 = s.heap) (hS : zSt G H0 m H locs) : ∀ U : State, U.heap = H → s.WarmedH U.vm → zPc G as m (as.map (cvV G)).toArray U := by
  intro U hU hW
  subst h0
  refine ⟨rfl, hT.warm hW, hX.warm hW (fun q hq => by rw [hU]; exact hS.2.2.2.1 q hq), ?_⟩
  rw [hU]
  exact hS.self
set_option maxHeartbeats 4000000 in
theorem zs_call {d y z : Nat} {i : Instr} {as rest st : List Value} {r : Option Value} {m1 : zMem} {mc ms : Nat} (hB : zBod G (d + 1) y p R s mth args meth c) (hcal : zCall y i st m = some (z, as, rest)) (hd : decode (zB y) pc = .ok (i, 3))
    (hM : Met l (zNm z) (zWs z) { frames := d, cells := mc, slots := ms, locals := 40 * d } (zPc G as m) (zQc G r m1) mc ms (fun q => G.1 ≤ q)) (hc1 : cells + mc ≤ R.cells) (hs1 : slots + ms ≤ R.slots)
    (kk : zGo p l e R s mth args below meth c Q G s.heap (zML y) (cells + mc) (slots + ms) (pc + 3) lv (r.toList ++ rest) m1) : zGo p l e R s mth args below meth c Q G s.heap (zML y) cells slots pc lv st m := by
  obtain ⟨hx, hb, hr, hml, hown, hw, hT, hX, hlk, hnm, hfr, hlo⟩ := hB
  intro ls H locs hS hl
  have hcat : 2 * (F0 mth pc ls (st.map (cvV G))).monitorRoom + ((rest.map (cvV G)).map fun v => v.category).sum = (rest.map fun v => v.category).sum := by
    rw [cvV_sum]
    show 2 * 0 + _ = _
    omega
  cases i
  case invokestatic ix =>
    dsimp only [zCall] at hcal
    split at hcal
    · rename_i k z' hf
      split at hcal
      · rename_i hk
        cases hcal
        obtain ⟨hk1, hk2, hk3, hk4⟩ := hk
        have hck := List.all_eq_true.mp zOkC_ok _ (zk_look2 _ _ _ hf)
        unfold zOkC at hck
        have hk47 : ¬ (4 ≤ k ∧ k ≤ 7) := by omega
        have hk9 : ¬ 9 ≤ k := by omega
        simp only [Bool.or_eq_true, Bool.and_eq_true, decide_eq_true_eq, hk47, hk9, false_or] at hck
        obtain ⟨⟨⟨⟨c1, c14⟩, c2⟩, c3⟩, c4⟩ := hck
        rw [if_pos hk1] at c4
        have hz := zMth_of c3 (by omega) c14
        have hpre := zs_pre (as := (st.take (zNp z)).reverse) hT hX rfl hS
        have hstk : (F0 mth pc ls (st.map (cvV G))).stack = (((st.take (zNp z)).reverse).map (cvV G)).reverse ++ (st.drop (zNp z)).map (cvV G) := by
          rw [List.map_reverse, List.reverse_reverse, ← List.map_append, List.take_append_drop]
        have hlen : (((st.take (zNp z)).reverse).map (cvV G)).length = zNp z := by simp; omega
        have hini := zTw_ini c2
        rw [← hz.2.1] at hini
        rcases hk1 with rfl | rfl
        · refine zs_after (va_runS ⟨hx, hb, hml, hown, hw⟩ hM (va_cwS (Ts := zTw) (zNp z) hw ?_ (zWs_eq z) rfl rfl hz.2.2.2.1 ⟨by show d + 1 ≤ _; omega, by have := hz.2.2.2.2; show 8 + (zML z + 11) + 40 * d ≤ _; omega⟩) ⟨zPc_blind G _ m, hpre⟩ rfl hlen hl.1 hstk (by rw [hcat]; exact hk3) hd ⟨hc1, hs1⟩) hS hl kk
          intro w hw2
          unfold va_wsS at hw2
          rcases List.mem_append.mp hw2 with hw2 | hw2
          · rcases List.mem_cons.mp hw2 with rfl | hw2
            · exact zTw_good _ (zw_cal hf (by decide))
            · rcases List.mem_cons.mp hw2 with rfl | hw2
              · exact zTw_good _ (zTw_sts c4)
              · rw [List.mem_singleton.mp hw2]
                exact zTw_good _ hini
          · exact zWs_good hz w hw2
        · exact zs_after (va_runSN (host := "AlmostTax") ⟨hx, hb, hml, hown, hw⟩ hM ⟨va_cnB (Ts := zTw) (zNp z) hw (zWs_good hz) (zWs_eq z) rfl rfl (hT.2.2.1 ((zMc y, ix), (3, z)) (zk_look2 _ _ _ hf) (zNest_3 _ _ _)) (hw _ hini) hz.2.2.2.1 ⟨by show d + 1 ≤ _; omega, by have := hz.2.2.2.2; show 8 + (zML z + 11) + 40 * d ≤ _; omega⟩, hw _ (zTw_sts c4), trivial⟩ ⟨zPc_blind G _ m, hpre⟩ rfl hlen hl.1 hstk (by rw [hcat]; exact hk3) hd ⟨hc1, hs1⟩) hS hl kk
      · cases hcal
    · cases hcal
  case invokevirtual ix =>
    dsimp only [zCall] at hcal
    split at hcal
    · rename_i k z' hf
      split at hcal
      · rename_i hk
        split at hcal
        · rename_i a r9 hdrop
          split at hcal
          · rename_i hk9
            cases hcal
            obtain ⟨rfl, hk2⟩ := hk
            obtain ⟨hk3, hk4, hk5⟩ := hk9
            have hck := List.all_eq_true.mp zOkC_ok _ (zk_look2 _ _ _ hf)
            unfold zOkC at hck
            simp only [Bool.or_eq_true, Bool.and_eq_true, decide_eq_true_eq, show ¬ (4 ≤ 1 ∧ 1 ≤ 7) by decide, show ¬ 9 ≤ 1 by decide, false_or] at hck
            obtain ⟨⟨⟨⟨c1, c14⟩, c2⟩, c3⟩, c4⟩ := hck
            rw [if_neg (by decide), if_pos trivial, Bool.and_eq_true] at c4
            have hz := zMth_of c3 (by omega) c14
            have hpre := zs_pre (as := .ref a :: (st.take (zNp z)).reverse) hT hX rfl hS
            have hstk : (F0 mth pc ls (st.map (cvV G))).stack = (((st.take (zNp z)).reverse).map (cvV G)).reverse ++ .ref (G.1 + a) :: rest.map (cvV G) := by
              rw [List.map_reverse, List.reverse_reverse]
              show st.map (cvV G) = (st.take (zNp z)).map (cvV G) ++ (.ref a :: rest).map (cvV G)
              rw [← List.map_append, ← hdrop, List.take_append_drop]
            have hlen : (((st.take (zNp z)).reverse).map (cvV G)).length = zNp z := by simp; omega
            have hini := zTw_ini c2
            obtain ⟨h13, ha, cell, q1, q2, q3, q4⟩ := hS.obj hk3
            have hrec : ∃ cellB : Cell, H[G.1 + a]? = some cellB ∧ cellB.vm.isStatics = false ∧ s.vm.findClass (zNm z).cls = some cellB.cls := ⟨cell, q1, by rw [q3]; rfl, by rw [hz.2.1, q2]; exact (hT.1 _ h13).2.1⟩
            refine zs_after (va_runV (C := (zNm z).cls) ⟨hx, hb, hml, hown, hw⟩ hM (cwV (Ts := zTw) (zNp z) hw ?_ (zWs_eq z) rfl rfl ⟨rfl, hz.2.2.2.1⟩ ⟨by show d + 1 ≤ _; omega, by have := hz.2.2.2.2; show 8 + (zML z + 11) + 40 * d ≤ _; omega⟩) ⟨zPc_blind G _ m, hrec, hpre⟩ rfl hlen hl.1 hstk (by rw [hcat]; exact hk4) hd ⟨hc1, hs1⟩) hS hl kk
            intro w hw2
            unfold wsV at hw2
            rcases List.mem_append.mp hw2 with hw2 | hw2
            · rcases List.mem_cons.mp hw2 with rfl | hw2
              · exact zTw_good _ (zw_cal hf (by decide))
              · rcases List.mem_cons.mp hw2 with rfl | hw2
                · exact zTw_good _ (zTw_ins c4.1)
                · rcases List.mem_cons.mp hw2 with rfl | hw2
                  · exact zTw_good _ (zTw_sel c4.2)
                  · rw [List.mem_singleton.mp hw2, hz.2.1]
                    exact zTw_good _ hini
            · exact zWs_good hz w hw2
          · cases hcal
        · cases hcal
      · cases hcal
    · cases hcal
  case invokespecial ix =>
    dsimp only [zCall] at hcal
    split at hcal
    · rename_i k z' hf
      split at hcal
      · rename_i hk
        split at hcal
        · rename_i a r9 hdrop
          split at hcal
          · rename_i hk9
            cases hcal
            obtain ⟨hk1, hk2⟩ := hk
            obtain ⟨hk3, hk4, hk5⟩ := hk9
            have hck := List.all_eq_true.mp zOkC_ok _ (zk_look2 _ _ _ hf)
            unfold zOkC at hck
            have hk47 : ¬ (4 ≤ k ∧ k ≤ 7) := by omega
            have hk9 : ¬ 9 ≤ k := by omega
            simp only [Bool.or_eq_true, Bool.and_eq_true, decide_eq_true_eq, hk47, hk9, false_or] at hck
            obtain ⟨⟨⟨⟨c1, c14⟩, c2⟩, c3⟩, c4⟩ := hck
            rw [if_neg (by omega), if_neg (by omega)] at c4
            simp only [Bool.and_eq_true, decide_eq_true_eq] at c4
            have hz := zMth_of c3 (by omega) c14
            have hpre := zs_pre (as := .ref a :: (st.take (zNp z)).reverse) hT hX rfl hS
            have hstk : (F0 mth pc ls (st.map (cvV G))).stack = (((st.take (zNp z)).reverse).map (cvV G)).reverse ++ .ref (G.1 + a) :: rest.map (cvV G) := by
              rw [List.map_reverse, List.reverse_reverse]
              show st.map (cvV G) = (st.take (zNp z)).map (cvV G) ++ (.ref a :: rest).map (cvV G)
              rw [← List.map_append, ← hdrop, List.take_append_drop]
            have hlen : (((st.take (zNp z)).reverse).map (cvV G)).length = zNp z := by simp; omega
            have hini := zTw_ini c2
            rw [← hz.2.1] at hini
            have hwz : zWs z = Jvm.Cond.code (zNm z) (zB z) (zML z) none :: zTw := by unfold zWs; rw [c4.2]
            have hroom : ({ frames := d, cells := mc, slots := ms, locals := 40 * d } : Room).frames + 1 ≤ R.frames ∧ 8 + (zML z + 11) + ({ frames := d, cells := mc, slots := ms, locals := 40 * d } : Room).locals ≤ R.locals := ⟨by show d + 1 ≤ _; omega, by have := hz.2.2.2.2; show 8 + (zML z + 11) + 40 * d ≤ _; omega⟩
            rcases hk1 with rfl | rfl
            · exact zs_after (va_runIN (host := "AlmostTax") ⟨hx, hb, hml, hown, hw⟩ hM ⟨va_cnB (Ts := zTw) (zNp z) hw (zWs_good hz) hwz rfl rfl (hT.2.2.1 ((zMc y, ix), (2, z)) (zk_look2 _ _ _ hf) (zNest_2 _ _ _)) (hw _ hini) hz.2.2.2.1 hroom, c4.1.2, hw _ (zTw_ins c4.1.1)⟩ ⟨zPc_blind G _ m, hpre⟩ rfl hlen hl.1 hstk (by rw [hcat]; exact hk4) hd ⟨hc1, hs1⟩) hS hl kk
            · exact zs_after (va_runI ⟨hx, hb, hml, hown, hw⟩ hM (cwI (Ts := zTw) (zNp z) hw (zWs_good hz) hwz rfl rfl (hw _ hini) (hw _ (zw_cal hf (by decide))) (hw _ (zTw_ins c4.1.1)) c4.1.2 hz.2.2.2.1 hroom) ⟨zPc_blind G _ m, hpre⟩ rfl hlen hl.1 hstk (by rw [hcat]; exact hk4) hd ⟨hc1, hs1⟩) hS hl kk
          · cases hcal
        · cases hcal
      · cases hcal
    · cases hcal
  all_goals exact nomatch (show (none : Option (Nat × List Value × List Value)) = some _ from hcal)
end ZS5
