/-! THE PURE MACHINE IS SOUND, part 6: a run of it is a contract of the method -/
theorem zSt.nil {G : zG} {H0 H : Heap} {m : zMem} {locs : List Loc} (h : zSt G H0 m H locs) : zSt G H0 m H [] := ⟨h.1, h.2.1, h.2.2.1, h.2.2.2.1, fun _ h => by cases h⟩
/-- what a call of the pure machine calls -/
theorem zCall_mth {y z n : Nat} {i : Instr} {st as rest : List Value} {m : zMem} (h : zCall y i st m = some (z, as, rest)) (hlen : zLenB i n = true) : zMth z ∧ (as.map fun v => v.category).sum ≤ zML z ∧ n = 3 := by
  have rev : ∀ l : List Value, (l.reverse.map fun v => v.category).sum = (l.map fun v => v.category).sum := fun l => by rw [List.map_reverse, List.sum_reverse]
  cases i
  case invokestatic ix =>
    refine ⟨?_, ?_, eq_of_beq hlen⟩ <;> dsimp only [zCall] at h <;> split at h
    · rename_i k z' hf
      split at h
      · rename_i hk
        cases h
        have hck := List.all_eq_true.mp zOkC_ok _ (zk_look2 _ _ _ hf)
        unfold zOkC at hck
        have hk47 : ¬ (4 ≤ k ∧ k ≤ 7) := by omega
        have hk9 : ¬ 9 ≤ k := by omega
        simp only [Bool.or_eq_true, Bool.and_eq_true, decide_eq_true_eq, hk47, hk9, false_or] at hck
        obtain ⟨⟨⟨⟨c1, c14⟩, c2⟩, c3⟩, c4⟩ := hck
        exact zMth_of c3 (by omega) c14
      · cases h
    · cases h
    · split at h
      · rename_i hk
        cases h
        rw [rev]
        exact hk.2.2.2
      · cases h
    · cases h
  case invokevirtual ix =>
    refine ⟨?_, ?_, eq_of_beq hlen⟩ <;> dsimp only [zCall] at h <;> split at h
    · rename_i k z' hf
      split at h
      · rename_i hk
        split at h
        · split at h
          · cases h
            obtain ⟨rfl, -⟩ := hk
            have hck := List.all_eq_true.mp zOkC_ok _ (zk_look2 _ _ _ hf)
            unfold zOkC at hck
            simp only [Bool.or_eq_true, Bool.and_eq_true, decide_eq_true_eq, show ¬ (4 ≤ 1 ∧ 1 ≤ 7) by decide, show ¬ 9 ≤ 1 by decide, false_or] at hck
            obtain ⟨⟨⟨⟨c1, c14⟩, c2⟩, c3⟩, c4⟩ := hck
            exact zMth_of c3 (by omega) c14
          · cases h
        · cases h
      · cases h
    · cases h
    · split at h
      · split at h
        · split at h
          · rename_i hk
            cases h
            rw [List.map_cons, List.sum_cons, rev]
            have := hk.2.2
            show 1 + _ ≤ _
            omega
          · cases h
        · cases h
      · cases h
    · cases h
  case invokespecial ix =>
    refine ⟨?_, ?_, eq_of_beq hlen⟩ <;> dsimp only [zCall] at h <;> split at h
    · rename_i k z' hf
      split at h
      · rename_i hk
        split at h
        · split at h
          · cases h
            have hk1 := hk.1
            have hck := List.all_eq_true.mp zOkC_ok _ (zk_look2 _ _ _ hf)
            unfold zOkC at hck
            have hk47 : ¬ (4 ≤ k ∧ k ≤ 7) := by omega
            have hk9 : ¬ 9 ≤ k := by omega
            simp only [Bool.or_eq_true, Bool.and_eq_true, decide_eq_true_eq, hk47, hk9, false_or] at hck
            obtain ⟨⟨⟨⟨c1, c14⟩, c2⟩, c3⟩, c4⟩ := hck
            exact zMth_of c3 (by omega) c14
          · cases h
        · cases h
      · cases h
    · cases h
    · split at h
      · split at h
        · split at h
          · rename_i hk
            cases h
            rw [List.map_cons, List.sum_cons, rev]
            have := hk.2.2
            show 1 + _ ≤ _
            omega
          · cases h
        · cases h
      · cases h
    · cases h
  all_goals exact nomatch (show (none : Option (Nat × List Value × List Value)) = some _ from h)
def zSnd (l : Launch) (G : zG) (n : Nat) : Prop := ∀ (d y pc : Nat) (lv : zLV) (st : List Value) (m : zMem) (r : Option Value) (m' : zMem), zRun n d y pc lv st m = some (r, m') →
  (memN m ≤ memN m' ∧ memS m ≤ memS m') ∧ ∀ (p : Program) (e : Env) (R : Room) (s : State) (mth : MethodId) (args : Array Value) (below : List Frame) (meth : Method) (c : Code) (cells slots N0 S0 : Nat), zBod G d y p R s mth args meth c → cells + N0 = memN m → slots + S0 = memS m → memN m' ≤ N0 + R.cells → memS m' ≤ S0 + R.slots →
    zGo p l e R s mth args below meth c (MQ below (zQc G r m') args s (memN m' - N0) (memS m' - S0) (fun q => G.1 ≤ q)) G s.heap (zML y) cells slots pc lv st m
theorem zMet {l : Launch} {G : zG} {n : Nat} (ih : zSnd l G n) {d z : Nat} {as : List Value} {m m1 : zMem} {r : Option Value} (hz : zMth z) (hcat : (as.map fun v => v.category).sum ≤ zML z) (h : zRun n d z 0 (lvE (zML z) as) [] m = some (r, m1)) :
    Met l (zNm z) (zWs z) { frames := d, cells := memN m1 - memN m, slots := memS m1 - memS m, locals := 40 * d } (zPc G as m) (zQc G r m1) (memN m1 - memN m) (memS m1 - memS m) (fun q => G.1 ≤ q) := by
  obtain ⟨⟨hN, hS1⟩, hgo⟩ := ih d z 0 (lvE (zML z) as) [] m r m1 h
  refine Met.ofW (cc := zB z) (maxL := zML z) (ret := zRt z) hz.2.2.1 (zWs_eq z) ?_
  intro p e s mth args below meth c s₁ B hml hv
  obtain ⟨rfl, hT, hX, hS⟩ := hv
  have hts := atoms_spec (ws := zWs z) B.pre
  have hB : zBod G d z p (headSpec (zWs z) { frames := d, cells := memN m1 - memN m, slots := memS m1 - memS m, locals := 40 * d }).room s mth (as.map (cvV G)).toArray meth c := ⟨B.exec, B.bytes, B.returns, hml, by rw [← hz.2.1]; exact findClass_of_methodNamed B.named, fun w hw => hts w (List.mem_cons_of_mem _ hw), hT, hX, B.notSynchronized, (name_of_methodNamed B.named B.method).1, Nat.le_refl _, Nat.le_refl _⟩
  have hl := lv_entry (as.map (cvV G)) (n := zML z) (by rw [lg_sl_len, cvV_sum]; exact hcat)
  rw [lg_entry_eq]
  exact hgo p e _ s mth _ below meth c 0 0 (memN m) (memS m) hB (Nat.zero_add _) (Nat.zero_add _) (by show memN m1 ≤ memN m + (memN m1 - memN m); omega) (by show memS m1 ≤ memS m + (memS m1 - memS m); omega) _ s.heap [] hS (zLs.entry hl)
set_option maxHeartbeats 4000000 in
theorem zRun_ok (l : Launch) (G : zG) : ∀ n, zSnd l G n
  | 0 => fun d y pc lv st m r m' h => by cases h
  | n + 1 => by
    intro d y pc lv st m r m' h
    have ih := zRun_ok l G n
    unfold zRun at h
    split at h
    · cases h
    · rename_i i ln hi
      obtain ⟨hd, hlen⟩ := zDec hi
      split at h
      · rename_i r0 hf
        cases h
        refine ⟨⟨Nat.le_refl _, Nat.le_refl _⟩, ?_⟩
        intro p e R s mth args below meth c cells slots N0 S0 hB eN eS hN hS9
        obtain ⟨hx, hb, hr, hml, hown, hw, hT, hX, hlk, hnm, hfr, hlo⟩ := hB
        intro ls H locs hS hl
        rw [show memN m - N0 = cells by omega, show memS m - S0 = slots by omega]
        cases i
        case ireturn =>
          dsimp only [zFin] at hf
          split at hf
          · split at hf
            · rename_i ty hty
              split at hf
              · rename_i hnar
                cases hf
                cases (show ln = 1 from eq_of_beq hlen)
                exact W.zret hx hb (hr.trans hty) hnar (fun t ht hW => ⟨rfl, by rw [ht]; exact hS.nil⟩) (fun q hq => hS.2.2.2.2 q hq) hd hlk
              · cases hf
            · cases hf
          · cases hf
        case lreturn =>
          dsimp only [zFin] at hf
          split at hf
          · split at hf
            · rename_i hty
              cases hf
              cases (show ln = 1 from eq_of_beq hlen)
              exact W.lret hx hb (hr.trans hty) (fun t ht hW => ⟨rfl, by rw [ht]; exact hS.nil⟩) (fun q hq => hS.2.2.2.2 q hq) hd hlk
            · cases hf
          · cases hf
        case return_ =>
          dsimp only [zFin] at hf
          split at hf
          · split at hf
            · rename_i hty
              cases hf
              cases (show ln = 1 from eq_of_beq hlen)
              exact W.vret hx hb (hr.trans hty) (fun t ht hW => ⟨rfl, by rw [ht]; exact hS.nil⟩) (fun q hq => hS.2.2.2.2 q hq) hd hlk
            · cases hf
          · cases hf
        all_goals exact nomatch (show (none : Option (Option Value)) = some _ from hf)
      · rename_i hf
        split at h
        · rename_i z as rest hcl
          obtain ⟨hz, hcat, h3⟩ := zCall_mth hcl hlen
          subst h3
          split at h
          · cases h
          · rename_i d'
            split at h
            · rename_i r1 m1 hr1
              obtain ⟨⟨a1, a2⟩, -⟩ := ih d' z 0 (lvE (zML z) as) [] m r1 m1 hr1
              obtain ⟨⟨b1, b2⟩, hgo⟩ := ih (d' + 1) y (pc + 3) lv (r1.toList ++ rest) m1 r m' h
              refine ⟨⟨Nat.le_trans a1 b1, Nat.le_trans a2 b2⟩, ?_⟩
              intro p e R s mth args below meth c cells slots N0 S0 hB eN eS hN hS9
              exact zs_call hB hcl hd (zMet ih hz hcat hr1) (by omega) (by omega) (hgo p e R s mth args below meth c (cells + (memN m1 - memN m)) (slots + (memS m1 - memS m)) N0 S0 hB (by omega) (by omega) hN hS9)
            · cases h
        · rename_i hcl
          split at h
          · rename_i pc' lv' st' m1 hs
            obtain ⟨⟨a1, a2⟩, hstep⟩ := zStep_ok hi hs
            obtain ⟨⟨b1, b2⟩, hgo⟩ := ih d y pc' lv' st' m1 r m' h
            dsimp only at a1 a2
            refine ⟨⟨Nat.le_trans a1 b1, Nat.le_trans a2 b2⟩, ?_⟩
            intro p e R s mth args below meth c cells slots N0 S0 hB eN eS hN hS9
            exact hstep p l e R s mth args below meth c cells slots _ G hB (by show cells + (memN m1 - memN m) ≤ _; omega) (by show slots + (memS m1 - memS m) ≤ _; omega) (hgo p e R s mth args below meth c (cells + (memN m1 - memN m)) (slots + (memS m1 - memS m)) N0 S0 hB (by omega) (by omega) hN hS9)
          · cases h
