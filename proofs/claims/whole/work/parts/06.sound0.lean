/-! THE PURE MACHINE IS SOUND, part 0: the picture, and what the heap is where it holds -/
abbrev zG : Type := Nat × Nat × (Nat → ClassId) × (Nat → Nat → Nat) × (Nat → ClassId)
/-- a value as the machine has it: a cell's number is B short of its address; .float stands for the one String constant -/
def cvV (G : zG) : Value → Value
  | .ref k => .ref (G.1 + k)
  | .float _ => .ref G.2.1
  | v => v
theorem cvV_cat (G : zG) (v : Value) : (cvV G v).category = v.category := by cases v <;> rfl
theorem cvV_sum (G : zG) (st : List Value) : ((st.map (cvV G)).map fun v => v.category).sum = (st.map fun v => v.category).sum := by
  congr 1
  rw [List.map_map]
  exact List.map_congr_left fun v _ => cvV_cat G v
/-- the machine's locals hold the pure machine's -/
def zLs (G : zG) (ls : Array Slot) (nL : Nat) (lv : zLV) : Prop := ls.size = nL ∧ lv_wf ls ∧ ∀ (n : Nat) (v : Value), lv[n]? = some v → v ≠ jk → ls[n]? = some (.val (cvV G v))
def cvL (G : zG) (lv : zLV) : List (Nat × Value) := (List.range lv.length).filterMap (fun n => match lv[n]? with
  | some v => if v = jk then none else some (n, cvV G v)
  | none => none)
theorem cvL_mem {G : zG} {lv : zLV} {n : Nat} {v : Value} (h : lv[n]? = some v) (hj : v ≠ jk) : (n, cvV G v) ∈ cvL G lv := by
  unfold cvL
  refine List.mem_filterMap.mpr ⟨n, List.mem_range.mpr (List.getElem?_eq_some_iff.mp h).1, ?_⟩
  simp only [h, if_neg hj]
theorem cvL_out {G : zG} {lv : zLV} {q : Nat × Value} (h : q ∈ cvL G lv) : ∃ v, lv[q.1]? = some v ∧ v ≠ jk ∧ q.2 = cvV G v := by
  unfold cvL at h
  obtain ⟨n, -, h2⟩ := List.mem_filterMap.mp h
  cases hv : lv[n]? with
  | none => simp only [hv] at h2; cases h2
  | some v =>
    simp only [hv] at h2
    by_cases e : v = jk
    · rw [if_pos e] at h2; cases h2
    · rw [if_neg e] at h2
      cases h2
      exact ⟨v, hv, e, rfl⟩
theorem zLs.has {G : zG} {ls : Array Slot} {nL : Nat} {lv : zLV} (h : zLs G ls nL lv) : lv_has ls nL (cvL G lv) := by
  refine ⟨h.1, h.2.1, fun q hq => ?_⟩
  obtain ⟨v, h1, h2, h3⟩ := cvL_out hq
  rw [h3]
  exact h.2.2 q.1 v h1 h2
theorem lvO_ok {lv : zLV} {i n : Nat} {v : Value} (h : lvO lv i = true) (hv : lv[n]? = some v) (hn : n + 1 = i) : v.category ≠ 2 := by
  unfold lvO at h
  subst hn
  rw [Bool.or_eq_true] at h
  rcases h with h | h
  · simp at h
  · rw [Nat.add_sub_cancel, hv] at h
    simpa using h
theorem zLs.set1 {G : zG} {ls ls' : Array Slot} {nL : Nat} {lv : zLV} {i : Nat} {x : Value} (h : zLs G ls nL lv) (hO : lvO lv i = true) (h' : lv_has ls' nL ((i, cvV G x) :: (cvL G lv).filter (fun q => !(q.1 == i) && !(q.1 + 1 == i && q.2.category == 2)))) : zLs G ls' nL (lv.set i x) := by
  refine ⟨h'.1, h'.2.1, fun n v hv hj => ?_⟩
  by_cases e : i = n
  · subst e
    have hlt : i < lv.length := by
      have := (List.getElem?_eq_some_iff.mp hv).1
      rwa [List.length_set] at this
    rw [List.getElem?_set_self hlt] at hv
    cases hv
    exact h'.2.2 _ List.mem_cons_self
  · rw [List.getElem?_set_ne e] at hv
    refine h'.2.2 (n, cvV G v) (List.mem_cons_of_mem _ (List.mem_filter.mpr ⟨cvL_mem hv hj, ?_⟩))
    have h1 : (n == i) = false := by simpa using Ne.symm e
    by_cases e2 : n + 1 = i
    · have h2 := lvO_ok hO hv e2
      rw [← cvV_cat G v] at h2
      simp [h1, h2]
    · simp [h1, e2]
theorem zLs.set2 {G : zG} {ls ls' : Array Slot} {nL : Nat} {lv : zLV} {i : Nat} {x : Value} (h : zLs G ls nL lv) (hO : lvO lv i = true) (h' : lv_has ls' nL ((i, cvV G x) :: (cvL G lv).filter (fun q => !(q.1 == i) && (!(q.1 == i + 1) && !(q.1 + 1 == i && q.2.category == 2))))) : zLs G ls' nL ((lv.set i x).set (i + 1) jk) := by
  refine ⟨h'.1, h'.2.1, fun n v hv hj => ?_⟩
  have hi1 : i + 1 ≠ n := by
    intro e
    subst e
    have hlt := (List.getElem?_eq_some_iff.mp hv).1
    rw [List.length_set] at hlt
    rw [List.getElem?_set_self hlt] at hv
    cases hv
    exact hj rfl
  rw [List.getElem?_set_ne hi1] at hv
  by_cases e : i = n
  · subst e
    have hlt : i < lv.length := by
      have := (List.getElem?_eq_some_iff.mp hv).1
      rwa [List.length_set] at this
    rw [List.getElem?_set_self hlt] at hv
    cases hv
    exact h'.2.2 _ List.mem_cons_self
  · rw [List.getElem?_set_ne e] at hv
    refine h'.2.2 (n, cvV G v) (List.mem_cons_of_mem _ (List.mem_filter.mpr ⟨cvL_mem hv hj, ?_⟩))
    have h1 : (n == i) = false := by simpa using Ne.symm e
    have h3 : (n == i + 1) = false := by simpa using Ne.symm hi1
    by_cases e2 : n + 1 = i
    · have h2 := lvO_ok hO hv e2
      rw [← cvV_cat G v] at h2
      simp [h1, h3, h2]
    · simp [h1, h3, e2]
theorem lvA_args (G : zG) : ∀ (vs : List Value) (k n : Nat) (v : Value), (lvA vs)[n]? = some v → v ≠ jk → (k + n, cvV G v) ∈ lv_args k (vs.map (cvV G))
  | [], _, _, _, h, _ => by simp [lvA] at h
  | w :: vs, k, n, v, h, hj => by
    have hc := cvV_cat G w
    show (k + n, cvV G v) ∈ (k, cvV G w) :: lv_args (if (cvV G w).category = 2 then k + 2 else k + 1) (vs.map (cvV G))
    rw [hc]
    unfold lvA at h
    by_cases e : w.category = 2
    · rw [if_pos e] at h ⊢
      match n, h with
      | 0, h => cases h; exact List.mem_cons_self
      | 1, h => cases h; exact absurd rfl hj
      | n + 2, h =>
        have := lvA_args G vs (k + 2) n v h hj
        rw [show k + (n + 2) = k + 2 + n by omega]
        exact List.mem_cons_of_mem _ this
    · rw [if_neg e] at h ⊢
      match n, h with
      | 0, h => cases h; exact List.mem_cons_self
      | n + 1, h =>
        have := lvA_args G vs (k + 1) n v h hj
        rw [show k + (n + 1) = k + 1 + n by omega]
        exact List.mem_cons_of_mem _ this
theorem zLs.entry {G : zG} {ls : Array Slot} {nL : Nat} {vs : List Value} (h : lv_has ls nL (lv_args 0 (vs.map (cvV G)))) : zLs G ls nL (lvE nL vs) := by
  refine ⟨h.1, h.2.1, fun n v hv hj => ?_⟩
  unfold lvE at hv
  by_cases hn : n < (lvA vs).length
  · rw [List.getElem?_append_left hn] at hv
    have h1 := lvA_args G vs 0 n v hv hj
    rw [Nat.zero_add] at h1
    exact h.2.2 _ h1
  · rw [List.getElem?_append_right (by omega)] at hv
    have h1 := List.mem_of_getElem? hv
    exact absurd (List.eq_of_mem_replicate h1) hj
def zATy (t : Nat) : FieldType := if t = 1 then .int else if t = 2 then .long else if t = 3 then .byte else if t = 4 then .boolean else if t = 5 then .object "AlmostTax$Tray" else if t = 6 then .object "AlmostTax$Land" else .array .int
/-- what the tables say at a state: the classes' fields, the arrays' classes, the links between nest mates -/
def zTab (G : zG) (U : State) : Prop :=
  (∀ c, c < 13 → u_Kn U (zCn c) (zU c) (zN c) (G.2.2.1 c) (G.2.2.2.1 c)) ∧
  (∀ t, 1 ≤ t → t ≤ 7 → ArrOfT U (G.2.2.2.2 t) (zATy t) ∧ va_RA U (G.2.2.2.2 t) (zATy t)) ∧
  (∀ q ∈ zCal, zNest q = true → va_Nw (zwNst q) U) ∧ va_AO "AlmostTax$Tray" U ∧ va_AO "AlmostTax$Land" U ∧
  (∃ k : Class, U.vm.classes[G.2.2.2.2 7]? = some k ∧ k.kind = .array (G.2.2.2.2 1) (.array .int))
theorem zGr_moved {G : zG} {u U : State} (hvm : u.vm.Alike U.vm) (h : ∃ k : Class, u.vm.classes[G.2.2.2.2 7]? = some k ∧ k.kind = .array (G.2.2.2.2 1) (.array .int)) : ∃ k : Class, U.vm.classes[G.2.2.2.2 7]? = some k ∧ k.kind = .array (G.2.2.2.2 1) (.array .int) := by
  obtain ⟨k, h1, h2⟩ := h
  obtain ⟨k', hk', he⟩ := hvm.2.2 _ _ h1
  exact ⟨k', hk', by rw [he]; exact h2⟩
theorem zTab.warm {G : zG} {s U : State} (hW : s.WarmedH U.vm) (h : zTab G s) : zTab G U :=
  ⟨fun c hc => u_Kn_moved hW.alike (h.1 c hc), fun t h1 h2 => ⟨arrOfT_moved hW.alike (h.2.1 t h1 h2).1, (h.2.1 t h1 h2).2.moved hW.alike⟩, fun q hq hn => va_Nw.warmM hW (h.2.2.1 q hq hn), h.2.2.2.1.moved hW.alike, h.2.2.2.2.1.moved hW.alike, zGr_moved hW.alike h.2.2.2.2.2⟩
/-- a cell of the picture, in the heap -/
def zCel (G : zG) (m : zMem) (k : Nat) (H : Heap) : Prop :=
  (1 ≤ (memK m k).1 ∧ (memK m k).1 ≤ 7 ∧ H[G.1 + k]? = some (arrV (G.2.2.2.2 (memK m k).1) (memK m k).2 (fun j => cvV G (arrE m (memK m k).1 k j)))) ∨
  (∃ c, (memK m k).1 = 100 + c ∧ c < 13 ∧ t_OB (G.1 + k) (G.2.2.1 c) (zN c) (G.2.2.2.1 c) H (fun j => cvV G (fldV m c k j)))
/-- the heap holds the picture; below B it is as at the start; only cells of the picture were written -/
def zSt (G : zG) (H0 : Heap) (m : zMem) (H : Heap) (locs : List Loc) : Prop :=
  H.size = G.1 + memN m ∧ (∀ k, memN m ≤ k → (memK m k).1 = 0) ∧ (∀ k, k < memN m → zCel G m k H) ∧ (∀ q : Nat, q < G.1 → H[q]? = H0[q]?) ∧ ∀ q ∈ locs, G.1 ≤ q.base
theorem zSt.obj {G : zG} {H0 H : Heap} {m : zMem} {locs : List Loc} (h : zSt G H0 m H locs) {a c : Nat} (hc : (memK m a).1 = 100 + c) : c < 13 ∧ a < memN m ∧ t_OB (G.1 + a) (G.2.2.1 c) (zN c) (G.2.2.2.1 c) H (fun j => cvV G (fldV m c a j)) := by
  have ha : a < memN m := by
    rcases Nat.lt_or_ge a (memN m) with q | q
    · exact q
    · have := h.2.1 a q
      omega
  rcases h.2.2.1 a ha with ⟨h1, h2, -⟩ | ⟨c', h1, h2, h3⟩
  · omega
  · have e : c' = c := by omega
    subst e
    exact ⟨h2, ha, h3⟩
theorem zSt.arr {G : zG} {H0 H : Heap} {m : zMem} {locs : List Loc} (h : zSt G H0 m H locs) {a t : Nat} (ht : (memK m a).1 = t) (h1 : 1 ≤ t) (h7 : t ≤ 7) : a < memN m ∧ H[G.1 + a]? = some (arrV (G.2.2.2.2 t) (memK m a).2 (fun j => cvV G (arrE m t a j))) := by
  have ha : a < memN m := by
    rcases Nat.lt_or_ge a (memN m) with q | q
    · exact q
    · have := h.2.1 a q
      omega
  subst ht
  rcases h.2.2.1 a ha with ⟨-, -, h3⟩ | ⟨c', h3, h4, -⟩
  · exact ⟨ha, h3⟩
  · omega
/-- two pictures that are the same but for one cell -/
def zBut (m m' : zMem) (a : Nat) : Prop := memK m' = memK m ∧ memN m' = memN m ∧ memS m' = memS m ∧ ∀ b, b ≠ a → ∀ j, memI m' b j = memI m b j ∧ memL m' b j = memL m b j ∧ memR m' b j = memR m b j
theorem zBut_I (m : zMem) (a k : Nat) (v : Int32) : zBut m (setI m a k v) a := ⟨rfl, rfl, rfl, fun b hb j => ⟨by show u2 _ _ _ _ _ _ = _; unfold u2; rw [if_neg (fun h => hb h.1)]; rfl, rfl, rfl⟩⟩
theorem zBut_L (m : zMem) (a k : Nat) (v : Int64) : zBut m (setL m a k v) a := ⟨rfl, rfl, rfl, fun b hb j => ⟨rfl, by show u2 _ _ _ _ _ _ = _; unfold u2; rw [if_neg (fun h => hb h.1)]; rfl, rfl⟩⟩
theorem zBut_R (m : zMem) (a k : Nat) (v : Option Nat) : zBut m (setR m a k v) a := ⟨rfl, rfl, rfl, fun b hb j => ⟨rfl, rfl, by show u2 _ _ _ _ _ _ = _; unfold u2; rw [if_neg (fun h => hb h.1)]; rfl⟩⟩
theorem zBut_rI (m : zMem) (a : Nat) (g : Nat → Int32) : zBut m (rowI m a g) a := ⟨rfl, rfl, rfl, fun b hb j => ⟨by show u1 _ _ _ _ _ = _; unfold u1; rw [if_neg hb]; rfl, rfl, rfl⟩⟩
theorem zBut_rL (m : zMem) (a : Nat) (g : Nat → Int64) : zBut m (rowL m a g) a := ⟨rfl, rfl, rfl, fun b hb j => ⟨rfl, by show u1 _ _ _ _ _ = _; unfold u1; rw [if_neg hb]; rfl, rfl⟩⟩
theorem fldV_same {m m' : zMem} {c b : Nat} (h : ∀ j, memI m' b j = memI m b j ∧ memL m' b j = memL m b j ∧ memR m' b j = memR m b j) (j : Nat) : fldV m' c b j = fldV m c b j := by
  unfold fldV
  rw [(h j).1, (h j).2.1, (h j).2.2]
theorem arrE_same {m m' : zMem} {t b : Nat} (h : ∀ j, memI m' b j = memI m b j ∧ memL m' b j = memL m b j ∧ memR m' b j = memR m b j) (j : Nat) : arrE m' t b j = arrE m t b j := by
  unfold arrE
  rw [(h j).1, (h j).2.1, (h j).2.2]
theorem zCel.kept {G : zG} {m m' : zMem} {k : Nat} {H H' : Heap} (h : zCel G m k H) (hK : memK m' k = memK m k) (hv : ∀ j, memI m' k j = memI m k j ∧ memL m' k j = memL m k j ∧ memR m' k j = memR m k j) (hH : H'[G.1 + k]? = H[G.1 + k]?) : zCel G m' k H' := by
  rcases h with ⟨h1, h2, h3⟩ | ⟨c, h1, h2, h3⟩
  · left
    rw [hK]
    refine ⟨h1, h2, ?_⟩
    rw [hH, h3]
    congr 2
    funext j
    rw [arrE_same hv]
  · right
    rw [hK]
    refine ⟨c, h1, h2, ?_⟩
    refine (h3.kept hH).to (fun j _ => ?_)
    show cvV G (fldV m c k j) = cvV G (fldV m' c k j)
    rw [fldV_same hv]
theorem zSt.put {G : zG} {H0 H H' : Heap} {m m' : zMem} {locs : List Loc} (h : zSt G H0 m H locs) {a k : Nat} (hb : zBut m m' a) (z : H'.size = H.size) (o : ∀ q : Nat, q ≠ G.1 + a → H'[q]? = H[q]?) (hc : zCel G m' a H') : zSt G H0 m' H' (locs ++ [⟨G.1 + a, k⟩]) := by
  obtain ⟨e1, e2, e3, e4⟩ := hb
  refine ⟨by rw [z, e2]; exact h.1, fun j hj => by rw [e1]; exact h.2.1 j (by rw [← e2]; exact hj), fun j hj => ?_, fun q hq => (o q (by omega)).trans (h.2.2.2.1 q hq), fun q hq => ?_⟩
  · by_cases ej : j = a
    · subst ej
      exact hc
    · exact (h.2.2.1 j (by rw [← e2]; exact hj)).kept (by rw [e1]) (e4 j ej) (o _ (by omega))
  · rcases List.mem_append.mp hq with q1 | q1
    · exact h.2.2.2.2 q q1
    · rw [List.mem_singleton.mp q1]
      exact Nat.le_add_right _ _
/-- as zSt.put, for places told in another way -/
theorem zSt.put' {G : zG} {H0 H H' : Heap} {m m' : zMem} {locs locs' : List Loc} (h : zSt G H0 m H locs) {a : Nat} (hb : zBut m m' a) (z : H'.size = H.size) (o : ∀ q : Nat, q ≠ G.1 + a → H'[q]? = H[q]?) (hc : zCel G m' a H') (hl : ∀ q ∈ locs', G.1 ≤ q.base) : zSt G H0 m' H' locs' := by
  have h2 := h.put (k := 0) hb z o hc
  exact ⟨h2.1, h2.2.1, h2.2.2.1, h2.2.2.2.1, hl⟩
/-- a new cell -/
theorem zSt.make {G : zG} {H0 H H' : Heap} {m : zMem} {locs : List Loc} (h : zSt G H0 m H locs) {t n : Nat} (z : H'.size = H.size + 1) (o : ∀ q : Nat, q < H.size → H'[q]? = H[q]?) (hc : zCel G (mkCell m t n) (memN m) H') : zSt G H0 (mkCell m t n) H' locs := by
  have hsz := h.1
  have eN : memN (mkCell m t n) = memN m + 1 := rfl
  have eK : ∀ k, k ≠ memN m → memK (mkCell m t n) k = memK m k := fun k hk => if_neg hk
  refine ⟨by rw [z, eN]; omega, fun k hk => ?_, fun k hk => ?_, fun q hq => (o q (by omega)).trans (h.2.2.2.1 q hq), h.2.2.2.2⟩
  · rw [eN] at hk
    rw [eK k (by omega)]
    exact h.2.1 k (by omega)
  · by_cases e : k = memN m
    · subst e
      exact hc
    · rw [eN] at hk
      refine (h.2.2.1 k (by omega)).kept (eK k e) (fun j => ?_) (o _ (by omega))
      have e' : ¬ k = m.2.1 := e
      refine ⟨?_, ?_, ?_⟩
      · exact if_neg e'
      · exact if_neg e'
      · exact if_neg e'
-- words out of the tables
theorem zw_fld {o ix c k : Nat} (h : ((o, ix), (c, k)) ∈ zFld) : c < 13 ∧ k < zN c ∧ Jvm.Cond.fieldLink (zCn o) ix (zCn c) (zU c k).2.1 (zU c k).2.2.1 ∈ zTw := by
  have h1 := List.all_eq_true.mp zwFld_in _ h
  simp only [Bool.and_eq_true, decide_eq_true_eq] at h1
  exact ⟨h1.1, h1.2, zTw_of zwFld_ok _ (List.mem_map.mpr ⟨_, h, rfl⟩) rfl⟩
theorem zk_look2 {α β : Type} [BEq α] [LawfulBEq α] : ∀ (l : List (α × β)) (pc : α) (v : β), l.lookup pc = some v → (pc, v) ∈ l
  | [], _, _, h => by simp at h
  | (k, w) :: l, pc, v, h => by
    rw [List.lookup_cons] at h
    by_cases e : pc = k
    · subst e
      simp at h
      subst h
      exact List.mem_cons_self
    · have e2 : (pc == k) = false := by simpa using e
      rw [e2] at h
      exact List.mem_cons_of_mem _ (zk_look2 l pc v h)
set_option maxRecDepth 100000 in
theorem zck_fields : (List.range 13).all (fun c => (List.range (zN c)).all (fun k => decide (parseFieldDescriptor (zU c k).2.2.1 = some (zTy c k)) && decide ((zU c k).1 = zCn c) && (List.range (zN c)).all (fun j => decide (j = k) || decide ((zU c j).2.1 ≠ (zU c k).2.1)))) = true := by decide +kernel
theorem zf_ty {c k : Nat} (hc : c < 13) (hk : k < zN c) : parseFieldDescriptor (zU c k).2.2.1 = some (zTy c k) ∧ (zU c k).1 = zCn c ∧ ∀ j, j < zN c → j ≠ k → (zU c j).2.1 ≠ (zU c k).2.1 := by
  have h1 := List.all_eq_true.mp (List.all_eq_true.mp zck_fields c (List.mem_range.mpr hc)) k (List.mem_range.mpr hk)
  simp only [Bool.and_eq_true, decide_eq_true_eq] at h1
  refine ⟨h1.1.1, h1.1.2, fun j hj hjk => ?_⟩
  have h2 := List.all_eq_true.mp h1.2 j (List.mem_range.mpr hj)
  simp only [Bool.or_eq_true, decide_eq_true_eq] at h2
  exact h2.resolve_left hjk
theorem zck_lay : (List.range 13).all (fun c => zLay.contains c) = true := by decide +kernel
theorem zw_lay {c : Nat} (hc : c < 13) : ∀ w ∈ u_ws (zCn c) (zU c) (zN c), w ∈ zTw := by
  intro w hw
  have h1 := List.all_eq_true.mp zck_lay c (List.mem_range.mpr hc)
  refine zTw_of zwLay_ok w (List.mem_flatMap.mpr ⟨c, by simpa using h1, hw⟩) ?_
  obtain ⟨k, -, rfl⟩ := List.mem_map.mp hw
  unfold u_lay
  split <;> rfl
set_option maxRecDepth 100000 in
theorem zck_inst : (List.range 13).all (fun c => decide (c ∈ [11, 3, 8, 4, 9, 0, 5, 6, 7, 2, 1, 10, 12]) && decide (c ∈ zIni)) = true := by decide +kernel
theorem zw_inst {c : Nat} (hc : c < 13) : Jvm.Cond.instantiable (zCn c) (zN c) ∈ zTw ∧ Jvm.Cond.initialized (zCn c) ∈ zTw := by
  have h1 := List.all_eq_true.mp zck_inst c (List.mem_range.mpr hc)
  simp only [Bool.and_eq_true, decide_eq_true_eq] at h1
  exact ⟨zTw_of zwInst_ok _ (List.mem_map.mpr ⟨c, h1.1, rfl⟩) rfl, zTw_of zwIni_ok _ (List.mem_map.mpr ⟨c, h1.2, rfl⟩) rfl⟩
