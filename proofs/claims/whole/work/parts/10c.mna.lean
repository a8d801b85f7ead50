/-! new int[N][K]: the outer array, then its rows one by one, each put into its place -/
/-- the outer array when i rows are in it -/
def zgO (cA : ClassId) (N h i : Nat) : Cell := arrV cA N (fun j => if j < i then .ref (h + 1 + j) else .null)
def zgI (cy : ClassId) (K : Nat) : Cell := arrV cy K (fun _ => .int 0)
def zgF (T : State) (cA cy : ClassId) (N K : Nat) : Nat → State
  | 0 => T.pushCell (zgO cA N T.heap.size 0)
  | i + 1 => ((zgF T cA cy N K i).pushCell (zgI cy K)).setCell T.heap.size (zgO cA N T.heap.size (i + 1))
theorem zgO_new (cA : ClassId) (N h : Nat) : ({ cls := cA, slots := Array.replicate N .null, vm := .none } : Cell) = zgO cA N h 0 := by
  rw [arrV_new]
  unfold zgO
  congr 1
theorem zgI_new (cy : ClassId) (K : Nat) : ({ cls := cy, slots := Array.replicate K (.int 0), vm := .none } : Cell) = zgI cy K := arrV_new cy K (.int 0)
theorem zgO_put (cA : ClassId) (N h i : Nat) : (zgO cA N h i).setSlot i (.ref (h + 1 + i)) = zgO cA N h (i + 1) := by
  unfold zgO
  rw [arrV_store]
  congr 1
  funext j
  unfold updV
  by_cases e : j = i
  · subst e
    rw [if_pos rfl, if_pos (Nat.lt_succ_self j)]
  · rw [if_neg e]
    show (if j < i then _ else _) = (if j < i + 1 then _ else _)
    by_cases h1 : j < i
    · rw [if_pos h1, if_pos (by omega)]
    · rw [if_neg h1, if_neg (by omega)]
theorem zgO_size (cA : ClassId) (N h i : Nat) : (zgO cA N h i).slots.size = N := arrV_size _ _ _
theorem zgI_size (cy : ClassId) (K : Nat) : (zgI cy K).slots.size = K := arrV_size _ _ _
theorem zgF_at (T : State) (cA cy : ClassId) (N K : Nat) : ∀ i, (zgF T cA cy N K i).heap.size = T.heap.size + 1 + i ∧ (zgF T cA cy N K i).heap[T.heap.size]? = some (zgO cA N T.heap.size i) ∧ (zgF T cA cy N K i).vm = T.vm ∧ (zgF T cA cy N K i).slotsUsed = T.slotsUsed + N + i * K
  | 0 => ⟨by simp [zgF, State.pushCell], by simp [zgF, State.pushCell], rfl, by simp [zgF, zgO_size]⟩
  | i + 1 => by
    obtain ⟨a, b, d, u⟩ := zgF_at T cA cy N K i
    have hlt : T.heap.size < (zgF T cA cy N K i).heap.size := by omega
    have hb : ((zgF T cA cy N K i).pushCell (zgI cy K)).heap[T.heap.size]? = some (zgO cA N T.heap.size i) := by rw [State.heap_pushCell_of_lt (h := hlt)]; exact b
    refine ⟨?_, State.heap_setCell_self hb, by simp [zgF, d], ?_⟩
    · simp [zgF, State.setCell, State.pushCell, a]
      omega
    · simp [zgF, u, zgI_size, Nat.succ_mul]
      omega
theorem zgF_top (T : State) (f : JFrame) (cA cy : ClassId) (N K : Nat) : ∀ i, zgF (T.setTop f) cA cy N K i = (zgF T cA cy N K i).setTop f
  | 0 => rfl
  | i + 1 => by simp only [zgF, zgF_top T f cA cy N K i, State.heap_setTop, State.pushCell_setTop, State.setCell_setTop]
theorem zgF_old (T : State) (cA cy : ClassId) (N K : Nat) {a : Addr} (ha : a < T.heap.size) : ∀ i, (zgF T cA cy N K i).heap[a]? = T.heap[a]?
  | 0 => State.heap_pushCell_of_lt _ _ ha
  | i + 1 => by
    have f1 := (zgF_at T cA cy N K i).1
    have hlt : a < (zgF T cA cy N K i).heap.size := Nat.lt_of_lt_of_le ha (by rw [f1]; omega)
    show (((zgF T cA cy N K i).pushCell (zgI cy K)).setCell T.heap.size _).heap[a]? = _
    rw [State.heap_setCell_other (Nat.ne_of_gt ha), State.heap_pushCell_of_lt (h := hlt)]
    exact zgF_old T cA cy N K ha i
theorem zgF_row (T : State) (cA cy : ClassId) (N K : Nat) : ∀ i j, j < i → (zgF T cA cy N K i).heap[T.heap.size + 1 + j]? = some (zgI cy K)
  | 0, _, h => absurd h (Nat.not_lt_zero _)
  | i + 1, j, h => by
    have f1 := (zgF_at T cA cy N K i).1
    show (((zgF T cA cy N K i).pushCell (zgI cy K)).setCell T.heap.size _).heap[T.heap.size + 1 + j]? = _
    rw [State.heap_setCell_other (show T.heap.size ≠ T.heap.size + 1 + j by omega)]
    by_cases hj : j < i
    · rw [State.heap_pushCell_of_lt (h := show T.heap.size + 1 + j < (zgF T cA cy N K i).heap.size by rw [f1]; omega)]
      exact zgF_row T cA cy N K i j hj
    · rw [show T.heap.size + 1 + j = (zgF T cA cy N K i).heap.size by rw [f1]; omega]
      exact State.heap_pushCell_size _ _
section ZMN
variable {E : CtlPost} {e : Env} {d : Bool} {acts : List Action} {s : State}
/-- a new array of nothing but its type's default -/
theorem zwp_new {c comp : ClassId} {k : Class} {ty : FieldType} {n : Nat} {v : Value} (hk : s.vm.classes[c]? = some k) (hkind : k.kind = .array comp ty) (h1 : ¬ n > e.platform.arrayLengthLimit) (h2 : ¬ n * componentBytes ty > e.platform.maxHeapBytes) (hf : fits ty v = true) (hv : v.isDefault = true) {Q : Addr → Pre} (h3 : s.heap.size < e.platform.maxCells) (h4 : s.slotsUsed + n ≤ e.platform.maxSlots)
    (hq : Q s.heap.size d acts (s.pushCell { cls := c, slots := Array.replicate n v, vm := .none })) : wp (Jvm.newArray c n v) Q E e d acts s := by
  have hfit : ∀ i w, (Array.replicate n v)[i]? = some w → s.fitsSlot c .none i w = true := by
    intro i w hw
    rw [Array.getElem?_replicate] at hw
    split at hw
    · cases hw
      simp [State.fitsSlot, State.slotType?, hk, hkind, hf]
    · cases hw
  have hacts : allocActs (Array.replicate n v) s.heap.size acts = acts := by
    have hall : (Array.replicate n v).all (·.isDefault) = true := by
      rw [Array.all_replicate]
      split <;> simp [hv]
    unfold allocActs
    rw [if_pos hall]
  simp only [Jvm.newArray, Jvm.arrayFits, wp_bind', W.ask, W.ite, h1, if_false, wp_pure', W.theClass, hk, hkind, h2, W.alloc, W.stop, Option.some.injEq, exists_eq_left', Array.size_replicate, hacts]
  rw [if_neg (by omega)]
  exact ⟨h3, h4, hfit, hq⟩
theorem zwp_row {cy cc : ClassId} {k : Class} {b : Int32} (hk : s.vm.classes[cy]? = some k) (hkind : k.kind = .array cc .int) (hb : ¬ b < 0) (h1 : ¬ b.toNatClampNeg > e.platform.arrayLengthLimit) (h2 : ¬ b.toNatClampNeg * componentBytes .int > e.platform.maxHeapBytes) (h3 : s.heap.size < e.platform.maxCells) (h4 : s.slotsUsed + b.toNatClampNeg ≤ e.platform.maxSlots) {Q : Addr → Pre}
    (hq : Q s.heap.size d acts (s.pushCell (zgI cy b.toNatClampNeg))) : wp (multianewarray.make cy [b]) Q E e d acts s := by
  rw [multianewarray.make]
  simp only [wp_bind', W.ite, hb, if_false, wp_pure', W.theClass, hk, hkind, Option.some.injEq, exists_eq_left']
  rw [← zgI_new] at hq
  exact zwp_new hk hkind h1 h2 rfl rfl h3 h4 hq
theorem zwp_grid {cA cy cc : ClassId} {kA kC : Class} {a b : Int32} (hkA : s.vm.classes[cA]? = some kA) (hkindA : kA.kind = .array cy (.array .int)) (hkC : s.vm.classes[cy]? = some kC) (hkindC : kC.kind = .array cc .int) (ha : ¬ a < 0) (hb : ¬ b < 0)
    (h1 : ¬ a.toNatClampNeg > e.platform.arrayLengthLimit) (h2 : ¬ a.toNatClampNeg * componentBytes (.array .int) > e.platform.maxHeapBytes) (h3 : ¬ b.toNatClampNeg > e.platform.arrayLengthLimit) (h4 : ¬ b.toNatClampNeg * componentBytes .int > e.platform.maxHeapBytes)
    (h5 : s.heap.size + 1 + a.toNatClampNeg ≤ e.platform.maxCells) (h6 : s.slotsUsed + a.toNatClampNeg + a.toNatClampNeg * b.toNatClampNeg ≤ e.platform.maxSlots) {Q : Addr → Pre}
    (hq : ∀ d' acts', Q s.heap.size d' acts' (zgF s cA cy a.toNatClampNeg b.toNatClampNeg a.toNatClampNeg)) : wp (multianewarray.make cA [a, b]) Q E e d acts s := by
  have hfind : ([b].find? (· < 0)) = none := by simp [hb]
  rw [multianewarray.make]
  simp only [wp_bind', W.ite, ha, if_false, wp_pure', W.theClass, hkA, hkindA, Option.some.injEq, exists_eq_left']
  refine zwp_new hkA hkindA h1 h2 rfl rfl (by omega) (by have := Nat.zero_le (a.toNatClampNeg * b.toNatClampNeg); omega) ?_
  simp only [hfind]
  rw [ite_self, wp_bind', Std.Legacy.Range.forIn_eq_forIn_range']
  rw [show ([:a.toNatClampNeg] : Std.Legacy.Range).size = a.toNatClampNeg by simp [Std.Legacy.Range.size]]
  show wp (forIn (List.range' 0 a.toNatClampNeg 1) PUnit.unit _) _ E e d acts _
  rw [zgO_new cA a.toNatClampNeg s.heap.size]
  refine wp_forIn_inv (fun rest t => ∃ i, i ≤ a.toNatClampNeg ∧ rest = List.range' i (a.toNatClampNeg - i) ∧ t = zgF s cA cy a.toNatClampNeg b.toNatClampNeg i) _ _ ⟨0, Nat.zero_le _, rfl, rfl⟩ ?_ ?_
  · rintro x rest t d' acts' Q' ⟨i, hi, hl, rfl⟩ hnext
    have hlt : i < a.toNatClampNeg := by
      rcases Nat.lt_or_ge i a.toNatClampNeg with h | h
      · exact h
      · rw [show a.toNatClampNeg - i = 0 by omega] at hl
        simp at hl
    obtain ⟨rfl, hrest⟩ : x = i ∧ rest = List.range' (i + 1) (a.toNatClampNeg - (i + 1)) := by
      rw [show a.toNatClampNeg - i = (a.toNatClampNeg - (i + 1)) + 1 by omega, List.range'_succ] at hl
      exact ⟨(List.cons.inj hl).1, (List.cons.inj hl).2⟩
    obtain ⟨f1, f2, f3, f4⟩ := zgF_at s cA cy a.toNatClampNeg b.toNatClampNeg x
    have hmul : x * b.toNatClampNeg + b.toNatClampNeg ≤ a.toNatClampNeg * b.toNatClampNeg := by
      have := Nat.mul_le_mul_right b.toNatClampNeg (show x + 1 ≤ a.toNatClampNeg from hlt)
      rwa [Nat.succ_mul] at this
    simp only [wp_bind']
    refine zwp_row (by rw [f3]; exact hkC) hkindC hb h3 h4 (by rw [f1]; omega) (by rw [f4]; omega) ?_
    simp only [wp_bind', W.writeLoc, wp_pure']
    refine ⟨zgO cA a.toNatClampNeg s.heap.size x, by rw [State.heap_pushCell_of_lt (h := show s.heap.size < (zgF s cA cy a.toNatClampNeg b.toNatClampNeg x).heap.size by rw [f1]; omega)]; exact f2, (by intro q; cases q), by rw [zgO_size]; exact hlt, ?_, hnext _ _ _ ⟨x + 1, hlt, hrest, ?_⟩⟩
    · show State.fitsSlot _ cA .none x _ = true
      simp [State.fitsSlot, State.slotType?, f3, hkA, hkindA, fits]
    · rw [f1, zgO_put]
      rfl
  · rintro t d' acts' ⟨i, hi, hl, rfl⟩
    have e9 : i = a.toNatClampNeg := by
      rcases Nat.lt_or_ge i a.toNatClampNeg with h | h
      · rw [show a.toNatClampNeg - i = (a.toNatClampNeg - (i + 1)) + 1 by omega, List.range'_succ] at hl
        cases hl
      · omega
    subst e9
    simp only [wp_pure']
    exact hq _ _
end ZMN
section ZMS
variable {p : Program} {l : Launch} {e : Env} {R : Room} {s : State} {m : MethodId} {args : Array Value} {below : List Frame} {meth : Method} {c : Code} {T : State} {locs : List Loc} {cells slots : Nat}
theorem zgF_stand (X : Stand p l e R s m args below meth c T locs cells slots) (cA cy : ClassId) (N K : Nat) : ∀ i, ∃ J : List Loc, (∀ x ∈ J, x.base = T.heap.size) ∧ Stand p l e R s m args below meth c (zgF T cA cy N K i) (locs ++ J) (cells + 1 + i) (slots + N + i * K)
  | 0 => by
    have h := X.pushed (zgO cA N T.heap.size 0)
    rw [zgO_size] at h
    exact ⟨[], fun _ h => (by cases h), by simpa [zgF] using h⟩
  | i + 1 => by
    obtain ⟨J, hJ, Xi⟩ := zgF_stand X cA cy N K i
    obtain ⟨f1, f2, f3, f4⟩ := zgF_at T cA cy N K i
    have hc : ((zgF T cA cy N K i).pushCell (zgI cy K)).heap[T.heap.size]? = some (zgO cA N T.heap.size i) := by rw [State.heap_pushCell_of_lt (h := show T.heap.size < (zgF T cA cy N K i).heap.size by rw [f1]; omega)]; exact f2
    have h := (Xi.pushed (zgI cy K)).stored hc i (.ref (T.heap.size + 1 + i))
    rw [zgI_size, zgO_put] at h
    refine ⟨J ++ [⟨T.heap.size, i⟩], fun x hx => ?_, ?_⟩
    · rcases List.mem_append.mp hx with h1 | h1
      · exact hJ x h1
      · rw [List.mem_singleton.mp h1]
    · rw [← List.append_assoc, show slots + N + (i + 1) * K = slots + N + i * K + K by rw [Nat.succ_mul]; omega]
      exact h
end ZMS
section ZMW
variable {p : Program} {l : Launch} {e : Env} {R : Room} {s : State} {mth : MethodId} {args : Array Value} {below : List Frame} {meth : Method} {c : Code} {H : Heap} {locs : List Loc} {cells slots : Nat} {Q : State → Prop}
theorem zW_grid {cc : ByteArray} (hexec : p.tables.exec = Jvm.exec) (hb : c.code = cc) {own : String} {index : Nat} (hown : s.vm.findClass own = some mth.cls) (hclink : (Jvm.Cond.classLink own index "[[I").before args s = true)
    {cA cy c0 : ClassId} {kA kC : Class} (hfA : s.vm.findClass "[[I" = some cA) (hkA : s.vm.classes[cA]? = some kA) (hkindA : kA.kind = .array cy (.array .int)) (hkC : s.vm.classes[cy]? = some kC) (hkindC : kC.kind = .array c0 .int)
    {g : JFrame} (hg : g.method = mth) (hdg : decode cc g.pc = .ok (.multianewarray index 2, 4)) {a b : Int32} {rest : List Value} (hstack : g.stack = .int b :: .int a :: rest)
    (ha : ¬ a < 0) (hb0 : ¬ b < 0) (ha1 : a.toNatClampNeg ≤ 1000) (hb1 : b.toNatClampNeg ≤ 1000) (hcells : cells + (1 + a.toNatClampNeg) ≤ R.cells) (hslots : slots + (a.toNatClampNeg + a.toNatClampNeg * b.toNatClampNeg) ≤ R.slots)
    (kk : ∀ (H' : Heap) (J : List Loc), H'.size = H.size + 1 + a.toNatClampNeg → H'[H.size]? = some (zgO cA a.toNatClampNeg H.size a.toNatClampNeg) → (∀ j, j < a.toNatClampNeg → H'[H.size + 1 + j]? = some (zgI cy b.toNatClampNeg)) → (∀ q, q < H.size → H'[q]? = H[q]?) → (∀ x ∈ J, x.base = H.size) →
      W p l e R s mth args below meth c H' (locs ++ J) (cells + (1 + a.toNatClampNeg)) (slots + (a.toNatClampNeg + a.toNatClampNeg * b.toNatClampNeg)) Q { g with pc := g.pc + 4, stack := .ref H.size :: rest }) :
    W p l e R s mth args below meth c H locs cells slots Q g := by
  intro T hT X
  subst hT
  subst hb
  subst hg
  have hpl : e.platform.magicAccessors = ({} : Platform).magicAccessors := by rw [X.admits.platform]
  obtain ⟨c1, hfc1, hcl⟩ := Cond.classLink_spec hown hclink e.platform hpl
  cases hfA.symm.trans hfc1
  obtain ⟨hg1, hwarm1, hready1⟩ := State.classEntry (e := e) X.warmed hcl
  generalize T.vm.noted g.method.cls index (.cls cA) = vm1 at hg1 hwarm1 hready1
  obtain ⟨kA1, hkA1, heA⟩ := hwarm1.alike.2.2 _ _ hkA
  obtain ⟨kC1, hkC1, heC⟩ := hwarm1.alike.2.2 _ _ hkC
  have hkindA1 : kA1.kind = .array cy (.array .int) := by rw [heA]; exact hkindA
  have hkindC1 : kC1.kind = .array c0 .int := by rw [heC]; exact hkindC
  have X1 := X.noted hwarm1
  obtain ⟨hr1, hr2⟩ := X.roomAbove hcells hslots
  obtain ⟨J, hJ, XF⟩ := zgF_stand X1 cA cy a.toNatClampNeg b.toNatClampNeg a.toNatClampNeg
  obtain ⟨f1, f2, f3, f4⟩ := zgF_at (T.setVm vm1) cA cy a.toNatClampNeg b.toNatClampNeg a.toNatClampNeg
  have XF2 : Stand p l e R s g.method args below meth c (zgF (T.setVm vm1) cA cy a.toNatClampNeg b.toNatClampNeg a.toNatClampNeg) (locs ++ J) (cells + (1 + a.toNatClampNeg)) (slots + (a.toNatClampNeg + a.toNatClampNeg * b.toNatClampNeg)) := by
    rw [← Nat.add_assoc, ← Nat.add_assoc]
    exact XF
  obtain ⟨t, st1, st2⟩ := kk _ J f1 f2 (zgF_row (T.setVm vm1) cA cy _ _ _) (fun q hq => zgF_old (T.setVm vm1) cA cy _ _ hq _) hJ _ rfl XF2
  refine ⟨t, ?_, st2⟩
  have hl1 : ¬ a.toNatClampNeg > e.platform.arrayLengthLimit := by rw [Launch.admits_arrayLengthLimit X.admits]; omega
  have hh1 : ¬ a.toNatClampNeg * componentBytes (.array .int) > e.platform.maxHeapBytes := by
    rw [Launch.admits_maxHeapBytes X.admits]; show ¬ a.toNatClampNeg * 4 > 536870912; omega
  have hl2 : ¬ b.toNatClampNeg > e.platform.arrayLengthLimit := by rw [Launch.admits_arrayLengthLimit X.admits]; omega
  have hh2 : ¬ b.toNatClampNeg * componentBytes .int > e.platform.maxHeapBytes := by
    rw [Launch.admits_maxHeapBytes X.admits]; show ¬ b.toNatClampNeg * 4 > 536870912; omega
  jvm_step X.here [hexec, hdg]
  simp only [multianewarray.sem, wp_bind', W.resolveClassAt_links (State.method?_setTop g X.here.top) hg1]
  rw [W.popN, if_neg (by decide)]
  refine ⟨g, State.topJava?_setTop' (s := T.setVm vm1) g X.here.top, [.int a, .int b], rest, rfl, hstack, ?_⟩
  simp only [List.mapM_cons, List.mapM_nil, wp_bind', wp_pure']
  refine zwp_grid hkA1 hkindA1 hkC1 hkindC1 ha hb0 hl1 hh1 hl2 hh2 (by show T.heap.size + 1 + _ ≤ _; omega) (by show T.slotsUsed + _ + _ ≤ _; omega) (fun d' acts' => ?_)
  have eS : ((T.setTop g).setVm vm1).setTop { g with stack := rest } = (T.setVm vm1).setTop { g with stack := rest } := by
    show ((T.setVm vm1).setTop g).setTop _ = _
    rw [State.setTop_setTop]
  rw [eS, zgF_top]
  simp only [wp_bind', W.mark, W.pushRef, State.topJava?_setTop' _ XF.here.top, Option.some.injEq, exists_eq_left', State.setTop_setTop, State.heap_setTop]
  intro acts
  simp [jvm, XF.here.top]
  exact st1
end ZMW
section ZMG
variable {p : Program} {l : Launch} {e : Env} {R : Room} {s : State} {mth : MethodId} {args : Array Value} {below : List Frame} {meth : Method} {c : Code} {cells slots : Nat} {Q : State → Prop} {G : zG} {H0 : Heap} {cc : ByteArray}
variable {nL pc : Nat} {lv : zLV} {st : List Value} {m : zMem}
theorem mkRows_N (w : zMem) (k : Nat) : ∀ n, memN (mkRows w k n) = memN w + n ∧ memS (mkRows w k n) = memS w + n * k
  | 0 => ⟨rfl, by show memS w = memS w + 0 * k; omega⟩
  | n + 1 => by
    obtain ⟨h1, h2⟩ := mkRows_N w k n
    have e1 : memN (mkRows w k (n + 1)) = memN (mkRows w k n) + 1 := rfl
    have e2 : memS (mkRows w k (n + 1)) = memS (mkRows w k n) + k := rfl
    rw [e1, e2, h1, h2, Nat.succ_mul]
    exact ⟨by omega, by omega⟩
theorem mkGrid_N (m : zMem) (n k : Nat) : memN (mkGrid m n k) = memN m + (1 + n) ∧ memS (mkGrid m n k) = memS m + (n + n * k) := by
  obtain ⟨h1, h2⟩ := mkRows_N (mkCell m 7 n) k n
  have e1 : memN (mkGrid m n k) = memN (mkRows (mkCell m 7 n) k n) := rfl
  have e2 : memS (mkGrid m n k) = memS (mkRows (mkCell m 7 n) k n) := rfl
  have e3 : memN (mkCell m 7 n) = memN m + 1 := rfl
  have e4 : memS (mkCell m 7 n) = memS m + n := rfl
  rw [e1, e2, h1, h2, e3, e4]
  exact ⟨by omega, by omega⟩
theorem mkCell_old (m : zMem) (t n a : Nat) (h : a ≠ memN m) : memK (mkCell m t n) a = memK m a ∧ ∀ j, memI (mkCell m t n) a j = memI m a j ∧ memL (mkCell m t n) a j = memL m a j ∧ memR (mkCell m t n) a j = memR m a j := by
  have h' : ¬ a = m.2.1 := h
  refine ⟨if_neg h', fun j => ⟨?_, ?_, ?_⟩⟩
  · exact if_neg h'
  · exact if_neg h'
  · exact if_neg h'
theorem mkRows_old (w : zMem) (k : Nat) : ∀ n a, (a < memN w ∨ memN w + n ≤ a) → memK (mkRows w k n) a = memK w a ∧ ∀ j, memI (mkRows w k n) a j = memI w a j ∧ memL (mkRows w k n) a j = memL w a j ∧ memR (mkRows w k n) a j = memR w a j
  | 0, _, _ => ⟨rfl, fun _ => ⟨rfl, rfl, rfl⟩⟩
  | n + 1, a, h => by
    obtain ⟨h1, h2⟩ := mkRows_old w k n a (by omega)
    have hN := (mkRows_N w k n).1
    obtain ⟨h3, h4⟩ := mkCell_old (mkRows w k n) 1 k a (by omega)
    exact ⟨h3.trans h1, fun j => ⟨(h4 j).1.trans (h2 j).1, (h4 j).2.1.trans (h2 j).2.1, (h4 j).2.2.trans (h2 j).2.2⟩⟩
theorem mkRows_new (w : zMem) (k : Nat) : ∀ n a, memN w ≤ a → a < memN w + n → memK (mkRows w k n) a = (1, k) ∧ ∀ j, memI (mkRows w k n) a j = 0
  | 0, _, h1, h2 => absurd h2 (by omega)
  | n + 1, a, h1, h2 => by
    have hN := (mkRows_N w k n).1
    by_cases e : a = memN (mkRows w k n)
    · have e' : a = (mkRows w k n).2.1 := e
      refine ⟨if_pos e', fun j => ?_⟩
      exact if_pos e'
    · obtain ⟨h3, h4⟩ := mkCell_old (mkRows w k n) 1 k a e
      obtain ⟨h5, h6⟩ := mkRows_new w k n a h1 (by omega)
      exact ⟨h3.trans h5, fun j => (h4 j).1.trans (h6 j)⟩
theorem mkGrid_R (m : zMem) (n k a j : Nat) : memR (mkGrid m n k) a j = if a = memN m then (if j < n then some (memN m + 1 + j) else none) else memR (mkRows (mkCell m 7 n) k n) a j := by
  by_cases h : a = m.2.1
  · rw [show (memR (mkGrid m n k) a j) = _ from if_pos h, if_pos (show a = memN m from h)]
    rfl
  · rw [show (memR (mkGrid m n k) a j) = _ from if_neg h, if_neg (show ¬ a = memN m from h)]
    rfl
theorem zs_mna (hx : p.tables.exec = Jvm.exec) (hb : c.code = cc) (hT : zTab G s) (hw : ∀ w ∈ zTw, w.before args s = true) {o ix : Nat} {a b : Int32} (hown : s.vm.findClass (zCn o) = some mth.cls) (hf : ((o, ix), 99) ∈ zNew) (ha : ¬ a < 0) (hb0 : ¬ b < 0) (ha1 : a.toNatClampNeg ≤ 1000) (hb1 : b.toNatClampNeg ≤ 1000) (hc1 : cells + (1 + a.toNatClampNeg) ≤ R.cells) (hs1 : slots + (a.toNatClampNeg + a.toNatClampNeg * b.toNatClampNeg) ≤ R.slots) (hd : decode cc pc = .ok (.multianewarray ix 2, 4))
    (kk : zGo p l e R s mth args below meth c Q G H0 nL (cells + (1 + a.toNatClampNeg)) (slots + (a.toNatClampNeg + a.toNatClampNeg * b.toNatClampNeg)) (pc + 4) lv (.ref (memN m) :: st) (mkGrid m a.toNatClampNeg b.toNatClampNeg)) : zGo p l e R s mth args below meth c Q G H0 nL cells slots pc lv (.int b :: .int a :: st) m := by
  intro ls H locs hS hl
  have hlk := zw_new hf
  rw [if_pos rfl] at hlk
  have hfA : s.vm.findClass "[[I" = some (G.2.2.2.2 7) := (hT.2.1 7 (by omega) (by omega)).2
  obtain ⟨kA, hkA, hkindA⟩ := hT.2.2.2.2.2
  have hA1 := (hT.2.1 1 (by omega) (by omega)).1 0 (fun _ => .null)
  obtain ⟨-, kC, hkC, c0, hkindC⟩ := hA1
  refine zW_grid hx hb hown (hw _ hlk) hfA hkA hkindA hkC hkindC rfl hd rfl ha hb0 ha1 hb1 hc1 hs1 fun H' J z1 o1 r1 w1 hJ => ?_
  refine W.eq (g2 := F0 mth (pc + 4) ls (.ref H.size :: st.map (cvV G))) rfl ?_
  have hsz := hS.1
  rw [show (Value.ref H.size) = Value.ref (G.1 + memN m) by rw [hsz]]
  refine kk ls _ _ ⟨?_, ?_, ?_, ?_, ?_⟩ hl
  · rw [(mkGrid_N m _ _).1, z1, hsz]
    omega
  · intro k hk
    rw [(mkGrid_N m _ _).1] at hk
    have e1 : memN (mkCell m 7 a.toNatClampNeg) = memN m + 1 := rfl
    show (memK (mkRows (mkCell m 7 a.toNatClampNeg) b.toNatClampNeg a.toNatClampNeg) k).1 = 0
    rw [(mkRows_old _ _ _ k (by omega)).1, (mkCell_old m _ _ k (by omega)).1]
    exact hS.2.1 k (by omega)
  · intro k hk
    rw [(mkGrid_N m _ _).1] at hk
    have e1 : memN (mkCell m 7 a.toNatClampNeg) = memN m + 1 := rfl
    have eK : memK (mkGrid m a.toNatClampNeg b.toNatClampNeg) k = memK (mkRows (mkCell m 7 a.toNatClampNeg) b.toNatClampNeg a.toNatClampNeg) k := rfl
    by_cases k1 : k < memN m
    · obtain ⟨q1, q2⟩ := mkRows_old (mkCell m 7 a.toNatClampNeg) b.toNatClampNeg a.toNatClampNeg k (by omega)
      obtain ⟨q3, q4⟩ := mkCell_old m 7 a.toNatClampNeg k (by omega)
      refine (hS.2.2.1 k k1).kept (eK.trans (q1.trans q3)) (fun j => ⟨(q2 j).1.trans (q4 j).1, (q2 j).2.1.trans (q4 j).2.1, ?_⟩) (w1 _ (by omega))
      rw [mkGrid_R, if_neg (by omega)]
      exact (q2 j).2.2.trans (q4 j).2.2
    · left
      by_cases k2 : k = memN m
      · have eK2 : memK (mkGrid m a.toNatClampNeg b.toNatClampNeg) k = (7, a.toNatClampNeg) := by
          rw [eK, (mkRows_old (mkCell m 7 a.toNatClampNeg) b.toNatClampNeg a.toNatClampNeg k (by omega)).1]
          exact if_pos k2
        rw [eK2]
        refine ⟨by omega, by omega, ?_⟩
        rw [k2, ← hsz, o1]
        unfold zgO
        congr 2
        funext j
        show _ = cvV G (va_rf (memR _ _ j))
        rw [mkGrid_R, if_pos rfl]
        by_cases hj : j < a.toNatClampNeg
        · rw [if_pos hj, if_pos hj, hsz]
          show Value.ref (G.1 + memN m + 1 + j) = Value.ref (G.1 + (memN m + 1 + j))
          rw [Nat.add_assoc, Nat.add_assoc, Nat.add_assoc]
        · rw [if_neg hj, if_neg hj]
          rfl
      · obtain ⟨q1, q2⟩ := mkRows_new (mkCell m 7 a.toNatClampNeg) b.toNatClampNeg a.toNatClampNeg k (by omega) (by omega)
        rw [eK.trans q1]
        refine ⟨by omega, by omega, ?_⟩
        rw [show G.1 + k = H.size + 1 + (k - memN m - 1) by omega, r1 _ (by omega)]
        unfold zgI
        congr 2
        funext j
        show Value.int 0 = cvV G (Value.int (memI (mkRows (mkCell m 7 a.toNatClampNeg) b.toNatClampNeg a.toNatClampNeg) k j))
        rw [q2 j]
        rfl
  · intro q hq
    rw [w1 q (by omega)]
    exact hS.2.2.2.1 q hq
  · intro q hq
    rcases List.mem_append.mp hq with h1 | h1
    · exact hS.2.2.2.2 q h1
    · rw [hJ q h1, hsz]
      exact Nat.le_add_right _ _
end ZMG
