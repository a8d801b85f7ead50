/-! new int[N][K]: the outer array, then its rows one by one, each put into its place -/
/-- the outer array when i rows are in it -/
def zgO (cA : ClassId) (N h i : Nat) : Cell := arrV cA N (fun j => if j < i then .ref (h + 1 + j) else .null)
def zgI (cy : ClassId) (K : Nat) : Cell := arrV cy K (fun _ => .int 0)
def zgF (T : State) (cA cy : ClassId) (N K : Nat) : Nat → State
  | 0 => T.pushCell (zgO cA N T.heap.size 0)
  | i + 1 => ((zgF T cA cy N K i).pushCell (zgI cy K)).setCell T.heap.size (zgO cA N T.heap.size (i + 1))
theorem zgO_new (cA : ClassId) (N h : Nat) : ({ cls := cA, slots := Array.replicate N .null, vm := .none } : Cell) = zgO cA N h 0 := by
  rw [arrV_new]
  unfold zgO
  congr 1
theorem zgI_new (cy : ClassId) (K : Nat) : ({ cls := cy, slots := Array.replicate K (.int 0), vm := .none } : Cell) = zgI cy K := arrV_new cy K (.int 0)
theorem zgO_put (cA : ClassId) (N h i : Nat) : (zgO cA N h i).setSlot i (.ref (h + 1 + i)) = zgO cA N h (i + 1) := by
  unfold zgO
  rw [arrV_store]
  congr 1
  funext j
  unfold updV
  by_cases e : j = i
  · subst e
    rw [if_pos rfl, if_pos (Nat.lt_succ_self j)]
  · rw [if_neg e]
    by_cases h1 : j < i
    · rw [if_pos h1, if_pos (by omega)]
    · rw [if_neg h1, if_neg (by omega)]
theorem zgO_size (cA : ClassId) (N h i : Nat) : (zgO cA N h i).slots.size = N := arrV_size _ _ _
theorem zgI_size (cy : ClassId) (K : Nat) : (zgI cy K).slots.size = K := arrV_size _ _ _
theorem zgF_at (T : State) (cA cy : ClassId) (N K : Nat) : ∀ i, (zgF T cA cy N K i).heap.size = T.heap.size + 1 + i ∧ (zgF T cA cy N K i).heap[T.heap.size]? = some (zgO cA N T.heap.size i) ∧ (zgF T cA cy N K i).vm = T.vm ∧ (zgF T cA cy N K i).slotsUsed = T.slotsUsed + N + i * K
  | 0 => ⟨by simp [zgF, State.pushCell], by simp [zgF, State.pushCell], rfl, by simp [zgF, zgO_size]⟩
  | i + 1 => by
    obtain ⟨a, b, d, u⟩ := zgF_at T cA cy N K i
    have hlt : T.heap.size < (zgF T cA cy N K i).heap.size := by omega
    have hb : ((zgF T cA cy N K i).pushCell (zgI cy K)).heap[T.heap.size]? = some (zgO cA N T.heap.size i) := by rw [State.heap_pushCell_of_lt (h := hlt)]; exact b
    refine ⟨?_, State.heap_setCell_self hb, by simp [zgF, d], ?_⟩
    · simp [zgF, State.setCell, State.pushCell, a]
      omega
    · simp [zgF, u, zgI_size, Nat.succ_mul]
      omega
theorem zgF_top (T : State) (f : JFrame) (cA cy : ClassId) (N K : Nat) : ∀ i, zgF (T.setTop f) cA cy N K i = (zgF T cA cy N K i).setTop f
  | 0 => rfl
  | i + 1 => by simp only [zgF, zgF_top T f cA cy N K i, State.heap_setTop, State.pushCell_setTop, State.setCell_setTop]
theorem zgF_old (T : State) (cA cy : ClassId) (N K : Nat) {a : Addr} (ha : a < T.heap.size) : ∀ i, (zgF T cA cy N K i).heap[a]? = T.heap[a]?
  | 0 => State.heap_pushCell_of_lt _ _ ha
  | i + 1 => by
    have f1 := (zgF_at T cA cy N K i).1
    have hlt : a < (zgF T cA cy N K i).heap.size := by omega
    show (((zgF T cA cy N K i).pushCell (zgI cy K)).setCell T.heap.size _).heap[a]? = _
    rw [State.heap_setCell_other (Nat.ne_of_gt ha), State.heap_pushCell_of_lt (h := hlt)]
    exact zgF_old T cA cy N K ha i
theorem zgF_row (T : State) (cA cy : ClassId) (N K : Nat) : ∀ i j, j < i → (zgF T cA cy N K i).heap[T.heap.size + 1 + j]? = some (zgI cy K)
  | 0, _, h => absurd h (Nat.not_lt_zero _)
  | i + 1, j, h => by
    have f1 := (zgF_at T cA cy N K i).1
    show (((zgF T cA cy N K i).pushCell (zgI cy K)).setCell T.heap.size _).heap[T.heap.size + 1 + j]? = _
    rw [State.heap_setCell_other (show T.heap.size ≠ T.heap.size + 1 + j by omega)]
    by_cases hj : j < i
    · rw [State.heap_pushCell_of_lt (h := by omega)]
      exact zgF_row T cA cy N K i j hj
    · rw [show T.heap.size + 1 + j = (zgF T cA cy N K i).heap.size by omega]
      exact State.heap_pushCell_size _ _
section ZMN
variable {E : CtlPost} {e : Env} {d : Bool} {acts : List Action} {s : State}
/-- a new array of nothing but its type's default -/
theorem zwp_new {c comp : ClassId} {k : Class} {ty : FieldType} {n : Nat} {v : Value} (hk : s.vm.classes[c]? = some k) (hkind : k.kind = .array comp ty) (h1 : ¬ n > e.platform.arrayLengthLimit) (h2 : ¬ n * componentBytes ty > e.platform.maxHeapBytes) (hf : fits ty v = true) (hv : v.isDefault = true) {Q : Addr → Pre} (h3 : s.heap.size < e.platform.maxCells) (h4 : s.slotsUsed + n ≤ e.platform.maxSlots)
    (hq : Q s.heap.size d acts (s.pushCell { cls := c, slots := Array.replicate n v, vm := .none })) : wp (Jvm.newArray c n v) Q E e d acts s := by
  have hfit : ∀ i w, (Array.replicate n v)[i]? = some w → s.fitsSlot c .none i w = true := by
    intro i w hw
    rw [Array.getElem?_replicate] at hw
    split at hw
    · cases hw
      simp [State.fitsSlot, State.slotType?, hk, hkind, hf]
    · cases hw
  have hacts : allocActs (Array.replicate n v) s.heap.size acts = acts := by
    have hall : (Array.replicate n v).all (·.isDefault) = true := by
      rw [Array.all_replicate]
      split <;> simp [hv]
    unfold allocActs
    rw [if_pos hall]
  simp only [Jvm.newArray, Jvm.arrayFits, wp_bind', W.ask, W.ite, h1, if_false, wp_pure', W.theClass, hk, hkind, h2, W.alloc, W.stop, Option.some.injEq, exists_eq_left', Array.size_replicate, hacts]
  rw [if_neg (by omega)]
  exact ⟨h3, h4, hfit, hq⟩
theorem zwp_row {cy cc : ClassId} {k : Class} {b : Int32} (hk : s.vm.classes[cy]? = some k) (hkind : k.kind = .array cc .int) (hb : ¬ b < 0) (h1 : ¬ b.toNatClampNeg > e.platform.arrayLengthLimit) (h2 : ¬ b.toNatClampNeg * componentBytes .int > e.platform.maxHeapBytes) (h3 : s.heap.size < e.platform.maxCells) (h4 : s.slotsUsed + b.toNatClampNeg ≤ e.platform.maxSlots) {Q : Addr → Pre}
    (hq : Q s.heap.size d acts (s.pushCell (zgI cy b.toNatClampNeg))) : wp (multianewarray.make cy [b]) Q E e d acts s := by
  rw [multianewarray.make]
  simp only [wp_bind', W.ite, hb, if_false, wp_pure', W.theClass, hk, hkind, Option.some.injEq, exists_eq_left']
  rw [← zgI_new] at hq
  exact zwp_new hk hkind h1 h2 rfl rfl h3 h4 hq
theorem zwp_grid {cA cy cc : ClassId} {kA kC : Class} {a b : Int32} (hkA : s.vm.classes[cA]? = some kA) (hkindA : kA.kind = .array cy (.array .int)) (hkC : s.vm.classes[cy]? = some kC) (hkindC : kC.kind = .array cc .int) (ha : ¬ a < 0) (hb : ¬ b < 0)
    (h1 : ¬ a.toNatClampNeg > e.platform.arrayLengthLimit) (h2 : ¬ a.toNatClampNeg * componentBytes (.array .int) > e.platform.maxHeapBytes) (h3 : ¬ b.toNatClampNeg > e.platform.arrayLengthLimit) (h4 : ¬ b.toNatClampNeg * componentBytes .int > e.platform.maxHeapBytes)
    (h5 : s.heap.size + 1 + a.toNatClampNeg ≤ e.platform.maxCells) (h6 : s.slotsUsed + a.toNatClampNeg + a.toNatClampNeg * b.toNatClampNeg ≤ e.platform.maxSlots) {Q : Addr → Pre}
    (hq : ∀ d' acts', Q s.heap.size d' acts' (zgF s cA cy a.toNatClampNeg b.toNatClampNeg a.toNatClampNeg)) : wp (multianewarray.make cA [a, b]) Q E e d acts s := by
  have hfind : ([b].find? (· < 0)) = none := by simp [hb]
  rw [multianewarray.make]
  simp only [wp_bind', W.ite, ha, if_false, wp_pure', W.theClass, hkA, hkindA, Option.some.injEq, exists_eq_left']
  refine zwp_new hkA hkindA h1 h2 rfl rfl (by omega) (by have := Nat.zero_le (a.toNatClampNeg * b.toNatClampNeg); omega) ?_
  simp only [hfind]
  rw [ite_self, wp_bind', Std.Legacy.Range.forIn_eq_forIn_range']
  rw [show ([:a.toNatClampNeg] : Std.Legacy.Range).size = a.toNatClampNeg by simp [Std.Legacy.Range.size]]
  show wp (forIn (List.range' 0 a.toNatClampNeg 1) PUnit.unit _) _ E e d acts _
  rw [zgO_new cA a.toNatClampNeg s.heap.size]
  refine wp_forIn_inv (fun rest t => ∃ i, i ≤ a.toNatClampNeg ∧ rest = List.range' i (a.toNatClampNeg - i) ∧ t = zgF s cA cy a.toNatClampNeg b.toNatClampNeg i) _ _ ⟨0, Nat.zero_le _, rfl, rfl⟩ ?_ ?_
  · rintro x rest t d' acts' Q' ⟨i, hi, hl, rfl⟩ hnext
    have hlt : i < a.toNatClampNeg := by
      rcases Nat.lt_or_ge i a.toNatClampNeg with h | h
      · exact h
      · rw [show a.toNatClampNeg - i = 0 by omega] at hl
        simp at hl
    obtain ⟨rfl, hrest⟩ : x = i ∧ rest = List.range' (i + 1) (a.toNatClampNeg - (i + 1)) := by
      rw [show a.toNatClampNeg - i = (a.toNatClampNeg - (i + 1)) + 1 by omega, List.range'_succ] at hl
      exact ⟨(List.cons.inj hl).1, (List.cons.inj hl).2⟩
    obtain ⟨f1, f2, f3, f4⟩ := zgF_at s cA cy a.toNatClampNeg b.toNatClampNeg x
    have hmul : x * b.toNatClampNeg + b.toNatClampNeg ≤ a.toNatClampNeg * b.toNatClampNeg := by
      have := Nat.mul_le_mul_right b.toNatClampNeg (show x + 1 ≤ a.toNatClampNeg from hlt)
      rwa [Nat.succ_mul] at this
    simp only [wp_bind']
    refine zwp_row (by rw [f3]; exact hkC) hkindC hb h3 h4 (by rw [f1]; omega) (by rw [f4]; omega) ?_
    simp only [wp_bind', W.writeLoc, wp_pure']
    refine ⟨zgO cA a.toNatClampNeg s.heap.size x, by rw [State.heap_pushCell_of_lt (h := by omega)]; exact f2, fun q => by cases q, by rw [zgO_size]; exact hlt, ?_, hnext _ _ _ ⟨x + 1, hlt, hrest, ?_⟩⟩
    · show State.fitsSlot _ cA .none x _ = true
      simp [State.fitsSlot, State.slotType?, f3, hkA, hkindA, fits]
    · rw [f1, zgO_put]
      rfl
  · rintro t d' acts' ⟨i, hi, hl, rfl⟩
    have e9 : i = a.toNatClampNeg := by
      rcases Nat.lt_or_ge i a.toNatClampNeg with h | h
      · rw [show a.toNatClampNeg - i = (a.toNatClampNeg - (i + 1)) + 1 by omega, List.range'_succ] at hl
        cases hl
      · omega
    subst e9
    simp only [wp_pure']
    exact hq _ _
end ZMN
section ZMS
variable {p : Program} {l : Launch} {e : Env} {R : Room} {s : State} {m : MethodId} {args : Array Value} {below : List Frame} {meth : Method} {c : Code} {T : State} {locs : List Loc} {cells slots : Nat}
theorem zgF_stand (X : Stand p l e R s m args below meth c T locs cells slots) (cA cy : ClassId) (N K : Nat) : ∀ i, ∃ J : List Loc, (∀ x ∈ J, x.base = T.heap.size) ∧ Stand p l e R s m args below meth c (zgF T cA cy N K i) (locs ++ J) (cells + 1 + i) (slots + N + i * K)
  | 0 => by
    have h := X.pushed (zgO cA N T.heap.size 0)
    rw [zgO_size] at h
    exact ⟨[], fun _ h => (by cases h), by simpa [zgF] using h⟩
  | i + 1 => by
    obtain ⟨J, hJ, Xi⟩ := zgF_stand X cA cy N K i
    obtain ⟨f1, f2, f3, f4⟩ := zgF_at T cA cy N K i
    have hc : ((zgF T cA cy N K i).pushCell (zgI cy K)).heap[T.heap.size]? = some (zgO cA N T.heap.size i) := by rw [State.heap_pushCell_of_lt (h := by omega)]; exact f2
    have h := (Xi.pushed (zgI cy K)).stored hc i (.ref (T.heap.size + 1 + i))
    rw [zgI_size, zgO_put] at h
    refine ⟨J ++ [⟨T.heap.size, i⟩], fun x hx => ?_, ?_⟩
    · rcases List.mem_append.mp hx with h1 | h1
      · exact hJ x h1
      · rw [List.mem_singleton.mp h1]
    · rw [← List.append_assoc, show slots + N + (i + 1) * K = slots + N + i * K + K by rw [Nat.succ_mul]; omega]
      exact h
end ZMS
