/-! THE PURE PART. What a constructor lays, by lists -/
abbrev AL (α : Type) : Type := List ((Nat × Nat) × α)
theorem al_cons {α : Type} (i j : Nat) (v : α) (l : AL α) (x y : Nat) : List.lookup (x, y) (((i, j), v) :: l) = if x = i ∧ y = j then some v else List.lookup (x, y) l := by
  rw [List.lookup_cons]
  by_cases h : x = i ∧ y = j
  · rw [if_pos h, h.1, h.2, beq_self_eq_true]
  · rw [if_neg h]
    have e : ((x, y) == (i, j)) = false := by
      cases hb : ((x, y) == (i, j)) with
      | false => rfl
      | true =>
        have := eq_of_beq hb
        exact absurd ⟨congrArg Prod.fst this, congrArg Prod.snd this⟩ h
    rw [e]
def alB {α : Type} (n : Nat) (l : AL α) : Prop := ∀ x y, n ≤ x → List.lookup (x, y) l = none
theorem alB.nil {α : Type} (n : Nat) : alB n ([] : AL α) := fun _ _ _ => rfl
theorem alB.up {α : Type} {n k : Nat} {l : AL α} (h : alB n l) (hk : n ≤ k) : alB k l := fun x y hx => h x y (by omega)
theorem alB.cons {α : Type} {n i j : Nat} {v : α} {l : AL α} (h : alB n l) (hi : i < n) : alB n (((i, j), v) :: l) := fun x y hx => by
  rw [al_cons, if_neg (by omega)]
  exact h x y hx
/-- from cell a on these cells were laid, all else is as it was -/
def Blk (m m2 : zMem) (a n sz : Nat) (Kf : Nat → Nat × Nat) (R : AL Nat) (I : AL Int32) (L : AL Int64) : Prop :=
  memN m2 = a + n ∧ memS m2 = memS m + sz ∧ alB n R ∧ alB n I ∧ alB n L ∧
  (∀ x, memK m2 x = if a ≤ x ∧ x < a + n then Kf (x - a) else memK m x) ∧
  (∀ x j, memR m2 x j = if a ≤ x ∧ x < a + n then (List.lookup (x - a, j) R).map (fun y => a + y) else memR m x j) ∧
  (∀ x j, memI m2 x j = if a ≤ x ∧ x < a + n then (List.lookup (x - a, j) I).getD 0 else memI m x j) ∧
  ∀ x j, memL m2 x j = if a ≤ x ∧ x < a + n then (List.lookup (x - a, j) L).getD 0 else memL m x j
theorem memK_mk (m : zMem) (t n x : Nat) : memK (mkCell m t n) x = if x = memN m then (t, n) else memK m x := rfl
theorem memN_mk (m : zMem) (t n : Nat) : memN (mkCell m t n) = memN m + 1 := rfl
theorem memS_mk (m : zMem) (t n : Nat) : memS (mkCell m t n) = memS m + n := rfl
theorem memI_mk (m : zMem) (t n x j : Nat) : memI (mkCell m t n) x j = if x = memN m then 0 else memI m x j := rfl
theorem memL_mk (m : zMem) (t n x j : Nat) : memL (mkCell m t n) x j = if x = memN m then 0 else memL m x j := rfl
theorem memR_mk (m : zMem) (t n x j : Nat) : memR (mkCell m t n) x j = if x = memN m then none else memR m x j := rfl
section BLK
variable {m m2 : zMem} {a n sz : Nat} {Kf : Nat → Nat × Nat} {R : AL Nat} {I : AL Int32} {L : AL Int64}
theorem Blk.nil (h : memN m = a) (Kf : Nat → Nat × Nat) : Blk m m a 0 0 Kf [] [] [] := ⟨h, rfl, alB.nil _, alB.nil _, alB.nil _, fun x => (if_neg (by omega)).symm, fun x j => (if_neg (by omega)).symm, fun x j => (if_neg (by omega)).symm, fun x j => (if_neg (by omega)).symm⟩
theorem Blk.cell (h : Blk m m2 a n sz Kf R I L) {t k : Nat} (hK : Kf n = (t, k)) : Blk m (mkCell m2 t k) a (n + 1) (sz + k) Kf R I L := by
  obtain ⟨h1, h2, h3, h4, h5, h6, h7, h8, h9⟩ := h
  refine ⟨by rw [memN_mk, h1]; omega, by rw [memS_mk, h2]; omega, h3.up (by omega), h4.up (by omega), h5.up (by omega), fun x => ?_, fun x j => ?_, fun x j => ?_, fun x j => ?_⟩
  · rw [memK_mk, h1, h6]
    by_cases e : x = a + n
    · rw [if_pos e, if_pos (by omega), e, show a + n - a = n by omega, hK]
    · rw [if_neg e]
      by_cases c : a ≤ x ∧ x < a + n
      · rw [if_pos c, if_pos (by omega)]
      · rw [if_neg c, if_neg (by omega)]
  · rw [memR_mk, h1, h7]
    by_cases e : x = a + n
    · rw [if_pos e, if_pos (by omega), h3 _ _ (by omega)]; rfl
    · rw [if_neg e]
      by_cases c : a ≤ x ∧ x < a + n
      · rw [if_pos c, if_pos (by omega)]
      · rw [if_neg c, if_neg (by omega)]
  · rw [memI_mk, h1, h8]
    by_cases e : x = a + n
    · rw [if_pos e, if_pos (by omega), h4 _ _ (by omega)]; rfl
    · rw [if_neg e]
      by_cases c : a ≤ x ∧ x < a + n
      · rw [if_pos c, if_pos (by omega)]
      · rw [if_neg c, if_neg (by omega)]
  · rw [memL_mk, h1, h9]
    by_cases e : x = a + n
    · rw [if_pos e, if_pos (by omega), h5 _ _ (by omega)]; rfl
    · rw [if_neg e]
      by_cases c : a ≤ x ∧ x < a + n
      · rw [if_pos c, if_pos (by omega)]
      · rw [if_neg c, if_neg (by omega)]
theorem Blk.setR (h : Blk m m2 a n sz Kf R I L) {i j v : Nat} (hi : i < n) : Blk m (setR m2 (a + i) j (some (a + v))) a n sz Kf (((i, j), v) :: R) I L := by
  obtain ⟨h1, h2, h3, h4, h5, h6, h7, h8, h9⟩ := h
  refine ⟨h1, h2, h3.cons hi, h4, h5, h6, fun x y => ?_, h8, h9⟩
  show (if x = a + i ∧ y = j then some (a + v) else memR m2 x y) = _
  rw [h7, al_cons]
  by_cases e : x = a + i ∧ y = j
  · rw [if_pos e, if_pos (by omega), if_pos ⟨by omega, e.2⟩]; rfl
  · rw [if_neg e]
    by_cases c : a ≤ x ∧ x < a + n
    · rw [if_pos c, if_pos c, if_neg (by omega)]
    · rw [if_neg c, if_neg c]
theorem Blk.setI (h : Blk m m2 a n sz Kf R I L) {i j : Nat} {v : Int32} (hi : i < n) : Blk m (setI m2 (a + i) j v) a n sz Kf R (((i, j), v) :: I) L := by
  obtain ⟨h1, h2, h3, h4, h5, h6, h7, h8, h9⟩ := h
  refine ⟨h1, h2, h3, h4.cons hi, h5, h6, h7, fun x y => ?_, h9⟩
  show (if x = a + i ∧ y = j then v else memI m2 x y) = _
  rw [h8, al_cons]
  by_cases e : x = a + i ∧ y = j
  · rw [if_pos e, if_pos (by omega), if_pos ⟨by omega, e.2⟩]; rfl
  · rw [if_neg e]
    by_cases c : a ≤ x ∧ x < a + n
    · rw [if_pos c, if_pos c, if_neg (by omega)]
    · rw [if_neg c, if_neg c]
theorem Blk.setL (h : Blk m m2 a n sz Kf R I L) {i j : Nat} {v : Int64} (hi : i < n) : Blk m (setL m2 (a + i) j v) a n sz Kf R I (((i, j), v) :: L) := by
  obtain ⟨h1, h2, h3, h4, h5, h6, h7, h8, h9⟩ := h
  refine ⟨h1, h2, h3, h4, h5.cons hi, h6, h7, h8, fun x y => ?_⟩
  show (if x = a + i ∧ y = j then v else memL m2 x y) = _
  rw [h9, al_cons]
  by_cases e : x = a + i ∧ y = j
  · rw [if_pos e, if_pos (by omega), if_pos ⟨by omega, e.2⟩]; rfl
  · rw [if_neg e]
    by_cases c : a ≤ x ∧ x < a + n
    · rw [if_pos c, if_pos c, if_neg (by omega)]
    · rw [if_neg c, if_neg c]
end BLK
