/-! THE PURE PART. What the constructors lay, by lists -/
abbrev AL (α : Type) : Type := List ((Nat × Nat) × α)
theorem al_cons {α : Type} (i j : Nat) (v : α) (l : AL α) (x y : Nat) : List.lookup (x, y) (((i, j), v) :: l) = if x = i ∧ y = j then some v else List.lookup (x, y) l := by
  rw [List.lookup_cons]
  by_cases h : x = i ∧ y = j
  · rw [if_pos h, h.1, h.2, beq_self_eq_true]
  · rw [if_neg h]
    have e : ((x, y) == (i, j)) = false := by
      cases hb : ((x, y) == (i, j)) with
      | false => rfl
      | true =>
        have := eq_of_beq hb
        exact absurd ⟨congrArg Prod.fst this, congrArg Prod.snd this⟩ h
    rw [e]
def alB {α : Type} (n : Nat) (l : AL α) : Prop := ∀ x y, n ≤ x → List.lookup (x, y) l = none
theorem alB.nil {α : Type} (n : Nat) : alB n ([] : AL α) := fun _ _ _ => rfl
theorem alB.up {α : Type} {n k : Nat} {l : AL α} (h : alB n l) (hk : n ≤ k) : alB k l := fun x y hx => h x y (by omega)
theorem alB.cons {α : Type} {n i j : Nat} {v : α} {l : AL α} (h : alB n l) (hi : i < n) : alB n (((i, j), v) :: l) := fun x y hx => by
  rw [al_cons, if_neg (by omega)]
  exact h x y hx
/-- cells 0 .. n - 1 are laid; s slots in all; what isn't in the lists is null and 0 -/
def Lai (m : zMem) (n s : Nat) (R : AL Nat) (I : AL Int32) (L : AL Int64) : Prop :=
  memN m = n ∧ memS m = s ∧ alB n R ∧ alB n I ∧ alB n L ∧
  (∀ x, memK m x = if x < n then shK x else (0, 0)) ∧
  (∀ x j, memR m x j = List.lookup (x, j) R) ∧
  (∀ x j, memI m x j = (List.lookup (x, j) I).getD 0) ∧
  ∀ x j, memL m x j = (List.lookup (x, j) L).getD 0
theorem memK_mk (m : zMem) (t n x : Nat) : memK (mkCell m t n) x = if x = memN m then (t, n) else memK m x := rfl
theorem memN_mk (m : zMem) (t n : Nat) : memN (mkCell m t n) = memN m + 1 := rfl
theorem memS_mk (m : zMem) (t n : Nat) : memS (mkCell m t n) = memS m + n := rfl
theorem memI_mk (m : zMem) (t n x j : Nat) : memI (mkCell m t n) x j = if x = memN m then 0 else memI m x j := rfl
theorem memL_mk (m : zMem) (t n x j : Nat) : memL (mkCell m t n) x j = if x = memN m then 0 else memL m x j := rfl
theorem memR_mk (m : zMem) (t n x j : Nat) : memR (mkCell m t n) x j = if x = memN m then none else memR m x j := rfl
def mem0 : zMem := (fun _ => (0, 0), 0, 0, fun _ _ => 0, fun _ _ => 0, fun _ _ => none)
theorem Lai.zero : Lai mem0 0 0 [] [] [] := ⟨rfl, rfl, alB.nil _, alB.nil _, alB.nil _, fun x => (if_neg (Nat.not_lt_zero x)).symm, fun _ _ => rfl, fun _ _ => rfl, fun _ _ => rfl⟩
section LAI
variable {m : zMem} {n s : Nat} {R : AL Nat} {I : AL Int32} {L : AL Int64}
theorem Lai.k (h : Lai m n s R I L) {i t q : Nat} (hi : i < n) (e : shK i = (t, q)) : memK m i = (t, q) := by rw [h.2.2.2.2.2.1, if_pos hi, e]
theorem Lai.k1 (h : Lai m n s R I L) {i t q : Nat} (hi : i < n) (e : shK i = (t, q)) : (memK m i).1 = t := by rw [h.k hi e]
theorem Lai.cell (h : Lai m n s R I L) {t k n2 s2 : Nat} (hK : shK n = (t, k)) (hn : n2 = n + 1) (hs : s2 = s + k) : Lai (mkCell m t k) n2 s2 R I L := by
  obtain ⟨h1, h2, h3, h4, h5, h6, h7, h8, h9⟩ := h
  subst hn hs
  refine ⟨by rw [memN_mk, h1], by rw [memS_mk, h2], h3.up (by omega), h4.up (by omega), h5.up (by omega), fun x => ?_, fun x j => ?_, fun x j => ?_, fun x j => ?_⟩
  · rw [memK_mk, h1, h6]
    by_cases e : x = n
    · rw [if_pos e, if_pos (by omega), e, hK]
    · rw [if_neg e]
      by_cases c : x < n
      · rw [if_pos c, if_pos (by omega)]
      · rw [if_neg c, if_neg (by omega)]
  · rw [memR_mk, h1, h7]
    by_cases e : x = n
    · rw [if_pos e, h3 _ _ (by omega)]
    · rw [if_neg e]
  · rw [memI_mk, h1, h8]
    by_cases e : x = n
    · rw [if_pos e, h4 _ _ (by omega)]; rfl
    · rw [if_neg e]
  · rw [memL_mk, h1, h9]
    by_cases e : x = n
    · rw [if_pos e, h5 _ _ (by omega)]; rfl
    · rw [if_neg e]
theorem Lai.sR (h : Lai m n s R I L) {i j v : Nat} (hi : i < n) : Lai (setR m i j (some v)) n s (((i, j), v) :: R) I L := by
  obtain ⟨h1, h2, h3, h4, h5, h6, h7, h8, h9⟩ := h
  refine ⟨h1, h2, h3.cons hi, h4, h5, h6, fun x y => ?_, h8, h9⟩
  show (if x = i ∧ y = j then some v else memR m x y) = _
  rw [h7, al_cons]
theorem Lai.sI (h : Lai m n s R I L) {i j : Nat} {v : Int32} (hi : i < n) : Lai (setI m i j v) n s R (((i, j), v) :: I) L := by
  obtain ⟨h1, h2, h3, h4, h5, h6, h7, h8, h9⟩ := h
  refine ⟨h1, h2, h3, h4.cons hi, h5, h6, h7, fun x y => ?_, h9⟩
  show (if x = i ∧ y = j then v else memI m x y) = _
  rw [h8, al_cons]
  by_cases e : x = i ∧ y = j
  · rw [if_pos e, if_pos e]; rfl
  · rw [if_neg e, if_neg e]
theorem Lai.sL (h : Lai m n s R I L) {i j : Nat} {v : Int64} (hi : i < n) : Lai (setL m i j v) n s R I (((i, j), v) :: L) := by
  obtain ⟨h1, h2, h3, h4, h5, h6, h7, h8, h9⟩ := h
  refine ⟨h1, h2, h3, h4, h5.cons hi, h6, h7, h8, fun x y => ?_⟩
  show (if x = i ∧ y = j then v else memL m x y) = _
  rw [h9, al_cons]
  by_cases e : x = i ∧ y = j
  · rw [if_pos e, if_pos e]; rfl
  · rw [if_neg e, if_neg e]
/-- the rows of a grid whose outer cell is a -/
def gdR (a : Nat) : Nat → AL Nat → AL Nat
  | 0, l => l
  | p + 1, l => ((a, p), a + 1 + p) :: gdR a p l
theorem gdR_at (a : Nat) (l : AL Nat) (x j : Nat) : ∀ p, List.lookup (x, j) (gdR a p l) = if x = a ∧ j < p then some (a + 1 + j) else List.lookup (x, j) l := by
  intro p
  induction p with
  | zero => rw [if_neg (by omega)]; rfl
  | succ p ih =>
    show List.lookup (x, j) (((a, p), a + 1 + p) :: gdR a p l) = _
    rw [al_cons, ih]
    by_cases e : x = a ∧ j = p
    · rw [if_pos e, if_pos (by omega), e.2]
    · rw [if_neg e]
      by_cases c : x = a ∧ j < p
      · rw [if_pos c, if_pos (by omega)]
      · rw [if_neg c, if_neg (by omega)]
theorem Lai.rows (h : Lai m n s R I L) {k : Nat} : ∀ p, (∀ i, i < p → shK (n + i) = (1, k)) → Lai (mkRows m k p) (n + p) (s + p * k) R I L := by
  intro p
  induction p with
  | zero => intro _; rw [Nat.zero_mul]; exact h
  | succ p ih =>
    intro hp
    exact (ih (fun i hi => hp i (by omega))).cell (hp p (by omega)) rfl (by rw [Nat.succ_mul]; omega)
theorem Lai.grid (h : Lai m n s R I L) {p k n2 s2 : Nat} (h0 : shK n = (7, p)) (hp : ∀ i, i < p → shK (n + 1 + i) = (1, k)) (hn : n2 = n + 1 + p) (hs : s2 = s + p + p * k) : Lai (mkGrid m p k) n2 s2 (gdR n p R) I L := by
  subst hn hs
  have g := (h.cell h0 rfl rfl).rows p hp
  obtain ⟨h1, h2, h3, h4, h5, h6, h7, h8, h9⟩ := g
  refine ⟨h1, h2, fun x y hx => ?_, h4, h5, h6, fun x j => ?_, h8, h9⟩
  · rw [gdR_at, if_neg (by omega)]; exact h3 x y hx
  · show (if x = memN m then (if j < p then some (memN m + 1 + j) else none) else memR (mkRows (mkCell m 7 p) k p) x j) = _
    rw [h.1, gdR_at, h7]
    by_cases e : x = n
    · rw [if_pos e]
      by_cases c : j < p
      · rw [if_pos c, if_pos ⟨e, c⟩]
      · rw [if_neg c, if_neg (by omega), h.2.2.1 _ _ (by omega)]
    · rw [if_neg e, if_neg (by omega)]
end LAI
