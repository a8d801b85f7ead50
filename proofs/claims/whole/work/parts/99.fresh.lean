/-! THE PURE PART. The relation holds of the fresh memory -/
theorem al_key {α : Type} (k : Nat × Nat) : ∀ l : AL α, List.lookup k l = none ∨ ∃ v, List.lookup k l = some v ∧ (k, v) ∈ l := by
  intro l
  induction l with
  | nil => exact Or.inl rfl
  | cons e l ih =>
    obtain ⟨⟨i, j⟩, v⟩ := e
    obtain ⟨x, y⟩ := k
    rw [al_cons]
    by_cases c : x = i ∧ y = j
    · obtain ⟨rfl, rfl⟩ := c
      rw [if_pos ⟨rfl, rfl⟩]
      exact Or.inr ⟨v, rfl, List.mem_cons_self⟩
    · rw [if_neg c]
      rcases ih with h | ⟨w, h1, h2⟩
      · exact Or.inl h
      · exact Or.inr ⟨w, h1, List.mem_cons_of_mem _ h2⟩
theorem al_same {α : Type} [DecidableEq α] (A B : AL α) (hA : A.all (fun e => decide (List.lookup e.1 A = List.lookup e.1 B)) = true) (hB : B.all (fun e => decide (List.lookup e.1 A = List.lookup e.1 B)) = true) (k : Nat × Nat) : List.lookup k A = List.lookup k B := by
  rcases al_key k A with a | ⟨v, -, a⟩
  · rcases al_key k B with b | ⟨w, -, b⟩
    · rw [a, b]
    · exact of_decide_eq_true (List.all_eq_true.mp hB _ b)
  · exact of_decide_eq_true (List.all_eq_true.mp hA _ a)
def frR : AL Nat := rl194 rl0
def frI : AL Int32 := il194 il0
def frL : AL Int64 := ll194 ll0
theorem frR_a : frR.all (fun e => decide (List.lookup e.1 frR = List.lookup e.1 (((59, 1), 61) :: ((63, 1), 65) :: shRl))) = true := by decide +kernel
theorem frR_b : (((59, 1), 61) :: ((63, 1), 65) :: shRl).all (fun e => decide (List.lookup e.1 frR = List.lookup e.1 (((59, 1), 61) :: ((63, 1), 65) :: shRl))) = true := by decide +kernel
theorem shK_end (x : Nat) (h : 193 ≤ x) : shK x = (0, 0) := by
  unfold shK
  rw [List.getD_eq_getElem?_getD, List.getElem?_eq_none (by rw [show shKl.length = 193 by decide +kernel]; exact h)]
  rfl
def f00 (j : Nat) : Nat := if j = 2 then 8 else 0
section FRESH
variable {m : zMem} {s : Nat}
theorem fr_i (h : Lai m 193 s frR frI frL) {x j : Nat} {v : Int32} (e : (List.lookup (x, j) frI).getD 0 = v) : memI m x j = v := (h.2.2.2.2.2.2.2.1 x j).trans e
theorem fr_l (h : Lai m 193 s frR frI frL) {x j : Nat} {v : Int64} (e : (List.lookup (x, j) frL).getD 0 = v) : memL m x j = v := (h.2.2.2.2.2.2.2.2 x j).trans e
theorem fr_shp (h : Lai m 193 s frR frI frL) : Shp m := by
  refine ⟨funext fun x => ?_, fun a j hc => ?_⟩
  · rw [h.2.2.2.2.2.1 x]
    by_cases c : x < 193
    · rw [if_pos c]
    · rw [if_neg c, shK_end x (by omega)]
  · rw [h.2.2.2.2.2.2.1 a j, al_same _ _ frR_a frR_b (a, j), al_cons, if_neg (by omega), al_cons, if_neg (by omega)]
    rfl
theorem fr_b : ∀ j, j < 98 → (List.lookup (185, 370 * 0 + j) frI).getD 0 = nI (f00 j) := by decide +kernel
theorem fr_t1 : ∀ t, t < 4 → (List.lookup (91 + 2 * t, 1) frI).getD 0 = nI 1 := by decide +kernel
theorem fr_t2 : ∀ t, t < 4 → (List.lookup (182, t) frI).getD 0 = mI1 := by decide +kernel
theorem fr_v : ∀ j, j < 5 → (List.lookup (90, j) frI).getD 0 = (List.lookup (192, j) frI).getD 0 := by decide +kernel
theorem fr_w1 : ∀ w, w < 21 → (List.lookup (60, w) frL).getD 0 = lN (zCodes.getD w 0) := by decide +kernel
theorem fr_w2 : ∀ w, w < 21 → (List.lookup (64, w) frL).getD 0 = lN (zCodes.getD w 0) := by decide +kernel
theorem f00_inv : LInv f00 := ⟨by decide, by decide, by decide, by decide, by decide, fun d hd => absurd hd (Nat.not_lt_zero d), fun p hp => absurd hp (Nat.not_lt_zero p), fun p hp => absurd hp (Nat.not_lt_zero p)⟩
theorem fr_land (h : Lai m 193 s frR frI frL) : LPair m 3 0 f00 := by
  refine ⟨⟨fr_i h (by decide +kernel), fr_i h (by decide +kernel), fr_i h (by decide +kernel), fr_i h (by decide +kernel), fr_i h (by decide +kernel), fun d hd => absurd hd (Nat.not_lt_zero d), fun d hd => absurd hd (Nat.not_lt_zero d), fun d hd => absurd hd (Nat.not_lt_zero d), fun d hd => absurd hd (Nat.not_lt_zero d), fun d hd => absurd hd (Nat.not_lt_zero d), fun d hd => absurd hd (Nat.not_lt_zero d), fun d hd => absurd hd (Nat.not_lt_zero d), fun d hd => absurd hd (Nat.not_lt_zero d), fun d hd => absurd hd (Nat.not_lt_zero d)⟩, f00_inv, fun j hj => fr_i h (fr_b j hj), ⟨fun d hd => absurd hd (Nat.not_lt_zero d), fun d hd => absurd hd (Nat.not_lt_zero d)⟩, Or.inl ⟨fr_i h (by decide +kernel), fr_i h (by decide +kernel), fr_i h (by decide +kernel)⟩⟩
theorem fr_sim (h : Lai m 193 s frR frI frL) : Sim m := by
  refine ⟨fr_shp h, ⟨_, fr_land h⟩, ⟨0, by omega, fr_i h (by decide +kernel), fr_i h (by decide +kernel), fun i hi => absurd hi (Nat.not_lt_zero i)⟩, fun t ht => Or.inl ⟨fr_i h (fr_t1 t ht), fr_i h (fr_t2 t ht)⟩, ⟨0, by omega, fr_i h (by decide +kernel), fr_i h (by decide +kernel), fun i hi => absurd hi (Nat.not_lt_zero i)⟩, ?_, ⟨?_, ?_⟩, ⟨?_, ?_⟩, ⟨?_, Or.inl (fr_i h (by decide +kernel)), fun j hj => ?_⟩, fun w hw => fr_l h (fr_w1 w hw), fun w hw => fr_l h (fr_w2 w hw)⟩
  · exact (fr_i h (v := 0) (by decide +kernel)).trans (fr_i h (v := 0) (by decide +kernel)).symm
  · exact (fr_l h (v := 0) (by decide +kernel)).trans (fr_l h (v := 0) (by decide +kernel)).symm
  · exact (fr_l h (v := 1) (by decide +kernel)).trans (fr_l h (v := 1) (by decide +kernel)).symm
  · exact (fr_i h (v := -1) (by decide +kernel)).trans (fr_i h (v := -1) (by decide +kernel)).symm
  · exact (fr_i h (v := -1) (by decide +kernel)).trans (fr_i h (v := -1) (by decide +kernel)).symm
  · exact (fr_i h (v := 0) (by decide +kernel)).trans (fr_i h (v := 0) (by decide +kernel)).symm
  · rw [h.2.2.2.2.2.2.2.1, h.2.2.2.2.2.2.2.1]; exact fr_v j hj
end FRESH
/-- the two constructors, one after the other, from nothing -/
theorem fresh_all : ∃ m1 m2 : zMem, call 40 0 [.ref 0] (mkCell mem0 111 19) = some (none, m1) ∧ memN m1 = 180 ∧ memS m1 = 6078 ∧ (∀ x, 180 ≤ x → (memK m1 x).1 = 0) ∧ call 40 194 [.ref 180] (mkCell m1 112 44) = some (none, m2) ∧ memN m2 = 193 ∧ memS m2 = 9851 ∧ Sim m2 := by
  have h0 : Lai (mkCell mem0 111 19) 1 19 [] [] [] := Lai.zero.cell (by decide +kernel) (by omega) (by omega)
  obtain ⟨m1, e1, h1⟩ := zc0 33 h0
  have h2 : Lai (mkCell m1 112 44) 181 6122 rl0 il0 ll0 := h1.cell (by decide +kernel) (by omega) (by omega)
  obtain ⟨m2, e2, h3⟩ := zc194 38 h2
  refine ⟨m1, m2, e1, h1.1, h1.2.1, fun x hx => ?_, e2, h3.1, h3.2.1, fr_sim h3⟩
  rw [h1.2.2.2.2.2.1 x, if_neg (by omega)]
