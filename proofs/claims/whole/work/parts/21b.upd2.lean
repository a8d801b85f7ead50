/-! THE PURE PART. One number of the land is changed on both sides -/
theorem LPair.put1 {m m2 : zMem} {f : Nat → Nat} {j v : Nat} (hL : LPair m 3 0 f) (hj : 2 ≤ j) (hj2 : j < 98) (hcls : ∀ x, 3 ≤ x → x < 30 → x ≠ 21 → ∀ k, memI m2 x k = memI (setI m (locC 3 j) (locK j) (nI v)) x k) (hmod : ∀ i, i < 370 → memI m2 185 i = memI (setI m 185 j (nI v)) 185 i) (hl : memL m2 = memL m) (hI : LInv (fupd f j v)) : LPair m2 3 0 (fupd f j v) := by
  have h0 := hL.2.1.n0
  have h1 := hL.2.1.n1
  have hc : locC 3 j < 21 := by
    unfold locC
    repeat' split
    all_goals omega
  refine hL.upd ?_ hI ?_ (fupd_ne (by omega)) (fupd_ne (by omega)) hl (fun x a1 a2 k => ?_) (fun i a1 a2 => ?_)
  · rw [LandR_ag (m := setI m (locC 3 j) (locK j) (nI v)) (by rw [fupd_ne (by omega)]; exact h1) (fun x a1 a2 k => hcls x a1 (by omega) (by omega) k)]
    exact hL.1.put h0 h1 hj hj2 v
  · intro i hi
    rw [hmod i (by omega)]
    exact hL.c0.put j v i hi
  · rw [hcls x (by omega) a2 (by omega), memI_a _ _ _ _ _ (by omega)]
  · rw [hmod i a2, memI_j _ _ _ _ _ (by omega)]
section P1
variable {m m2 : zMem} {f : Nat → Nat} {v : Nat}
theorem LPair.putD (hL : LPair m 3 0 f) {i d : Nat} (hi : i < 3) (hd : d < 7) (hcls : ∀ x, 3 ≤ x → x < 30 → x ≠ 21 → ∀ k, memI m2 x k = memI (setI m (4 + i) d (nI v)) x k) (hmod : ∀ k, k < 370 → memI m2 185 k = memI (setI m 185 (5 + 7 * i + d) (nI v)) 185 k) (hl : memL m2 = memL m) (hI : LInv (fupd f (5 + 7 * i + d) v)) : LPair m2 3 0 (fupd f (5 + 7 * i + d) v) := by
  refine hL.put1 (by omega) (by omega) (fun x a1 a2 a3 k => ?_) hmod hl hI
  rw [(loc_d hi hd).1, (loc_d (a := 3) hi hd).2]
  exact hcls x a1 a2 a3 k
theorem LPair.putP (hL : LPair m 3 0 f) {i p : Nat} (hi : i < 5) (hp : p < 6) (hcls : ∀ x, 3 ≤ x → x < 30 → x ≠ 21 → ∀ k, memI m2 x k = memI (setI m (8 + i) p (nI v)) x k) (hmod : ∀ k, k < 370 → memI m2 185 k = memI (setI m 185 (26 + 6 * i + p) (nI v)) 185 k) (hl : memL m2 = memL m) (hI : LInv (fupd f (26 + 6 * i + p) v)) : LPair m2 3 0 (fupd f (26 + 6 * i + p) v) := by
  refine hL.put1 (by omega) (by omega) (fun x a1 a2 a3 k => ?_) hmod hl hI
  rw [(loc_p hi hp).1, (loc_p (a := 3) hi hp).2]
  exact hcls x a1 a2 a3 k
theorem LPair.putN (hL : LPair m 3 0 f) {p d : Nat} (hp : p < 6) (hd : d < 7) (hcls : ∀ x, 3 ≤ x → x < 30 → x ≠ 21 → ∀ k, memI m2 x k = memI (setI m (15 + p) d (nI v)) x k) (hmod : ∀ k, k < 370 → memI m2 185 k = memI (setI m 185 (56 + 7 * p + d) (nI v)) 185 k) (hl : memL m2 = memL m) (hI : LInv (fupd f (56 + 7 * p + d) v)) : LPair m2 3 0 (fupd f (56 + 7 * p + d) v) := by
  refine hL.put1 (by omega) (by omega) (fun x a1 a2 a3 k => ?_) hmod hl hI
  rw [(loc_n hd).1, (loc_n (a := 3) (p := p) hd).2]
  exact hcls x a1 a2 a3 k
theorem LPair.putO (hL : LPair m 3 0 f) {j : Nat} (hj : 2 ≤ j) (hj5 : j < 5) (hcls : ∀ x, 3 ≤ x → x < 30 → x ≠ 21 → ∀ k, memI m2 x k = memI (setI m 3 (11 + j) (nI v)) x k) (hmod : ∀ k, k < 370 → memI m2 185 k = memI (setI m 185 j (nI v)) 185 k) (hl : memL m2 = memL m) (hI : LInv (fupd f j v)) : LPair m2 3 0 (fupd f j v) := by
  refine hL.put1 (by omega) (by omega) (fun x a1 a2 a3 k => ?_) hmod hl hI
  rw [show locC 3 j = 3 from if_pos hj5, show locK j = 11 + j by unfold locK; rw [if_neg (by omega), if_pos hj5]]
  exact hcls x a1 a2 a3 k
end P1
theorem memI_full (m : zMem) (a k : Nat) (v : Int32) (b j : Nat) : memI (setI m a k v) b j = if b = a ∧ j = k then v else memI m b j := rfl
theorem nat_eqF {x y : Nat} (h : x ≠ y) : (x = y) = False := eq_false h
