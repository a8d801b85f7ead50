/-! THE PURE PART. Tools: longs, numbers that are no index -/
theorem llit_0 : (0 : Int64) = lN 0 := rfl
theorem llit_1 : (1 : Int64) = lN 1 := rfl
theorem llit_2 : (2 : Int64) = lN 2 := rfl
theorem llit_3 : (3 : Int64) = lN 3 := rfl
theorem llit_4 : (4 : Int64) = lN 4 := rfl
theorem llit_5 : (5 : Int64) = lN 5 := rfl
theorem llit_6 : (6 : Int64) = lN 6 := rfl
theorem llit_7 : (7 : Int64) = lN 7 := rfl
theorem llit_8 : (8 : Int64) = lN 8 := rfl
theorem llit_9 : (9 : Int64) = lN 9 := rfl
theorem llit_10 : (10 : Int64) = lN 10 := rfl
theorem llit_16 : (16 : Int64) = lN 16 := rfl
theorem llit_20 : (20 : Int64) = lN 20 := rfl
theorem llit_27 : (27 : Int64) = lN 27 := rfl
theorem llit_32 : (32 : Int64) = lN 32 := rfl
theorem llit_40 : (40 : Int64) = lN 40 := rfl
theorem llit_50 : (50 : Int64) = lN 50 := rfl
theorem llit_60 : (60 : Int64) = lN 60 := rfl
theorem llit_96 : (96 : Int64) = lN 96 := rfl
theorem llit_97 : (97 : Int64) = lN 97 := rfl
theorem llit_99 : (99 : Int64) = lN 99 := rfl
theorem llit_127 : (127 : Int64) = lN 127 := rfl
theorem llit_255 : (255 : Int64) = lN 255 := rfl
theorem llit_999 : (999 : Int64) = lN 999 := rfl
theorem llit_9999 : (9999 : Int64) = lN 9999 := rfl
theorem lN_leT {a b : Nat} (h : a ≤ b) (hb : b < 2 ^ 63) : (lN a ≤ lN b) = True := eq_true ((pk_lLE (by omega) hb).mpr h)
theorem lN_leF {a b : Nat} (h : b < a) (ha : a < 2 ^ 63) : (lN a ≤ lN b) = False := eq_false (fun q => by have := (pk_lLE ha (by omega)).mp q; omega)
theorem lN_ltT {a b : Nat} (h : a < b) (hb : b < 2 ^ 63) : (lN a < lN b) = True := eq_true ((pk_lLT (by omega) hb).mpr h)
theorem lN_ltF {a b : Nat} (h : b ≤ a) (ha : a < 2 ^ 63) : (lN a < lN b) = False := eq_false (fun q => by have := (pk_lLT ha (by omega)).mp q; omega)
theorem lN_eqT {a b : Nat} (h : a = b) : (lN a = lN b) = True := by rw [h]; exact eq_self _
theorem lN_eqF {a b : Nat} (h : a ≠ b) (ha : a < 2 ^ 63) (hb : b < 2 ^ 63) : (lN a = lN b) = False := eq_false (fun q => h ((pk_lEQ ha hb).mp q))
theorem lc_le (x : Int32) {k : Nat} (hk : k < 2 ^ 31) : (x.toInt64 ≤ lN k) = (x ≤ nI k) := by rw [← nI_l hk]; exact i64_le x (nI k)
theorem lc_ge (x : Int32) {k : Nat} (hk : k < 2 ^ 31) : (lN k ≤ x.toInt64) = (nI k ≤ x) := by rw [← nI_l hk]; exact i64_le (nI k) x
theorem i64_lt (x y : Int32) : (x.toInt64 < y.toInt64) = (x < y) := by
  rw [Int64.lt_iff_toInt_lt, Int32.toInt_toInt64, Int32.toInt_toInt64, Int32.lt_iff_toInt_lt]
theorem lc_lt (x : Int32) {k : Nat} (hk : k < 2 ^ 31) : (x.toInt64 < lN k) = (x < nI k) := by rw [← nI_l hk]; exact i64_lt x (nI k)
theorem lc_gt (x : Int32) {k : Nat} (hk : k < 2 ^ 31) : (lN k < x.toInt64) = (nI k < x) := by rw [← nI_l hk]; exact i64_lt (nI k) x
/-- below 0 -/
def Lo (x : Int32) : Prop := (∀ k, k < 2 ^ 31 → (x < nI k) = True) ∧ (∀ k, k < 2 ^ 31 → (nI k ≤ x) = False) ∧ (∀ k, k < 2 ^ 31 → (x ≤ nI k) = True) ∧ (∀ k, k < 2 ^ 31 → (nI k < x) = False) ∧ (∀ k, k < 2 ^ 31 → (x = nI k) = False)
/-- n or more -/
def Hi (x : Int32) (n : Nat) : Prop := (∀ k, k ≤ n → (x < nI k) = False) ∧ (∀ k, k ≤ n → (nI k ≤ x) = True) ∧ (∀ k, k < n → (x ≤ nI k) = False) ∧ (∀ k, k < n → (nI k < x) = True) ∧ (∀ k, k < n → (x = nI k) = False)
theorem Lo.of {x : Int32} (h : x < 0) : Lo x := by
  rw [Int32.lt_iff_toInt_lt] at h
  have h0 : x.toInt < 0 := h
  refine ⟨fun k hk => eq_true ?_, fun k hk => eq_false ?_, fun k hk => eq_true ?_, fun k hk => eq_false ?_, fun k hk => eq_false ?_⟩
  · rw [Int32.lt_iff_toInt_lt, nI_toInt hk]; omega
  · rw [Int32.le_iff_toInt_le, nI_toInt hk]; omega
  · rw [Int32.le_iff_toInt_le, nI_toInt hk]; omega
  · rw [Int32.lt_iff_toInt_lt, nI_toInt hk]; omega
  · intro e; rw [e, nI_toInt hk] at h0; omega
theorem Hi.of {x : Int32} {n : Nat} (hn : n < 2 ^ 31) (h : nI n ≤ x) : Hi x n := by
  rw [Int32.le_iff_toInt_le, nI_toInt hn] at h
  refine ⟨fun k hk => eq_false ?_, fun k hk => eq_true ?_, fun k hk => eq_false ?_, fun k hk => eq_true ?_, fun k hk => eq_false ?_⟩
  · rw [Int32.lt_iff_toInt_lt, nI_toInt (by omega)]; omega
  · rw [Int32.le_iff_toInt_le, nI_toInt (by omega)]; omega
  · rw [Int32.le_iff_toInt_le, nI_toInt (by omega)]; omega
  · rw [Int32.lt_iff_toInt_lt, nI_toInt (by omega)]; omega
  · intro e; rw [e, nI_toInt (by omega)] at h; omega
theorem ix3 (x : Int32) (n : Nat) (hn : n < 2 ^ 31) : (Lo x ∧ x.toInt < 0) ∨ (Hi x n ∧ (n : Int) ≤ x.toInt) ∨ ∃ j : Nat, j < n ∧ x = nI j := by
  rcases pk_ix x hn with h | h | h
  · refine Or.inl ⟨Lo.of h, ?_⟩
    rw [Int32.lt_iff_toInt_lt] at h
    exact h
  · refine Or.inr (Or.inl ⟨Hi.of hn h, ?_⟩)
    rw [Int32.le_iff_toInt_le, nI_toInt hn] at h
    exact h
  · exact Or.inr (Or.inr h)
theorem Lo.not_in {x : Int32} (h : Lo x) (n : Nat) : ¬ inR x n = true := fun q => by
  have h1 := (of_decide_eq_true q).1
  rw [h.1 0 (by decide)] at h1
  exact h1 trivial
theorem Hi.not_in {x : Int32} {n : Nat} (h : Hi x n) {k : Nat} (hk : k ≤ n) : ¬ inR x k = true := fun q => by
  have h1 := (of_decide_eq_true q).2
  rw [h.1 k hk] at h1
  exact h1
