/-! THE PURE PART. Memory, numbers, loops -/
theorem memK_setI (m : zMem) (a k : Nat) (v : Int32) : memK (setI m a k v) = memK m := rfl
theorem memN_setI (m : zMem) (a k : Nat) (v : Int32) : memN (setI m a k v) = memN m := rfl
theorem memS_setI (m : zMem) (a k : Nat) (v : Int32) : memS (setI m a k v) = memS m := rfl
theorem memL_setI (m : zMem) (a k : Nat) (v : Int32) : memL (setI m a k v) = memL m := rfl
theorem memR_setI (m : zMem) (a k : Nat) (v : Int32) : memR (setI m a k v) = memR m := rfl
theorem memK_setL (m : zMem) (a k : Nat) (v : Int64) : memK (setL m a k v) = memK m := rfl
theorem memN_setL (m : zMem) (a k : Nat) (v : Int64) : memN (setL m a k v) = memN m := rfl
theorem memS_setL (m : zMem) (a k : Nat) (v : Int64) : memS (setL m a k v) = memS m := rfl
theorem memI_setL (m : zMem) (a k : Nat) (v : Int64) : memI (setL m a k v) = memI m := rfl
theorem memR_setL (m : zMem) (a k : Nat) (v : Int64) : memR (setL m a k v) = memR m := rfl
theorem memK_setR (m : zMem) (a k : Nat) (v : Option Nat) : memK (setR m a k v) = memK m := rfl
theorem memN_setR (m : zMem) (a k : Nat) (v : Option Nat) : memN (setR m a k v) = memN m := rfl
theorem memS_setR (m : zMem) (a k : Nat) (v : Option Nat) : memS (setR m a k v) = memS m := rfl
theorem memI_setR (m : zMem) (a k : Nat) (v : Option Nat) : memI (setR m a k v) = memI m := rfl
theorem memL_setR (m : zMem) (a k : Nat) (v : Option Nat) : memL (setR m a k v) = memL m := rfl
theorem memK_rowI (m : zMem) (a : Nat) (g : Nat → Int32) : memK (rowI m a g) = memK m := rfl
theorem memN_rowI (m : zMem) (a : Nat) (g : Nat → Int32) : memN (rowI m a g) = memN m := rfl
theorem memS_rowI (m : zMem) (a : Nat) (g : Nat → Int32) : memS (rowI m a g) = memS m := rfl
theorem memL_rowI (m : zMem) (a : Nat) (g : Nat → Int32) : memL (rowI m a g) = memL m := rfl
theorem memR_rowI (m : zMem) (a : Nat) (g : Nat → Int32) : memR (rowI m a g) = memR m := rfl
theorem memK_rowL (m : zMem) (a : Nat) (g : Nat → Int64) : memK (rowL m a g) = memK m := rfl
theorem memN_rowL (m : zMem) (a : Nat) (g : Nat → Int64) : memN (rowL m a g) = memN m := rfl
theorem memS_rowL (m : zMem) (a : Nat) (g : Nat → Int64) : memS (rowL m a g) = memS m := rfl
theorem memI_rowL (m : zMem) (a : Nat) (g : Nat → Int64) : memI (rowL m a g) = memI m := rfl
theorem memR_rowL (m : zMem) (a : Nat) (g : Nat → Int64) : memR (rowL m a g) = memR m := rfl
theorem memI_s (m : zMem) (a k : Nat) (v : Int32) : memI (setI m a k v) a k = v := if_pos ⟨rfl, rfl⟩
theorem memI_a (m : zMem) (a k : Nat) (v : Int32) {b : Nat} (j : Nat) (h : b ≠ a) : memI (setI m a k v) b j = memI m b j := if_neg (fun q => h q.1)
theorem memI_j (m : zMem) (a k : Nat) (v : Int32) (b : Nat) {j : Nat} (h : j ≠ k) : memI (setI m a k v) b j = memI m b j := if_neg (fun q => h q.2)
theorem memI_if (m : zMem) (a k : Nat) (v : Int32) (j : Nat) : memI (setI m a k v) a j = if j = k then v else memI m a j := by
  by_cases h : j = k
  · rw [if_pos h, h]; exact if_pos ⟨rfl, rfl⟩
  · rw [if_neg h]; exact if_neg (fun q => h q.2)
theorem memL_s (m : zMem) (a k : Nat) (v : Int64) : memL (setL m a k v) a k = v := if_pos ⟨rfl, rfl⟩
theorem memL_a (m : zMem) (a k : Nat) (v : Int64) {b : Nat} (j : Nat) (h : b ≠ a) : memL (setL m a k v) b j = memL m b j := if_neg (fun q => h q.1)
theorem memL_j (m : zMem) (a k : Nat) (v : Int64) (b : Nat) {j : Nat} (h : j ≠ k) : memL (setL m a k v) b j = memL m b j := if_neg (fun q => h q.2)
theorem memL_if (m : zMem) (a k : Nat) (v : Int64) (j : Nat) : memL (setL m a k v) a j = if j = k then v else memL m a j := by
  by_cases h : j = k
  · rw [if_pos h, h]; exact if_pos ⟨rfl, rfl⟩
  · rw [if_neg h]; exact if_neg (fun q => h q.2)
theorem memR_s (m : zMem) (a k : Nat) (v : Option Nat) : memR (setR m a k v) a k = v := if_pos ⟨rfl, rfl⟩
theorem memR_a (m : zMem) (a k : Nat) (v : Option Nat) {b : Nat} (j : Nat) (h : b ≠ a) : memR (setR m a k v) b j = memR m b j := if_neg (fun q => h q.1)
theorem memR_j (m : zMem) (a k : Nat) (v : Option Nat) (b : Nat) {j : Nat} (h : j ≠ k) : memR (setR m a k v) b j = memR m b j := if_neg (fun q => h q.2)
theorem memR_if (m : zMem) (a k : Nat) (v : Option Nat) (j : Nat) : memR (setR m a k v) a j = if j = k then v else memR m a j := by
  by_cases h : j = k
  · rw [if_pos h, h]; exact if_pos ⟨rfl, rfl⟩
  · rw [if_neg h]; exact if_neg (fun q => h q.2)
theorem memI_rs (m : zMem) (a : Nat) (g : Nat → Int32) (j : Nat) : memI (rowI m a g) a j = g j := if_pos rfl
theorem memI_ra (m : zMem) (a : Nat) (g : Nat → Int32) {b : Nat} (j : Nat) (h : b ≠ a) : memI (rowI m a g) b j = memI m b j := if_neg h
theorem memL_rs (m : zMem) (a : Nat) (g : Nat → Int64) (j : Nat) : memL (rowL m a g) a j = g j := if_pos rfl
theorem memL_ra (m : zMem) (a : Nat) (g : Nat → Int64) {b : Nat} (j : Nat) (h : b ≠ a) : memL (rowL m a g) b j = memL m b j := if_neg h
theorem inB_nI {j n : Nat} (h : j < n) (hn : n < 2 ^ 31) : inB (nI j) n = true := by
  unfold inB
  exact decide_eq_true (nI_in h hn)
theorem va_rf_some (a : Nat) : va_rf (some a) = .ref a := rfl
/-- -1 -/
def mI1 : Int32 := -1
theorem mI1_eq : -(nI 1) = mI1 := rfl
theorem mI1_not_in (n : Nat) : inB mI1 n = false := by
  unfold inB
  exact decide_eq_false (fun h => h (Or.inl (by decide)))
theorem mI1_lt {n : Nat} (h : n < 2 ^ 31) : mI1 < nI n := by
  rw [Int32.lt_iff_toInt_lt, nI_toInt h]
  show (-1 : Int) < _
  omega
theorem mI1_nge {n : Nat} (h : n < 2 ^ 31) : ¬ nI n ≤ mI1 := by
  rw [Int32.le_iff_toInt_le, nI_toInt h]
  show ¬ _ ≤ (-1 : Int)
  omega
theorem mI1_nlt {n : Nat} (h : n < 2 ^ 31) : ¬ nI n < mI1 := by
  rw [Int32.lt_iff_toInt_lt, nI_toInt h]
  show ¬ _ < (-1 : Int)
  omega
theorem mI1_le {n : Nat} (h : n < 2 ^ 31) : mI1 ≤ nI n := by
  rw [Int32.le_iff_toInt_le, nI_toInt h]
  show (-1 : Int) ≤ _
  omega
theorem mI1_ne {n : Nat} (h : n < 2 ^ 31) : ¬ nI n = mI1 := fun e => mI1_nge h (e ▸ Int32.le_refl _)
theorem mI1_ne' {n : Nat} (h : n < 2 ^ 31) : ¬ mI1 = nI n := fun e => mI1_ne h e.symm
theorem nI_eqT {a b : Nat} (h : a = b) : (nI a = nI b) = True := by rw [h]; exact eq_self _
theorem nI_eqF {a b : Nat} (h : a ≠ b) (ha : a < 2 ^ 31) (hb : b < 2 ^ 31) : (nI a = nI b) = False := eq_false (fun q => h ((nI_eq ha hb).mp q))
theorem nI_leT {a b : Nat} (h : a ≤ b) (hb : b < 2 ^ 31) : (nI a ≤ nI b) = True := eq_true (nI_le h hb)
theorem nI_leF {a b : Nat} (h : b < a) (ha : a < 2 ^ 31) : (nI a ≤ nI b) = False := eq_false (nI_ge h ha)
theorem nI_ltT {a b : Nat} (h : a < b) (hb : b < 2 ^ 31) : (nI a < nI b) = True := eq_true (nI_lt h hb)
theorem nI_ltF {a b : Nat} (h : b ≤ a) (ha : a < 2 ^ 31) : (nI a < nI b) = False := eq_false (nI_nlt h ha)
theorem nI_max {a b : Nat} (ha : a < 2 ^ 31) (hb : b < 2 ^ 31) : (if nI a < nI b then nI b else nI a) = nI (max a b) := by
  by_cases h : a < b
  · rw [if_pos (nI_lt h hb), Nat.max_eq_right (by omega)]
  · rw [if_neg (nI_nlt (by omega) ha), Nat.max_eq_left (by omega)]
theorem nI_min {a b : Nat} (ha : a < 2 ^ 31) (hb : b < 2 ^ 31) : (if nI b < nI a then nI b else nI a) = nI (min a b) := by
  by_cases h : b < a
  · rw [if_pos (nI_lt h ha), Nat.min_eq_right (by omega)]
  · rw [if_neg (nI_nlt (by omega) hb), Nat.min_eq_left (by omega)]
/-- max(0, a - b), as Nat has it -/
theorem nI_cut {a b : Nat} (ha : a < 2 ^ 30) (hb : b < 2 ^ 30) : (if nI 0 < nI a - nI b then nI a - nI b else nI 0) = nI (a - b) := by
  have h := pk_sub_toInt ha hb
  by_cases h1 : b < a
  · rw [if_pos (by rw [Int32.lt_iff_toInt_lt, h, nI_toInt (by omega)]; omega), pk_sub (by omega)]
  · rw [if_neg (by rw [Int32.lt_iff_toInt_lt, h, nI_toInt (by omega)]; omega), show a - b = 0 by omega]
theorem nI_any (x : Int32) : ∃ n : Nat, x = nI n := ⟨x.toBitVec.toNat, Int32.toBitVec_inj.mp (by show x.toBitVec = BitVec.ofNat 32 x.toBitVec.toNat; simp)⟩
/-- one state after another -/
theorem chain {α β : Type} (R : α → β) (s : Nat → α) (lo hi : Nat) (hle : lo ≤ hi) (h : ∀ i, lo ≤ i → i < hi → R (s i) = R (s (i + 1))) : R (s lo) = R (s hi) := by
  induction hle with
  | refl => rfl
  | step h1 ih =>
    rename_i k
    rw [ih (fun i h2 h3 => h i h2 (Nat.lt_succ_of_lt h3))]
    exact h k h1 (Nat.lt_succ_self k)
def sumN (f : Nat → Nat) : Nat → Nat
  | 0 => 0
  | n + 1 => sumN f n + f n
theorem sumN_le {f : Nat → Nat} {B : Nat} : ∀ {n : Nat}, (∀ i, i < n → f i ≤ B) → sumN f n ≤ B * n
  | 0, _ => Nat.le_refl _
  | n + 1, h => by
    have h1 := sumN_le (n := n) (fun i hi => h i (by omega))
    have h2 := h n (by omega)
    show sumN f n + f n ≤ B * (n + 1)
    rw [Nat.mul_succ]
    omega
theorem sumN_congr {f g : Nat → Nat} : ∀ {n : Nat}, (∀ i, i < n → f i = g i) → sumN f n = sumN g n
  | 0, _ => rfl
  | n + 1, h => by
    show sumN f n + f n = sumN g n + g n
    rw [sumN_congr (n := n) (fun i hi => h i (by omega)), h n (by omega)]
/-- a set of the first n, by what is in it -/
def setN (b : Nat → Bool) : Nat → Nat := sumN (fun d => if b d = true then 2 ^ d else 0)
theorem setN_lt (b : Nat → Bool) : ∀ n, setN b n < 2 ^ n
  | 0 => Nat.zero_lt_one
  | n + 1 => by
    have h := setN_lt b n
    show setN b n + (if b n = true then 2 ^ n else 0) < 2 ^ (n + 1)
    rw [Nat.pow_succ]
    split <;> omega
theorem setN_succ (b : Nat → Bool) (n : Nat) : setN b (n + 1) = setN b n + (if b n = true then 2 ^ n else 0) := rfl
theorem setN_congr {b c : Nat → Bool} {n : Nat} (h : ∀ i, i < n → b i = c i) : setN b n = setN c n := sumN_congr (fun i hi => by rw [h i hi])
theorem testBit_add_pow {x n i : Nat} (h : x < 2 ^ n) : (x + 2 ^ n).testBit i = (x.testBit i || decide (i = n)) := by
  rw [Nat.add_comm]
  by_cases e : i = n
  · subst e
    rw [Nat.testBit_two_pow_add_eq, Nat.testBit_lt_two_pow h]
    simp
  · rcases Nat.lt_or_ge i n with h1 | h1
    · rw [Nat.testBit_two_pow_add_gt h1]
      simp [e]
    · have h2 : n < i := by omega
      have h3 : 2 ^ n + x < 2 ^ i := by
        have : 2 ^ (n + 1) ≤ 2 ^ i := Nat.pow_le_pow_right (by decide) h2
        rw [Nat.pow_succ] at this
        omega
      rw [Nat.testBit_lt_two_pow h3, Nat.testBit_lt_two_pow (Nat.lt_of_le_of_lt (Nat.le_add_left _ _) h3)]
      simp [e]
theorem setN_bit (b : Nat → Bool) : ∀ n i, (setN b n).testBit i = (decide (i < n) && b i)
  | 0, i => by simp [setN, sumN]
  | n + 1, i => by
    rw [setN_succ]
    by_cases h : b n = true
    · rw [if_pos h, testBit_add_pow (setN_lt b n), setN_bit b n i]
      by_cases e : i = n
      · subst e; simp [h]
      · have : decide (i < n + 1) = decide (i < n) := by simp; omega
        rw [this]; simp [e]
    · rw [if_neg h, Nat.add_zero, setN_bit b n i]
      by_cases e : i = n
      · subst e; simp [h]
      · have : decide (i < n + 1) = decide (i < n) := by simp; omega
        rw [this]
set_option maxRecDepth 100000 in
theorem orI_all : (List.range 8).all (fun d => (List.range 128).all (fun x => decide (2 ^ d ≤ x) || decide (nI x ||| (nI 1 <<< (nI d &&& 31)) = nI (x + 2 ^ d)))) = true := by decide +kernel
theorem orI {x d : Nat} (hd : d < 8) (h : x < 2 ^ d) : nI x ||| (nI 1 <<< (nI d &&& 31)) = nI (x + 2 ^ d) := by
  have hx : x < 128 := Nat.lt_of_lt_of_le h (Nat.le_trans (Nat.pow_le_pow_right (by decide) (show d ≤ 7 by omega)) (by decide))
  have h1 := List.all_eq_true.mp (List.all_eq_true.mp orI_all d (List.mem_range.mpr hd)) x (List.mem_range.mpr hx)
  simp only [Bool.or_eq_true, decide_eq_true_eq] at h1
  exact h1.resolve_left (by omega)
set_option maxRecDepth 100000 in
theorem hasI_all : (List.range 8).all (fun d => (List.range 256).all (fun x => decide ((nI x >>> (nI d &&& 31)) &&& 1 = if x.testBit d = true then nI 1 else nI 0))) = true := by decide +kernel
theorem hasI {x d : Nat} (hd : d < 8) (hx : x < 256) : (nI x >>> (nI d &&& 31)) &&& nI 1 = if x.testBit d = true then nI 1 else nI 0 := by
  have h1 := List.all_eq_true.mp (List.all_eq_true.mp hasI_all d (List.mem_range.mpr hd)) x (List.mem_range.mpr hx)
  exact of_decide_eq_true h1
theorem shlI_all : (List.range 8).all (fun d => decide (nI 1 <<< (nI d &&& 31) = nI (2 ^ d))) = true := by decide +kernel
theorem shlI {d : Nat} (hd : d < 8) : nI 1 <<< (nI d &&& 31) = nI (2 ^ d) := of_decide_eq_true (List.all_eq_true.mp shlI_all d (List.mem_range.mpr hd))
theorem lit_0 : (0 : Int32) = nI 0 := rfl
theorem lit_1 : (1 : Int32) = nI 1 := rfl
theorem lit_2 : (2 : Int32) = nI 2 := rfl
theorem lit_3 : (3 : Int32) = nI 3 := rfl
theorem lit_4 : (4 : Int32) = nI 4 := rfl
theorem lit_5 : (5 : Int32) = nI 5 := rfl
theorem lit_6 : (6 : Int32) = nI 6 := rfl
theorem lit_7 : (7 : Int32) = nI 7 := rfl
theorem lit_8 : (8 : Int32) = nI 8 := rfl
theorem lit_9 : (9 : Int32) = nI 9 := rfl
theorem lit_10 : (10 : Int32) = nI 10 := rfl
theorem lit_11 : (11 : Int32) = nI 11 := rfl
theorem lit_12 : (12 : Int32) = nI 12 := rfl
theorem lit_13 : (13 : Int32) = nI 13 := rfl
theorem lit_16 : (16 : Int32) = nI 16 := rfl
theorem lit_17 : (17 : Int32) = nI 17 := rfl
theorem lit_18 : (18 : Int32) = nI 18 := rfl
theorem lit_19 : (19 : Int32) = nI 19 := rfl
theorem lit_20 : (20 : Int32) = nI 20 := rfl
theorem lit_21 : (21 : Int32) = nI 21 := rfl
theorem lit_24 : (24 : Int32) = nI 24 := rfl
theorem lit_26 : (26 : Int32) = nI 26 := rfl
theorem lit_30 : (30 : Int32) = nI 30 := rfl
theorem lit_32 : (32 : Int32) = nI 32 := rfl
theorem lit_38 : (38 : Int32) = nI 38 := rfl
theorem lit_40 : (40 : Int32) = nI 40 := rfl
theorem lit_44 : (44 : Int32) = nI 44 := rfl
theorem lit_48 : (48 : Int32) = nI 48 := rfl
theorem lit_50 : (50 : Int32) = nI 50 := rfl
theorem lit_52 : (52 : Int32) = nI 52 := rfl
theorem lit_56 : (56 : Int32) = nI 56 := rfl
theorem lit_57 : (57 : Int32) = nI 57 := rfl
theorem lit_59 : (59 : Int32) = nI 59 := rfl
theorem lit_60 : (60 : Int32) = nI 60 := rfl
theorem lit_61 : (61 : Int32) = nI 61 := rfl
theorem lit_62 : (62 : Int32) = nI 62 := rfl
theorem lit_63 : (63 : Int32) = nI 63 := rfl
theorem lit_65 : (65 : Int32) = nI 65 := rfl
theorem lit_97 : (97 : Int32) = nI 97 := rfl
theorem lit_98 : (98 : Int32) = nI 98 := rfl
theorem lit_99 : (99 : Int32) = nI 99 := rfl
theorem lit_100 : (100 : Int32) = nI 100 := rfl
theorem lit_101 : (101 : Int32) = nI 101 := rfl
theorem lit_103 : (103 : Int32) = nI 103 := rfl
theorem lit_104 : (104 : Int32) = nI 104 := rfl
theorem lit_105 : (105 : Int32) = nI 105 := rfl
theorem lit_107 : (107 : Int32) = nI 107 := rfl
theorem lit_108 : (108 : Int32) = nI 108 := rfl
theorem lit_110 : (110 : Int32) = nI 110 := rfl
theorem lit_111 : (111 : Int32) = nI 111 := rfl
theorem lit_112 : (112 : Int32) = nI 112 := rfl
theorem lit_114 : (114 : Int32) = nI 114 := rfl
theorem lit_115 : (115 : Int32) = nI 115 := rfl
theorem lit_116 : (116 : Int32) = nI 116 := rfl
theorem lit_117 : (117 : Int32) = nI 117 := rfl
theorem lit_119 : (119 : Int32) = nI 119 := rfl
theorem lit_121 : (121 : Int32) = nI 121 := rfl
theorem lit_122 : (122 : Int32) = nI 122 := rfl
theorem lit_127 : (127 : Int32) = nI 127 := rfl
theorem lit_128 : (128 : Int32) = nI 128 := rfl
theorem lit_240 : (240 : Int32) = nI 240 := rfl
theorem lit_255 : (255 : Int32) = nI 255 := rfl
theorem lit_300 : (300 : Int32) = nI 300 := rfl
theorem lit_361 : (361 : Int32) = nI 361 := rfl
theorem lit_370 : (370 : Int32) = nI 370 := rfl
theorem lit_421 : (421 : Int32) = nI 421 := rfl
theorem lit_900 : (900 : Int32) = nI 900 := rfl
theorem lit_999 : (999 : Int32) = nI 999 := rfl
theorem lit_1480 : (1480 : Int32) = nI 1480 := rfl
theorem lit_1492 : (1492 : Int32) = nI 1492 := rfl
theorem lit_1512 : (1512 : Int32) = nI 1512 := rfl
theorem lit_1518 : (1518 : Int32) = nI 1518 := rfl
theorem lit_1536 : (1536 : Int32) = nI 1536 := rfl
theorem lit_1580 : (1580 : Int32) = nI 1580 := rfl
theorem lit_1850 : (1850 : Int32) = nI 1850 := rfl
theorem lit_2000 : (2000 : Int32) = nI 2000 := rfl
theorem lit_2971 : (2971 : Int32) = nI 2971 := rfl
theorem lit_9999 : (9999 : Int32) = nI 9999 := rfl
theorem lit_10000 : (10000 : Int32) = nI 10000 := rfl
theorem lit_10909 : (10909 : Int32) = nI 10909 := rfl
theorem lit_65536 : (65536 : Int32) = nI 65536 := rfl
theorem lit_252645135 : (252645135 : Int32) = nI 252645135 := rfl
theorem lit_858993459 : (858993459 : Int32) = nI 858993459 := rfl
theorem lit_1431655765 : (1431655765 : Int32) = nI 1431655765 := rfl
