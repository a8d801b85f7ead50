/-! Rows of System.arraycopy, by nI -/
theorem v84_52I (d : Nat) (a0 : Nat) (a1 : Nat) (v2 : Value) (n t s x2 x4 : Nat) (m : zMem) (hn : n < 2 ^ 31) (ht : t < 2 ^ 31) (hs : s < 2 ^ 31) (ha : s + n ≤ (memK m x4).2) (hb : t + n ≤ (memK m x2).2) (hka : (memK m x4).1 = 1) (hkb : (memK m x2).1 = 1) : run (d + 1) 84 52 [.ref a0, .ref a1, v2] [.int (nI n), .int (nI t), .ref x2, .int (nI s), .ref x4] m = run (d + 1) 84 55 [.ref a0, .ref a1, v2] [] (rowI m x2 (va_cpy (memI m x4) (memI m x2) s t n)) := by
  have q := u84_52I d a0 a1 v2 (nI n) (nI t) x2 (nI s) x4 m ⟨nI_pos hs, nI_pos ht, nI_pos hn⟩ (by rw [nI_clamp hs, nI_clamp hn]; exact ha) (by rw [nI_clamp ht, nI_clamp hn]; exact hb) hka hkb
  rwa [nI_clamp hs, nI_clamp hn, nI_clamp ht] at q
theorem v84_52L (d : Nat) (a0 : Nat) (a1 : Nat) (v2 : Value) (n t s x2 x4 : Nat) (m : zMem) (hn : n < 2 ^ 31) (ht : t < 2 ^ 31) (hs : s < 2 ^ 31) (ha : s + n ≤ (memK m x4).2) (hb : t + n ≤ (memK m x2).2) (hka : (memK m x4).1 = 2) (hkb : (memK m x2).1 = 2) : run (d + 1) 84 52 [.ref a0, .ref a1, v2] [.int (nI n), .int (nI t), .ref x2, .int (nI s), .ref x4] m = run (d + 1) 84 55 [.ref a0, .ref a1, v2] [] (rowL m x2 (va_cpy (memL m x4) (memL m x2) s t n)) := by
  have q := u84_52L d a0 a1 v2 (nI n) (nI t) x2 (nI s) x4 m ⟨nI_pos hs, nI_pos ht, nI_pos hn⟩ (by rw [nI_clamp hs, nI_clamp hn]; exact ha) (by rw [nI_clamp ht, nI_clamp hn]; exact hb) hka hkb
  rwa [nI_clamp hs, nI_clamp hn, nI_clamp ht] at q
theorem v84_67I (d : Nat) (a0 : Nat) (a1 : Nat) (v2 : Value) (n t s x2 x4 : Nat) (m : zMem) (hn : n < 2 ^ 31) (ht : t < 2 ^ 31) (hs : s < 2 ^ 31) (ha : s + n ≤ (memK m x4).2) (hb : t + n ≤ (memK m x2).2) (hka : (memK m x4).1 = 1) (hkb : (memK m x2).1 = 1) : run (d + 1) 84 67 [.ref a0, .ref a1, v2] [.int (nI n), .int (nI t), .ref x2, .int (nI s), .ref x4] m = run (d + 1) 84 70 [.ref a0, .ref a1, v2] [] (rowI m x2 (va_cpy (memI m x4) (memI m x2) s t n)) := by
  have q := u84_67I d a0 a1 v2 (nI n) (nI t) x2 (nI s) x4 m ⟨nI_pos hs, nI_pos ht, nI_pos hn⟩ (by rw [nI_clamp hs, nI_clamp hn]; exact ha) (by rw [nI_clamp ht, nI_clamp hn]; exact hb) hka hkb
  rwa [nI_clamp hs, nI_clamp hn, nI_clamp ht] at q
theorem v84_67L (d : Nat) (a0 : Nat) (a1 : Nat) (v2 : Value) (n t s x2 x4 : Nat) (m : zMem) (hn : n < 2 ^ 31) (ht : t < 2 ^ 31) (hs : s < 2 ^ 31) (ha : s + n ≤ (memK m x4).2) (hb : t + n ≤ (memK m x2).2) (hka : (memK m x4).1 = 2) (hkb : (memK m x2).1 = 2) : run (d + 1) 84 67 [.ref a0, .ref a1, v2] [.int (nI n), .int (nI t), .ref x2, .int (nI s), .ref x4] m = run (d + 1) 84 70 [.ref a0, .ref a1, v2] [] (rowL m x2 (va_cpy (memL m x4) (memL m x2) s t n)) := by
  have q := u84_67L d a0 a1 v2 (nI n) (nI t) x2 (nI s) x4 m ⟨nI_pos hs, nI_pos ht, nI_pos hn⟩ (by rw [nI_clamp hs, nI_clamp hn]; exact ha) (by rw [nI_clamp ht, nI_clamp hn]; exact hb) hka hkb
  rwa [nI_clamp hs, nI_clamp hn, nI_clamp ht] at q
theorem v84_82I (d : Nat) (a0 : Nat) (a1 : Nat) (v2 : Value) (n t s x2 x4 : Nat) (m : zMem) (hn : n < 2 ^ 31) (ht : t < 2 ^ 31) (hs : s < 2 ^ 31) (ha : s + n ≤ (memK m x4).2) (hb : t + n ≤ (memK m x2).2) (hka : (memK m x4).1 = 1) (hkb : (memK m x2).1 = 1) : run (d + 1) 84 82 [.ref a0, .ref a1, v2] [.int (nI n), .int (nI t), .ref x2, .int (nI s), .ref x4] m = run (d + 1) 84 85 [.ref a0, .ref a1, v2] [] (rowI m x2 (va_cpy (memI m x4) (memI m x2) s t n)) := by
  have q := u84_82I d a0 a1 v2 (nI n) (nI t) x2 (nI s) x4 m ⟨nI_pos hs, nI_pos ht, nI_pos hn⟩ (by rw [nI_clamp hs, nI_clamp hn]; exact ha) (by rw [nI_clamp ht, nI_clamp hn]; exact hb) hka hkb
  rwa [nI_clamp hs, nI_clamp hn, nI_clamp ht] at q
theorem v84_82L (d : Nat) (a0 : Nat) (a1 : Nat) (v2 : Value) (n t s x2 x4 : Nat) (m : zMem) (hn : n < 2 ^ 31) (ht : t < 2 ^ 31) (hs : s < 2 ^ 31) (ha : s + n ≤ (memK m x4).2) (hb : t + n ≤ (memK m x2).2) (hka : (memK m x4).1 = 2) (hkb : (memK m x2).1 = 2) : run (d + 1) 84 82 [.ref a0, .ref a1, v2] [.int (nI n), .int (nI t), .ref x2, .int (nI s), .ref x4] m = run (d + 1) 84 85 [.ref a0, .ref a1, v2] [] (rowL m x2 (va_cpy (memL m x4) (memL m x2) s t n)) := by
  have q := u84_82L d a0 a1 v2 (nI n) (nI t) x2 (nI s) x4 m ⟨nI_pos hs, nI_pos ht, nI_pos hn⟩ (by rw [nI_clamp hs, nI_clamp hn]; exact ha) (by rw [nI_clamp ht, nI_clamp hn]; exact hb) hka hkb
  rwa [nI_clamp hs, nI_clamp hn, nI_clamp ht] at q
theorem v84_97I (d : Nat) (a0 : Nat) (a1 : Nat) (v2 : Value) (n t s x2 x4 : Nat) (m : zMem) (hn : n < 2 ^ 31) (ht : t < 2 ^ 31) (hs : s < 2 ^ 31) (ha : s + n ≤ (memK m x4).2) (hb : t + n ≤ (memK m x2).2) (hka : (memK m x4).1 = 1) (hkb : (memK m x2).1 = 1) : run (d + 1) 84 97 [.ref a0, .ref a1, v2] [.int (nI n), .int (nI t), .ref x2, .int (nI s), .ref x4] m = run (d + 1) 84 100 [.ref a0, .ref a1, v2] [] (rowI m x2 (va_cpy (memI m x4) (memI m x2) s t n)) := by
  have q := u84_97I d a0 a1 v2 (nI n) (nI t) x2 (nI s) x4 m ⟨nI_pos hs, nI_pos ht, nI_pos hn⟩ (by rw [nI_clamp hs, nI_clamp hn]; exact ha) (by rw [nI_clamp ht, nI_clamp hn]; exact hb) hka hkb
  rwa [nI_clamp hs, nI_clamp hn, nI_clamp ht] at q
theorem v84_97L (d : Nat) (a0 : Nat) (a1 : Nat) (v2 : Value) (n t s x2 x4 : Nat) (m : zMem) (hn : n < 2 ^ 31) (ht : t < 2 ^ 31) (hs : s < 2 ^ 31) (ha : s + n ≤ (memK m x4).2) (hb : t + n ≤ (memK m x2).2) (hka : (memK m x4).1 = 2) (hkb : (memK m x2).1 = 2) : run (d + 1) 84 97 [.ref a0, .ref a1, v2] [.int (nI n), .int (nI t), .ref x2, .int (nI s), .ref x4] m = run (d + 1) 84 100 [.ref a0, .ref a1, v2] [] (rowL m x2 (va_cpy (memL m x4) (memL m x2) s t n)) := by
  have q := u84_97L d a0 a1 v2 (nI n) (nI t) x2 (nI s) x4 m ⟨nI_pos hs, nI_pos ht, nI_pos hn⟩ (by rw [nI_clamp hs, nI_clamp hn]; exact ha) (by rw [nI_clamp ht, nI_clamp hn]; exact hb) hka hkb
  rwa [nI_clamp hs, nI_clamp hn, nI_clamp ht] at q
theorem v84_112I (d : Nat) (a0 : Nat) (a1 : Nat) (v2 : Value) (n t s x2 x4 : Nat) (m : zMem) (hn : n < 2 ^ 31) (ht : t < 2 ^ 31) (hs : s < 2 ^ 31) (ha : s + n ≤ (memK m x4).2) (hb : t + n ≤ (memK m x2).2) (hka : (memK m x4).1 = 1) (hkb : (memK m x2).1 = 1) : run (d + 1) 84 112 [.ref a0, .ref a1, v2] [.int (nI n), .int (nI t), .ref x2, .int (nI s), .ref x4] m = run (d + 1) 84 115 [.ref a0, .ref a1, v2] [] (rowI m x2 (va_cpy (memI m x4) (memI m x2) s t n)) := by
  have q := u84_112I d a0 a1 v2 (nI n) (nI t) x2 (nI s) x4 m ⟨nI_pos hs, nI_pos ht, nI_pos hn⟩ (by rw [nI_clamp hs, nI_clamp hn]; exact ha) (by rw [nI_clamp ht, nI_clamp hn]; exact hb) hka hkb
  rwa [nI_clamp hs, nI_clamp hn, nI_clamp ht] at q
theorem v84_112L (d : Nat) (a0 : Nat) (a1 : Nat) (v2 : Value) (n t s x2 x4 : Nat) (m : zMem) (hn : n < 2 ^ 31) (ht : t < 2 ^ 31) (hs : s < 2 ^ 31) (ha : s + n ≤ (memK m x4).2) (hb : t + n ≤ (memK m x2).2) (hka : (memK m x4).1 = 2) (hkb : (memK m x2).1 = 2) : run (d + 1) 84 112 [.ref a0, .ref a1, v2] [.int (nI n), .int (nI t), .ref x2, .int (nI s), .ref x4] m = run (d + 1) 84 115 [.ref a0, .ref a1, v2] [] (rowL m x2 (va_cpy (memL m x4) (memL m x2) s t n)) := by
  have q := u84_112L d a0 a1 v2 (nI n) (nI t) x2 (nI s) x4 m ⟨nI_pos hs, nI_pos ht, nI_pos hn⟩ (by rw [nI_clamp hs, nI_clamp hn]; exact ha) (by rw [nI_clamp ht, nI_clamp hn]; exact hb) hka hkb
  rwa [nI_clamp hs, nI_clamp hn, nI_clamp ht] at q
theorem v84_127I (d : Nat) (a0 : Nat) (a1 : Nat) (v2 : Value) (n t s x2 x4 : Nat) (m : zMem) (hn : n < 2 ^ 31) (ht : t < 2 ^ 31) (hs : s < 2 ^ 31) (ha : s + n ≤ (memK m x4).2) (hb : t + n ≤ (memK m x2).2) (hka : (memK m x4).1 = 1) (hkb : (memK m x2).1 = 1) : run (d + 1) 84 127 [.ref a0, .ref a1, v2] [.int (nI n), .int (nI t), .ref x2, .int (nI s), .ref x4] m = run (d + 1) 84 130 [.ref a0, .ref a1, v2] [] (rowI m x2 (va_cpy (memI m x4) (memI m x2) s t n)) := by
  have q := u84_127I d a0 a1 v2 (nI n) (nI t) x2 (nI s) x4 m ⟨nI_pos hs, nI_pos ht, nI_pos hn⟩ (by rw [nI_clamp hs, nI_clamp hn]; exact ha) (by rw [nI_clamp ht, nI_clamp hn]; exact hb) hka hkb
  rwa [nI_clamp hs, nI_clamp hn, nI_clamp ht] at q
theorem v84_127L (d : Nat) (a0 : Nat) (a1 : Nat) (v2 : Value) (n t s x2 x4 : Nat) (m : zMem) (hn : n < 2 ^ 31) (ht : t < 2 ^ 31) (hs : s < 2 ^ 31) (ha : s + n ≤ (memK m x4).2) (hb : t + n ≤ (memK m x2).2) (hka : (memK m x4).1 = 2) (hkb : (memK m x2).1 = 2) : run (d + 1) 84 127 [.ref a0, .ref a1, v2] [.int (nI n), .int (nI t), .ref x2, .int (nI s), .ref x4] m = run (d + 1) 84 130 [.ref a0, .ref a1, v2] [] (rowL m x2 (va_cpy (memL m x4) (memL m x2) s t n)) := by
  have q := u84_127L d a0 a1 v2 (nI n) (nI t) x2 (nI s) x4 m ⟨nI_pos hs, nI_pos ht, nI_pos hn⟩ (by rw [nI_clamp hs, nI_clamp hn]; exact ha) (by rw [nI_clamp ht, nI_clamp hn]; exact hb) hka hkb
  rwa [nI_clamp hs, nI_clamp hn, nI_clamp ht] at q
theorem v84_142I (d : Nat) (a0 : Nat) (a1 : Nat) (v2 : Value) (n t s x2 x4 : Nat) (m : zMem) (hn : n < 2 ^ 31) (ht : t < 2 ^ 31) (hs : s < 2 ^ 31) (ha : s + n ≤ (memK m x4).2) (hb : t + n ≤ (memK m x2).2) (hka : (memK m x4).1 = 1) (hkb : (memK m x2).1 = 1) : run (d + 1) 84 142 [.ref a0, .ref a1, v2] [.int (nI n), .int (nI t), .ref x2, .int (nI s), .ref x4] m = run (d + 1) 84 145 [.ref a0, .ref a1, v2] [] (rowI m x2 (va_cpy (memI m x4) (memI m x2) s t n)) := by
  have q := u84_142I d a0 a1 v2 (nI n) (nI t) x2 (nI s) x4 m ⟨nI_pos hs, nI_pos ht, nI_pos hn⟩ (by rw [nI_clamp hs, nI_clamp hn]; exact ha) (by rw [nI_clamp ht, nI_clamp hn]; exact hb) hka hkb
  rwa [nI_clamp hs, nI_clamp hn, nI_clamp ht] at q
theorem v84_142L (d : Nat) (a0 : Nat) (a1 : Nat) (v2 : Value) (n t s x2 x4 : Nat) (m : zMem) (hn : n < 2 ^ 31) (ht : t < 2 ^ 31) (hs : s < 2 ^ 31) (ha : s + n ≤ (memK m x4).2) (hb : t + n ≤ (memK m x2).2) (hka : (memK m x4).1 = 2) (hkb : (memK m x2).1 = 2) : run (d + 1) 84 142 [.ref a0, .ref a1, v2] [.int (nI n), .int (nI t), .ref x2, .int (nI s), .ref x4] m = run (d + 1) 84 145 [.ref a0, .ref a1, v2] [] (rowL m x2 (va_cpy (memL m x4) (memL m x2) s t n)) := by
  have q := u84_142L d a0 a1 v2 (nI n) (nI t) x2 (nI s) x4 m ⟨nI_pos hs, nI_pos ht, nI_pos hn⟩ (by rw [nI_clamp hs, nI_clamp hn]; exact ha) (by rw [nI_clamp ht, nI_clamp hn]; exact hb) hka hkb
  rwa [nI_clamp hs, nI_clamp hn, nI_clamp ht] at q
theorem v84_157I (d : Nat) (a0 : Nat) (a1 : Nat) (v2 : Value) (n t s x2 x4 : Nat) (m : zMem) (hn : n < 2 ^ 31) (ht : t < 2 ^ 31) (hs : s < 2 ^ 31) (ha : s + n ≤ (memK m x4).2) (hb : t + n ≤ (memK m x2).2) (hka : (memK m x4).1 = 1) (hkb : (memK m x2).1 = 1) : run (d + 1) 84 157 [.ref a0, .ref a1, v2] [.int (nI n), .int (nI t), .ref x2, .int (nI s), .ref x4] m = run (d + 1) 84 160 [.ref a0, .ref a1, v2] [] (rowI m x2 (va_cpy (memI m x4) (memI m x2) s t n)) := by
  have q := u84_157I d a0 a1 v2 (nI n) (nI t) x2 (nI s) x4 m ⟨nI_pos hs, nI_pos ht, nI_pos hn⟩ (by rw [nI_clamp hs, nI_clamp hn]; exact ha) (by rw [nI_clamp ht, nI_clamp hn]; exact hb) hka hkb
  rwa [nI_clamp hs, nI_clamp hn, nI_clamp ht] at q
theorem v84_157L (d : Nat) (a0 : Nat) (a1 : Nat) (v2 : Value) (n t s x2 x4 : Nat) (m : zMem) (hn : n < 2 ^ 31) (ht : t < 2 ^ 31) (hs : s < 2 ^ 31) (ha : s + n ≤ (memK m x4).2) (hb : t + n ≤ (memK m x2).2) (hka : (memK m x4).1 = 2) (hkb : (memK m x2).1 = 2) : run (d + 1) 84 157 [.ref a0, .ref a1, v2] [.int (nI n), .int (nI t), .ref x2, .int (nI s), .ref x4] m = run (d + 1) 84 160 [.ref a0, .ref a1, v2] [] (rowL m x2 (va_cpy (memL m x4) (memL m x2) s t n)) := by
  have q := u84_157L d a0 a1 v2 (nI n) (nI t) x2 (nI s) x4 m ⟨nI_pos hs, nI_pos ht, nI_pos hn⟩ (by rw [nI_clamp hs, nI_clamp hn]; exact ha) (by rw [nI_clamp ht, nI_clamp hn]; exact hb) hka hkb
  rwa [nI_clamp hs, nI_clamp hn, nI_clamp ht] at q
theorem v84_172I (d : Nat) (a0 : Nat) (a1 : Nat) (v2 : Value) (n t s x2 x4 : Nat) (m : zMem) (hn : n < 2 ^ 31) (ht : t < 2 ^ 31) (hs : s < 2 ^ 31) (ha : s + n ≤ (memK m x4).2) (hb : t + n ≤ (memK m x2).2) (hka : (memK m x4).1 = 1) (hkb : (memK m x2).1 = 1) : run (d + 1) 84 172 [.ref a0, .ref a1, v2] [.int (nI n), .int (nI t), .ref x2, .int (nI s), .ref x4] m = run (d + 1) 84 175 [.ref a0, .ref a1, v2] [] (rowI m x2 (va_cpy (memI m x4) (memI m x2) s t n)) := by
  have q := u84_172I d a0 a1 v2 (nI n) (nI t) x2 (nI s) x4 m ⟨nI_pos hs, nI_pos ht, nI_pos hn⟩ (by rw [nI_clamp hs, nI_clamp hn]; exact ha) (by rw [nI_clamp ht, nI_clamp hn]; exact hb) hka hkb
  rwa [nI_clamp hs, nI_clamp hn, nI_clamp ht] at q
theorem v84_172L (d : Nat) (a0 : Nat) (a1 : Nat) (v2 : Value) (n t s x2 x4 : Nat) (m : zMem) (hn : n < 2 ^ 31) (ht : t < 2 ^ 31) (hs : s < 2 ^ 31) (ha : s + n ≤ (memK m x4).2) (hb : t + n ≤ (memK m x2).2) (hka : (memK m x4).1 = 2) (hkb : (memK m x2).1 = 2) : run (d + 1) 84 172 [.ref a0, .ref a1, v2] [.int (nI n), .int (nI t), .ref x2, .int (nI s), .ref x4] m = run (d + 1) 84 175 [.ref a0, .ref a1, v2] [] (rowL m x2 (va_cpy (memL m x4) (memL m x2) s t n)) := by
  have q := u84_172L d a0 a1 v2 (nI n) (nI t) x2 (nI s) x4 m ⟨nI_pos hs, nI_pos ht, nI_pos hn⟩ (by rw [nI_clamp hs, nI_clamp hn]; exact ha) (by rw [nI_clamp ht, nI_clamp hn]; exact hb) hka hkb
  rwa [nI_clamp hs, nI_clamp hn, nI_clamp ht] at q
theorem v84_187I (d : Nat) (a0 : Nat) (a1 : Nat) (v2 : Value) (n t s x2 x4 : Nat) (m : zMem) (hn : n < 2 ^ 31) (ht : t < 2 ^ 31) (hs : s < 2 ^ 31) (ha : s + n ≤ (memK m x4).2) (hb : t + n ≤ (memK m x2).2) (hka : (memK m x4).1 = 1) (hkb : (memK m x2).1 = 1) : run (d + 1) 84 187 [.ref a0, .ref a1, v2] [.int (nI n), .int (nI t), .ref x2, .int (nI s), .ref x4] m = run (d + 1) 84 190 [.ref a0, .ref a1, v2] [] (rowI m x2 (va_cpy (memI m x4) (memI m x2) s t n)) := by
  have q := u84_187I d a0 a1 v2 (nI n) (nI t) x2 (nI s) x4 m ⟨nI_pos hs, nI_pos ht, nI_pos hn⟩ (by rw [nI_clamp hs, nI_clamp hn]; exact ha) (by rw [nI_clamp ht, nI_clamp hn]; exact hb) hka hkb
  rwa [nI_clamp hs, nI_clamp hn, nI_clamp ht] at q
theorem v84_187L (d : Nat) (a0 : Nat) (a1 : Nat) (v2 : Value) (n t s x2 x4 : Nat) (m : zMem) (hn : n < 2 ^ 31) (ht : t < 2 ^ 31) (hs : s < 2 ^ 31) (ha : s + n ≤ (memK m x4).2) (hb : t + n ≤ (memK m x2).2) (hka : (memK m x4).1 = 2) (hkb : (memK m x2).1 = 2) : run (d + 1) 84 187 [.ref a0, .ref a1, v2] [.int (nI n), .int (nI t), .ref x2, .int (nI s), .ref x4] m = run (d + 1) 84 190 [.ref a0, .ref a1, v2] [] (rowL m x2 (va_cpy (memL m x4) (memL m x2) s t n)) := by
  have q := u84_187L d a0 a1 v2 (nI n) (nI t) x2 (nI s) x4 m ⟨nI_pos hs, nI_pos ht, nI_pos hn⟩ (by rw [nI_clamp hs, nI_clamp hn]; exact ha) (by rw [nI_clamp ht, nI_clamp hn]; exact hb) hka hkb
  rwa [nI_clamp hs, nI_clamp hn, nI_clamp ht] at q
theorem v84_214I (d : Nat) (a0 : Nat) (a1 : Nat) (a2 : Int32) (n t s x2 x4 : Nat) (m : zMem) (hn : n < 2 ^ 31) (ht : t < 2 ^ 31) (hs : s < 2 ^ 31) (ha : s + n ≤ (memK m x4).2) (hb : t + n ≤ (memK m x2).2) (hka : (memK m x4).1 = 1) (hkb : (memK m x2).1 = 1) : run (d + 1) 84 214 [.ref a0, .ref a1, .int a2] [.int (nI n), .int (nI t), .ref x2, .int (nI s), .ref x4] m = run (d + 1) 84 217 [.ref a0, .ref a1, .int a2] [] (rowI m x2 (va_cpy (memI m x4) (memI m x2) s t n)) := by
  have q := u84_214I d a0 a1 a2 (nI n) (nI t) x2 (nI s) x4 m ⟨nI_pos hs, nI_pos ht, nI_pos hn⟩ (by rw [nI_clamp hs, nI_clamp hn]; exact ha) (by rw [nI_clamp ht, nI_clamp hn]; exact hb) hka hkb
  rwa [nI_clamp hs, nI_clamp hn, nI_clamp ht] at q
theorem v84_214L (d : Nat) (a0 : Nat) (a1 : Nat) (a2 : Int32) (n t s x2 x4 : Nat) (m : zMem) (hn : n < 2 ^ 31) (ht : t < 2 ^ 31) (hs : s < 2 ^ 31) (ha : s + n ≤ (memK m x4).2) (hb : t + n ≤ (memK m x2).2) (hka : (memK m x4).1 = 2) (hkb : (memK m x2).1 = 2) : run (d + 1) 84 214 [.ref a0, .ref a1, .int a2] [.int (nI n), .int (nI t), .ref x2, .int (nI s), .ref x4] m = run (d + 1) 84 217 [.ref a0, .ref a1, .int a2] [] (rowL m x2 (va_cpy (memL m x4) (memL m x2) s t n)) := by
  have q := u84_214L d a0 a1 a2 (nI n) (nI t) x2 (nI s) x4 m ⟨nI_pos hs, nI_pos ht, nI_pos hn⟩ (by rw [nI_clamp hs, nI_clamp hn]; exact ha) (by rw [nI_clamp ht, nI_clamp hn]; exact hb) hka hkb
  rwa [nI_clamp hs, nI_clamp hn, nI_clamp ht] at q
theorem v85_38I (d : Nat) (a0 : Nat) (a1 : Nat) (n t s x2 x4 : Nat) (m : zMem) (hn : n < 2 ^ 31) (ht : t < 2 ^ 31) (hs : s < 2 ^ 31) (ha : s + n ≤ (memK m x4).2) (hb : t + n ≤ (memK m x2).2) (hka : (memK m x4).1 = 1) (hkb : (memK m x2).1 = 1) : run (d + 1) 85 38 [.ref a0, .ref a1] [.int (nI n), .int (nI t), .ref x2, .int (nI s), .ref x4] m = run (d + 1) 85 41 [.ref a0, .ref a1] [] (rowI m x2 (va_cpy (memI m x4) (memI m x2) s t n)) := by
  have q := u85_38I d a0 a1 (nI n) (nI t) x2 (nI s) x4 m ⟨nI_pos hs, nI_pos ht, nI_pos hn⟩ (by rw [nI_clamp hs, nI_clamp hn]; exact ha) (by rw [nI_clamp ht, nI_clamp hn]; exact hb) hka hkb
  rwa [nI_clamp hs, nI_clamp hn, nI_clamp ht] at q
theorem v85_38L (d : Nat) (a0 : Nat) (a1 : Nat) (n t s x2 x4 : Nat) (m : zMem) (hn : n < 2 ^ 31) (ht : t < 2 ^ 31) (hs : s < 2 ^ 31) (ha : s + n ≤ (memK m x4).2) (hb : t + n ≤ (memK m x2).2) (hka : (memK m x4).1 = 2) (hkb : (memK m x2).1 = 2) : run (d + 1) 85 38 [.ref a0, .ref a1] [.int (nI n), .int (nI t), .ref x2, .int (nI s), .ref x4] m = run (d + 1) 85 41 [.ref a0, .ref a1] [] (rowL m x2 (va_cpy (memL m x4) (memL m x2) s t n)) := by
  have q := u85_38L d a0 a1 (nI n) (nI t) x2 (nI s) x4 m ⟨nI_pos hs, nI_pos ht, nI_pos hn⟩ (by rw [nI_clamp hs, nI_clamp hn]; exact ha) (by rw [nI_clamp ht, nI_clamp hn]; exact hb) hka hkb
  rwa [nI_clamp hs, nI_clamp hn, nI_clamp ht] at q
theorem v85_55I (d : Nat) (a0 : Nat) (a1 : Nat) (n t s x2 x4 : Nat) (m : zMem) (hn : n < 2 ^ 31) (ht : t < 2 ^ 31) (hs : s < 2 ^ 31) (ha : s + n ≤ (memK m x4).2) (hb : t + n ≤ (memK m x2).2) (hka : (memK m x4).1 = 1) (hkb : (memK m x2).1 = 1) : run (d + 1) 85 55 [.ref a0, .ref a1] [.int (nI n), .int (nI t), .ref x2, .int (nI s), .ref x4] m = run (d + 1) 85 58 [.ref a0, .ref a1] [] (rowI m x2 (va_cpy (memI m x4) (memI m x2) s t n)) := by
  have q := u85_55I d a0 a1 (nI n) (nI t) x2 (nI s) x4 m ⟨nI_pos hs, nI_pos ht, nI_pos hn⟩ (by rw [nI_clamp hs, nI_clamp hn]; exact ha) (by rw [nI_clamp ht, nI_clamp hn]; exact hb) hka hkb
  rwa [nI_clamp hs, nI_clamp hn, nI_clamp ht] at q
theorem v85_55L (d : Nat) (a0 : Nat) (a1 : Nat) (n t s x2 x4 : Nat) (m : zMem) (hn : n < 2 ^ 31) (ht : t < 2 ^ 31) (hs : s < 2 ^ 31) (ha : s + n ≤ (memK m x4).2) (hb : t + n ≤ (memK m x2).2) (hka : (memK m x4).1 = 2) (hkb : (memK m x2).1 = 2) : run (d + 1) 85 55 [.ref a0, .ref a1] [.int (nI n), .int (nI t), .ref x2, .int (nI s), .ref x4] m = run (d + 1) 85 58 [.ref a0, .ref a1] [] (rowL m x2 (va_cpy (memL m x4) (memL m x2) s t n)) := by
  have q := u85_55L d a0 a1 (nI n) (nI t) x2 (nI s) x4 m ⟨nI_pos hs, nI_pos ht, nI_pos hn⟩ (by rw [nI_clamp hs, nI_clamp hn]; exact ha) (by rw [nI_clamp ht, nI_clamp hn]; exact hb) hka hkb
  rwa [nI_clamp hs, nI_clamp hn, nI_clamp ht] at q
theorem v85_72I (d : Nat) (a0 : Nat) (a1 : Nat) (n t s x2 x4 : Nat) (m : zMem) (hn : n < 2 ^ 31) (ht : t < 2 ^ 31) (hs : s < 2 ^ 31) (ha : s + n ≤ (memK m x4).2) (hb : t + n ≤ (memK m x2).2) (hka : (memK m x4).1 = 1) (hkb : (memK m x2).1 = 1) : run (d + 1) 85 72 [.ref a0, .ref a1] [.int (nI n), .int (nI t), .ref x2, .int (nI s), .ref x4] m = run (d + 1) 85 75 [.ref a0, .ref a1] [] (rowI m x2 (va_cpy (memI m x4) (memI m x2) s t n)) := by
  have q := u85_72I d a0 a1 (nI n) (nI t) x2 (nI s) x4 m ⟨nI_pos hs, nI_pos ht, nI_pos hn⟩ (by rw [nI_clamp hs, nI_clamp hn]; exact ha) (by rw [nI_clamp ht, nI_clamp hn]; exact hb) hka hkb
  rwa [nI_clamp hs, nI_clamp hn, nI_clamp ht] at q
theorem v85_72L (d : Nat) (a0 : Nat) (a1 : Nat) (n t s x2 x4 : Nat) (m : zMem) (hn : n < 2 ^ 31) (ht : t < 2 ^ 31) (hs : s < 2 ^ 31) (ha : s + n ≤ (memK m x4).2) (hb : t + n ≤ (memK m x2).2) (hka : (memK m x4).1 = 2) (hkb : (memK m x2).1 = 2) : run (d + 1) 85 72 [.ref a0, .ref a1] [.int (nI n), .int (nI t), .ref x2, .int (nI s), .ref x4] m = run (d + 1) 85 75 [.ref a0, .ref a1] [] (rowL m x2 (va_cpy (memL m x4) (memL m x2) s t n)) := by
  have q := u85_72L d a0 a1 (nI n) (nI t) x2 (nI s) x4 m ⟨nI_pos hs, nI_pos ht, nI_pos hn⟩ (by rw [nI_clamp hs, nI_clamp hn]; exact ha) (by rw [nI_clamp ht, nI_clamp hn]; exact hb) hka hkb
  rwa [nI_clamp hs, nI_clamp hn, nI_clamp ht] at q
theorem v85_89I (d : Nat) (a0 : Nat) (a1 : Nat) (n t s x2 x4 : Nat) (m : zMem) (hn : n < 2 ^ 31) (ht : t < 2 ^ 31) (hs : s < 2 ^ 31) (ha : s + n ≤ (memK m x4).2) (hb : t + n ≤ (memK m x2).2) (hka : (memK m x4).1 = 1) (hkb : (memK m x2).1 = 1) : run (d + 1) 85 89 [.ref a0, .ref a1] [.int (nI n), .int (nI t), .ref x2, .int (nI s), .ref x4] m = run (d + 1) 85 92 [.ref a0, .ref a1] [] (rowI m x2 (va_cpy (memI m x4) (memI m x2) s t n)) := by
  have q := u85_89I d a0 a1 (nI n) (nI t) x2 (nI s) x4 m ⟨nI_pos hs, nI_pos ht, nI_pos hn⟩ (by rw [nI_clamp hs, nI_clamp hn]; exact ha) (by rw [nI_clamp ht, nI_clamp hn]; exact hb) hka hkb
  rwa [nI_clamp hs, nI_clamp hn, nI_clamp ht] at q
theorem v85_89L (d : Nat) (a0 : Nat) (a1 : Nat) (n t s x2 x4 : Nat) (m : zMem) (hn : n < 2 ^ 31) (ht : t < 2 ^ 31) (hs : s < 2 ^ 31) (ha : s + n ≤ (memK m x4).2) (hb : t + n ≤ (memK m x2).2) (hka : (memK m x4).1 = 2) (hkb : (memK m x2).1 = 2) : run (d + 1) 85 89 [.ref a0, .ref a1] [.int (nI n), .int (nI t), .ref x2, .int (nI s), .ref x4] m = run (d + 1) 85 92 [.ref a0, .ref a1] [] (rowL m x2 (va_cpy (memL m x4) (memL m x2) s t n)) := by
  have q := u85_89L d a0 a1 (nI n) (nI t) x2 (nI s) x4 m ⟨nI_pos hs, nI_pos ht, nI_pos hn⟩ (by rw [nI_clamp hs, nI_clamp hn]; exact ha) (by rw [nI_clamp ht, nI_clamp hn]; exact hb) hka hkb
  rwa [nI_clamp hs, nI_clamp hn, nI_clamp ht] at q
theorem v85_106I (d : Nat) (a0 : Nat) (a1 : Nat) (n t s x2 x4 : Nat) (m : zMem) (hn : n < 2 ^ 31) (ht : t < 2 ^ 31) (hs : s < 2 ^ 31) (ha : s + n ≤ (memK m x4).2) (hb : t + n ≤ (memK m x2).2) (hka : (memK m x4).1 = 1) (hkb : (memK m x2).1 = 1) : run (d + 1) 85 106 [.ref a0, .ref a1] [.int (nI n), .int (nI t), .ref x2, .int (nI s), .ref x4] m = run (d + 1) 85 109 [.ref a0, .ref a1] [] (rowI m x2 (va_cpy (memI m x4) (memI m x2) s t n)) := by
  have q := u85_106I d a0 a1 (nI n) (nI t) x2 (nI s) x4 m ⟨nI_pos hs, nI_pos ht, nI_pos hn⟩ (by rw [nI_clamp hs, nI_clamp hn]; exact ha) (by rw [nI_clamp ht, nI_clamp hn]; exact hb) hka hkb
  rwa [nI_clamp hs, nI_clamp hn, nI_clamp ht] at q
theorem v85_106L (d : Nat) (a0 : Nat) (a1 : Nat) (n t s x2 x4 : Nat) (m : zMem) (hn : n < 2 ^ 31) (ht : t < 2 ^ 31) (hs : s < 2 ^ 31) (ha : s + n ≤ (memK m x4).2) (hb : t + n ≤ (memK m x2).2) (hka : (memK m x4).1 = 2) (hkb : (memK m x2).1 = 2) : run (d + 1) 85 106 [.ref a0, .ref a1] [.int (nI n), .int (nI t), .ref x2, .int (nI s), .ref x4] m = run (d + 1) 85 109 [.ref a0, .ref a1] [] (rowL m x2 (va_cpy (memL m x4) (memL m x2) s t n)) := by
  have q := u85_106L d a0 a1 (nI n) (nI t) x2 (nI s) x4 m ⟨nI_pos hs, nI_pos ht, nI_pos hn⟩ (by rw [nI_clamp hs, nI_clamp hn]; exact ha) (by rw [nI_clamp ht, nI_clamp hn]; exact hb) hka hkb
  rwa [nI_clamp hs, nI_clamp hn, nI_clamp ht] at q
theorem v85_123I (d : Nat) (a0 : Nat) (a1 : Nat) (n t s x2 x4 : Nat) (m : zMem) (hn : n < 2 ^ 31) (ht : t < 2 ^ 31) (hs : s < 2 ^ 31) (ha : s + n ≤ (memK m x4).2) (hb : t + n ≤ (memK m x2).2) (hka : (memK m x4).1 = 1) (hkb : (memK m x2).1 = 1) : run (d + 1) 85 123 [.ref a0, .ref a1] [.int (nI n), .int (nI t), .ref x2, .int (nI s), .ref x4] m = run (d + 1) 85 126 [.ref a0, .ref a1] [] (rowI m x2 (va_cpy (memI m x4) (memI m x2) s t n)) := by
  have q := u85_123I d a0 a1 (nI n) (nI t) x2 (nI s) x4 m ⟨nI_pos hs, nI_pos ht, nI_pos hn⟩ (by rw [nI_clamp hs, nI_clamp hn]; exact ha) (by rw [nI_clamp ht, nI_clamp hn]; exact hb) hka hkb
  rwa [nI_clamp hs, nI_clamp hn, nI_clamp ht] at q
theorem v85_123L (d : Nat) (a0 : Nat) (a1 : Nat) (n t s x2 x4 : Nat) (m : zMem) (hn : n < 2 ^ 31) (ht : t < 2 ^ 31) (hs : s < 2 ^ 31) (ha : s + n ≤ (memK m x4).2) (hb : t + n ≤ (memK m x2).2) (hka : (memK m x4).1 = 2) (hkb : (memK m x2).1 = 2) : run (d + 1) 85 123 [.ref a0, .ref a1] [.int (nI n), .int (nI t), .ref x2, .int (nI s), .ref x4] m = run (d + 1) 85 126 [.ref a0, .ref a1] [] (rowL m x2 (va_cpy (memL m x4) (memL m x2) s t n)) := by
  have q := u85_123L d a0 a1 (nI n) (nI t) x2 (nI s) x4 m ⟨nI_pos hs, nI_pos ht, nI_pos hn⟩ (by rw [nI_clamp hs, nI_clamp hn]; exact ha) (by rw [nI_clamp ht, nI_clamp hn]; exact hb) hka hkb
  rwa [nI_clamp hs, nI_clamp hn, nI_clamp ht] at q
theorem v85_140I (d : Nat) (a0 : Nat) (a1 : Nat) (n t s x2 x4 : Nat) (m : zMem) (hn : n < 2 ^ 31) (ht : t < 2 ^ 31) (hs : s < 2 ^ 31) (ha : s + n ≤ (memK m x4).2) (hb : t + n ≤ (memK m x2).2) (hka : (memK m x4).1 = 1) (hkb : (memK m x2).1 = 1) : run (d + 1) 85 140 [.ref a0, .ref a1] [.int (nI n), .int (nI t), .ref x2, .int (nI s), .ref x4] m = run (d + 1) 85 143 [.ref a0, .ref a1] [] (rowI m x2 (va_cpy (memI m x4) (memI m x2) s t n)) := by
  have q := u85_140I d a0 a1 (nI n) (nI t) x2 (nI s) x4 m ⟨nI_pos hs, nI_pos ht, nI_pos hn⟩ (by rw [nI_clamp hs, nI_clamp hn]; exact ha) (by rw [nI_clamp ht, nI_clamp hn]; exact hb) hka hkb
  rwa [nI_clamp hs, nI_clamp hn, nI_clamp ht] at q
theorem v85_140L (d : Nat) (a0 : Nat) (a1 : Nat) (n t s x2 x4 : Nat) (m : zMem) (hn : n < 2 ^ 31) (ht : t < 2 ^ 31) (hs : s < 2 ^ 31) (ha : s + n ≤ (memK m x4).2) (hb : t + n ≤ (memK m x2).2) (hka : (memK m x4).1 = 2) (hkb : (memK m x2).1 = 2) : run (d + 1) 85 140 [.ref a0, .ref a1] [.int (nI n), .int (nI t), .ref x2, .int (nI s), .ref x4] m = run (d + 1) 85 143 [.ref a0, .ref a1] [] (rowL m x2 (va_cpy (memL m x4) (memL m x2) s t n)) := by
  have q := u85_140L d a0 a1 (nI n) (nI t) x2 (nI s) x4 m ⟨nI_pos hs, nI_pos ht, nI_pos hn⟩ (by rw [nI_clamp hs, nI_clamp hn]; exact ha) (by rw [nI_clamp ht, nI_clamp hn]; exact hb) hka hkb
  rwa [nI_clamp hs, nI_clamp hn, nI_clamp ht] at q
theorem v40_48I (d : Nat) (a0 : Nat) (a1 : Int32) (a2 : Int32) (a3 : Int32) (a4 : Int32) (a5 : Int32) (a6 : Int32) (n t s x2 x4 : Nat) (m : zMem) (hn : n < 2 ^ 31) (ht : t < 2 ^ 31) (hs : s < 2 ^ 31) (ha : s + n ≤ (memK m x4).2) (hb : t + n ≤ (memK m x2).2) (hka : (memK m x4).1 = 1) (hkb : (memK m x2).1 = 1) : run (d + 1) 40 48 [.ref a0, .int a1, .int a2, .int a3, .int a4, .int a5, .int a6] [.int (nI n), .int (nI t), .ref x2, .int (nI s), .ref x4] m = run (d + 1) 40 51 [.ref a0, .int a1, .int a2, .int a3, .int a4, .int a5, .int a6] [] (rowI m x2 (va_cpy (memI m x4) (memI m x2) s t n)) := by
  have q := u40_48I d a0 a1 a2 a3 a4 a5 a6 (nI n) (nI t) x2 (nI s) x4 m ⟨nI_pos hs, nI_pos ht, nI_pos hn⟩ (by rw [nI_clamp hs, nI_clamp hn]; exact ha) (by rw [nI_clamp ht, nI_clamp hn]; exact hb) hka hkb
  rwa [nI_clamp hs, nI_clamp hn, nI_clamp ht] at q
theorem v40_48L (d : Nat) (a0 : Nat) (a1 : Int32) (a2 : Int32) (a3 : Int32) (a4 : Int32) (a5 : Int32) (a6 : Int32) (n t s x2 x4 : Nat) (m : zMem) (hn : n < 2 ^ 31) (ht : t < 2 ^ 31) (hs : s < 2 ^ 31) (ha : s + n ≤ (memK m x4).2) (hb : t + n ≤ (memK m x2).2) (hka : (memK m x4).1 = 2) (hkb : (memK m x2).1 = 2) : run (d + 1) 40 48 [.ref a0, .int a1, .int a2, .int a3, .int a4, .int a5, .int a6] [.int (nI n), .int (nI t), .ref x2, .int (nI s), .ref x4] m = run (d + 1) 40 51 [.ref a0, .int a1, .int a2, .int a3, .int a4, .int a5, .int a6] [] (rowL m x2 (va_cpy (memL m x4) (memL m x2) s t n)) := by
  have q := u40_48L d a0 a1 a2 a3 a4 a5 a6 (nI n) (nI t) x2 (nI s) x4 m ⟨nI_pos hs, nI_pos ht, nI_pos hn⟩ (by rw [nI_clamp hs, nI_clamp hn]; exact ha) (by rw [nI_clamp ht, nI_clamp hn]; exact hb) hka hkb
  rwa [nI_clamp hs, nI_clamp hn, nI_clamp ht] at q
theorem v178_70I (d : Nat) (a0 : Nat) (a1 : Int32) (n t s x2 x4 : Nat) (m : zMem) (hn : n < 2 ^ 31) (ht : t < 2 ^ 31) (hs : s < 2 ^ 31) (ha : s + n ≤ (memK m x4).2) (hb : t + n ≤ (memK m x2).2) (hka : (memK m x4).1 = 1) (hkb : (memK m x2).1 = 1) : run (d + 1) 178 70 [.ref a0, .int a1] [.int (nI n), .int (nI t), .ref x2, .int (nI s), .ref x4] m = run (d + 1) 178 73 [.ref a0, .int a1] [] (rowI m x2 (va_cpy (memI m x4) (memI m x2) s t n)) := by
  have q := u178_70I d a0 a1 (nI n) (nI t) x2 (nI s) x4 m ⟨nI_pos hs, nI_pos ht, nI_pos hn⟩ (by rw [nI_clamp hs, nI_clamp hn]; exact ha) (by rw [nI_clamp ht, nI_clamp hn]; exact hb) hka hkb
  rwa [nI_clamp hs, nI_clamp hn, nI_clamp ht] at q
theorem v178_70L (d : Nat) (a0 : Nat) (a1 : Int32) (n t s x2 x4 : Nat) (m : zMem) (hn : n < 2 ^ 31) (ht : t < 2 ^ 31) (hs : s < 2 ^ 31) (ha : s + n ≤ (memK m x4).2) (hb : t + n ≤ (memK m x2).2) (hka : (memK m x4).1 = 2) (hkb : (memK m x2).1 = 2) : run (d + 1) 178 70 [.ref a0, .int a1] [.int (nI n), .int (nI t), .ref x2, .int (nI s), .ref x4] m = run (d + 1) 178 73 [.ref a0, .int a1] [] (rowL m x2 (va_cpy (memL m x4) (memL m x2) s t n)) := by
  have q := u178_70L d a0 a1 (nI n) (nI t) x2 (nI s) x4 m ⟨nI_pos hs, nI_pos ht, nI_pos hn⟩ (by rw [nI_clamp hs, nI_clamp hn]; exact ha) (by rw [nI_clamp ht, nI_clamp hn]; exact hb) hka hkb
  rwa [nI_clamp hs, nI_clamp hn, nI_clamp ht] at q
/-! Rows of memory that are written one by one -/
theorem u2_u1 {α : Type} (f : Nat → Nat → α) (a i : Nat) (g : Nat → α) (v : α) : u2 (u1 f a g) a i v = u1 f a (fun j => if j = i then v else g j) := by
  funext b j
  unfold u2 u1
  by_cases h : b = a
  · by_cases h2 : j = i
    · rw [if_pos ⟨h, h2⟩, if_pos h]; exact (if_pos h2).symm
    · rw [if_neg (fun q => h2 q.2), if_pos h, if_pos h]; exact (if_neg h2).symm
  · rw [if_neg (fun q => h q.1), if_neg h, if_neg h]
theorem u1_id {α : Type} (f : Nat → Nat → α) (a : Nat) : u1 f a (f a) = f := by
  funext b j
  unfold u1
  by_cases h : b = a
  · rw [if_pos h, h]
  · rw [if_neg h]
theorem u1_u1 {α : Type} (f : Nat → Nat → α) (a : Nat) (g h : Nat → α) : u1 (u1 f a g) a h = u1 f a h := by
  funext b j
  unfold u1
  by_cases e : b = a
  · rw [if_pos e, if_pos e]
  · rw [if_neg e, if_neg e, if_neg e]
theorem u2_id {α : Type} (f : Nat → Nat → α) (a k : Nat) (v : α) (h : f a k = v) : u2 f a k v = f := by
  funext b j
  unfold u2
  by_cases e : b = a ∧ j = k
  · rw [if_pos e, e.1, e.2, h]
  · rw [if_neg e]
theorem setI_rowI (m : zMem) (a i : Nat) (g : Nat → Int32) (v : Int32) : setI (rowI m a g) a i v = rowI m a (fun j => if j = i then v else g j) := by
  unfold setI rowI
  dsimp only
  rw [u2_u1]
theorem setL_rowL (m : zMem) (a i : Nat) (g : Nat → Int64) (v : Int64) : setL (rowL m a g) a i v = rowL m a (fun j => if j = i then v else g j) := by
  unfold setL rowL
  dsimp only
  rw [u2_u1]
theorem rowI_id (m : zMem) (a : Nat) : rowI m a (memI m a) = m := by
  show (m.1, m.2.1, m.2.2.1, u1 m.2.2.2.1 a (m.2.2.2.1 a), m.2.2.2.2.1, m.2.2.2.2.2) = m
  rw [u1_id]
theorem rowL_id (m : zMem) (a : Nat) : rowL m a (memL m a) = m := by
  show (m.1, m.2.1, m.2.2.1, m.2.2.2.1, u1 m.2.2.2.2.1 a (m.2.2.2.2.1 a), m.2.2.2.2.2) = m
  rw [u1_id]
theorem setI_id (m : zMem) (a k : Nat) (v : Int32) (h : memI m a k = v) : setI m a k v = m := by
  show (m.1, m.2.1, m.2.2.1, u2 m.2.2.2.1 a k v, m.2.2.2.2.1, m.2.2.2.2.2) = m
  rw [u2_id m.2.2.2.1 a k v h]
theorem setL_id (m : zMem) (a k : Nat) (v : Int64) (h : memL m a k = v) : setL m a k v = m := by
  show (m.1, m.2.1, m.2.2.1, m.2.2.2.1, u2 m.2.2.2.2.1 a k v, m.2.2.2.2.2) = m
  rw [u2_id m.2.2.2.2.1 a k v h]
theorem rowI_ext (m : zMem) (a : Nat) {g h : Nat → Int32} (e : ∀ j, g j = h j) : rowI m a g = rowI m a h := by rw [show g = h from funext e]
theorem rowL_ext (m : zMem) (a : Nat) {g h : Nat → Int64} (e : ∀ j, g j = h j) : rowL m a g = rowL m a h := by rw [show g = h from funext e]
