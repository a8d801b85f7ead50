/-! THE PURE PART. The relation between the class and the reference -/
def shKl : List (Nat × Nat) := [(111, 19), (5, 4), (3, 900), (103, 18), (1, 7), (1, 7), (1, 7), (2, 7), (1, 6), (1, 6), (1, 6), (1, 6), (1, 6), (2, 6), (7, 6), (1, 7), (1, 7), (1, 7), (1, 7), (1, 7), (1, 7), (1, 6), (108, 10), (1, 61), (1, 61), (1, 61), (1, 61), (1, 61), (1, 61), (1, 61), (103, 18), (1, 7), (1, 7), (1, 7), (2, 7), (1, 6), (1, 6), (1, 6), (1, 6), (1, 6), (2, 6), (7, 6), (1, 7), (1, 7), (1, 7), (1, 7), (1, 7), (1, 7), (1, 6), (108, 10), (1, 61), (1, 61), (1, 61), (1, 61), (1, 61), (1, 61), (1, 61), (6, 3), (104, 3), (109, 15), (2, 21), (3, 0), (100, 3), (109, 15), (2, 21), (3, 0), (1, 3), (105, 4), (1, 61), (1, 5), (106, 9), (1, 7), (1, 128), (1, 128), (107, 5), (1, 128), (1, 7), (1, 421), (1, 128), (102, 3), (1, 6), (7, 7), (1, 128), (1, 128), (1, 128), (1, 128), (1, 128), (1, 128), (1, 128), (101, 2), (1, 5), (110, 4), (2, 60), (110, 4), (2, 60), (110, 4), (2, 60), (110, 4), (2, 60), (103, 18), (1, 7), (1, 7), (1, 7), (2, 7), (1, 6), (1, 6), (1, 6), (1, 6), (1, 6), (2, 6), (7, 6), (1, 7), (1, 7), (1, 7), (1, 7), (1, 7), (1, 7), (1, 6), (108, 10), (1, 61), (1, 61), (1, 61), (1, 61), (1, 61), (1, 61), (1, 61), (103, 18), (1, 7), (1, 7), (1, 7), (2, 7), (1, 6), (1, 6), (1, 6), (1, 6), (1, 6), (2, 6), (7, 6), (1, 7), (1, 7), (1, 7), (1, 7), (1, 7), (1, 7), (1, 6), (108, 10), (1, 61), (1, 61), (1, 61), (1, 61), (1, 61), (1, 61), (1, 61), (103, 18), (1, 7), (1, 7), (1, 7), (2, 7), (1, 6), (1, 6), (1, 6), (1, 6), (1, 6), (2, 6), (7, 6), (1, 7), (1, 7), (1, 7), (1, 7), (1, 7), (1, 7), (1, 6), (108, 10), (1, 61), (1, 61), (1, 61), (1, 61), (1, 61), (1, 61), (1, 61), (112, 44), (1, 4), (1, 4), (2, 240), (3, 900), (1, 1850), (1, 98), (2, 65), (4, 128), (1, 421), (1, 6), (2, 8), (1, 5)]
def shK (a : Nat) : Nat × Nat := shKl.getD a (0, 0)
def shRl : List ((Nat × Nat) × Nat) := [((0, 0), 1), ((0, 1), 2), ((0, 2), 3), ((0, 3), 30), ((0, 4), 57), ((0, 5), 58), ((0, 6), 62), ((0, 7), 67), ((0, 8), 70), ((0, 9), 74), ((0, 10), 79), ((0, 11), 89), ((0, 12), 90), ((1, 0), 91), ((1, 1), 93), ((1, 2), 95), ((1, 3), 97), ((3, 0), 4), ((3, 1), 5), ((3, 2), 6), ((3, 3), 7), ((3, 4), 8), ((3, 5), 9), ((3, 6), 10), ((3, 7), 11), ((3, 8), 12), ((3, 9), 13), ((3, 10), 14), ((3, 11), 21), ((3, 12), 22), ((14, 0), 15), ((14, 1), 16), ((14, 2), 17), ((14, 3), 18), ((14, 4), 19), ((14, 5), 20), ((22, 0), 23), ((22, 1), 24), ((22, 2), 25), ((22, 3), 26), ((22, 4), 27), ((22, 5), 28), ((22, 6), 29), ((30, 0), 31), ((30, 1), 32), ((30, 2), 33), ((30, 3), 34), ((30, 4), 35), ((30, 5), 36), ((30, 6), 37), ((30, 7), 38), ((30, 8), 39), ((30, 9), 40), ((30, 10), 41), ((30, 11), 48), ((30, 12), 49), ((41, 0), 42), ((41, 1), 43), ((41, 2), 44), ((41, 3), 45), ((41, 4), 46), ((41, 5), 47), ((49, 0), 50), ((49, 1), 51), ((49, 2), 52), ((49, 3), 53), ((49, 4), 54), ((49, 5), 55), ((49, 6), 56), ((57, 0), 99), ((57, 1), 126), ((57, 2), 153), ((58, 0), 59), ((59, 0), 60), ((62, 0), 63), ((62, 1), 66), ((63, 0), 64), ((67, 0), 68), ((67, 1), 69), ((70, 0), 71), ((70, 1), 72), ((70, 2), 73), ((74, 0), 75), ((74, 1), 76), ((74, 2), 77), ((74, 3), 78), ((79, 0), 80), ((79, 1), 81), ((81, 0), 82), ((81, 1), 83), ((81, 2), 84), ((81, 3), 85), ((81, 4), 86), ((81, 5), 87), ((81, 6), 88), ((91, 0), 92), ((93, 0), 94), ((95, 0), 96), ((97, 0), 98), ((99, 0), 100), ((99, 1), 101), ((99, 2), 102), ((99, 3), 103), ((99, 4), 104), ((99, 5), 105), ((99, 6), 106), ((99, 7), 107), ((99, 8), 108), ((99, 9), 109), ((99, 10), 110), ((99, 11), 117), ((99, 12), 118), ((110, 0), 111), ((110, 1), 112), ((110, 2), 113), ((110, 3), 114), ((110, 4), 115), ((110, 5), 116), ((118, 0), 119), ((118, 1), 120), ((118, 2), 121), ((118, 3), 122), ((118, 4), 123), ((118, 5), 124), ((118, 6), 125), ((126, 0), 127), ((126, 1), 128), ((126, 2), 129), ((126, 3), 130), ((126, 4), 131), ((126, 5), 132), ((126, 6), 133), ((126, 7), 134), ((126, 8), 135), ((126, 9), 136), ((126, 10), 137), ((126, 11), 144), ((126, 12), 145), ((137, 0), 138), ((137, 1), 139), ((137, 2), 140), ((137, 3), 141), ((137, 4), 142), ((137, 5), 143), ((145, 0), 146), ((145, 1), 147), ((145, 2), 148), ((145, 3), 149), ((145, 4), 150), ((145, 5), 151), ((145, 6), 152), ((153, 0), 154), ((153, 1), 155), ((153, 2), 156), ((153, 3), 157), ((153, 4), 158), ((153, 5), 159), ((153, 6), 160), ((153, 7), 161), ((153, 8), 162), ((153, 9), 163), ((153, 10), 164), ((153, 11), 171), ((153, 12), 172), ((164, 0), 165), ((164, 1), 166), ((164, 2), 167), ((164, 3), 168), ((164, 4), 169), ((164, 5), 170), ((172, 0), 173), ((172, 1), 174), ((172, 2), 175), ((172, 3), 176), ((172, 4), 177), ((172, 5), 178), ((172, 6), 179), ((180, 4), 181), ((180, 5), 182), ((180, 6), 183), ((180, 7), 184), ((180, 20), 185), ((180, 21), 186), ((180, 22), 187), ((180, 29), 188), ((180, 30), 189), ((180, 31), 190), ((180, 33), 191), ((180, 34), 192)]
def shR (a j : Nat) : Option Nat := shRl.lookup (a, j)
/-- which cells there are, and what they refer to: it never changes, but for the text of the two Tokens -/
def Shp (m : zMem) : Prop := memK m = shK ∧ ∀ a j, j ≠ 1 ∨ (a ≠ 59 ∧ a ≠ 63) → memR m a j = shR a j
theorem Shp.k {m : zMem} (h : Shp m) (a : Nat) (q : Nat × Nat) (e : shK a = q) : memK m a = q := by rw [h.1]; exact e
theorem Shp.r {m : zMem} (h : Shp m) (a j : Nat) (q : Nat) (hc : j ≠ 1 ∨ (a ≠ 59 ∧ a ≠ 63)) (e : shR a j = some q) : memR m a j = some q := by rw [h.2 a j hc]; exact e
theorem Shp_setI (m : zMem) (c k : Nat) (v : Int32) : Shp (setI m c k v) = Shp m := rfl
theorem Shp_setL (m : zMem) (c k : Nat) (v : Int64) : Shp (setL m c k v) = Shp m := rfl
theorem Shp_rowI (m : zMem) (c : Nat) (g : Nat → Int32) : Shp (rowI m c g) = Shp m := rfl
theorem Shp_rowL (m : zMem) (c : Nat) (g : Nat → Int64) : Shp (rowL m c g) = Shp m := rfl
theorem LandS_setI (m : zMem) (c k : Nat) (v : Int32) (a : Nat) : LandS (setI m c k v) a = LandS m a := rfl
theorem LandS_setL (m : zMem) (c k : Nat) (v : Int64) (a : Nat) : LandS (setL m c k v) a = LandS m a := rfl
theorem LandS_rowI (m : zMem) (c : Nat) (g : Nat → Int32) (a : Nat) : LandS (rowI m c g) a = LandS m a := rfl
theorem LandS_rowL (m : zMem) (c : Nat) (g : Nat → Int64) (a : Nat) : LandS (rowL m c g) a = LandS m a := rfl
theorem ModS_setI (m : zMem) (c k : Nat) (v : Int32) : ModS (setI m c k v) = ModS m := rfl
theorem ModS_setL (m : zMem) (c k : Nat) (v : Int64) : ModS (setL m c k v) = ModS m := rfl
theorem ModS_rowI (m : zMem) (c : Nat) (g : Nat → Int32) : ModS (rowI m c g) = ModS m := rfl
theorem ModS_rowL (m : zMem) (c : Nat) (g : Nat → Int64) : ModS (rowL m c g) = ModS m := rfl
theorem zlk_3 : ∀ p, p < 6 → shK (3 + 12 + p) = (1, 7) := by decide +kernel
theorem zlr_3 : ∀ p, p < 6 → shR (3 + 11) p = some (3 + 12 + p) := by decide +kernel
theorem Shp.land3 {m : zMem} (h : Shp m) : LandS m 3 := ⟨h.k 3 _ (by decide +kernel), h.k 4 _ (by decide +kernel), h.k 5 _ (by decide +kernel), h.k 6 _ (by decide +kernel), h.k 7 _ (by decide +kernel), h.k 8 _ (by decide +kernel), h.k 9 _ (by decide +kernel), h.k 10 _ (by decide +kernel), h.k 11 _ (by decide +kernel), h.k 12 _ (by decide +kernel), h.k 13 _ (by decide +kernel), h.k 14 _ (by decide +kernel), (fun p hp => (show ∀ p, p < 6 → memK m (3 + 12 + p) = (1, 7) from fun p hp => by rw [h.1]; exact zlk_3 p hp) p hp), h.k 21 _ (by decide +kernel), h.k 22 _ (by decide +kernel), h.k 23 _ (by decide +kernel), h.k 24 _ (by decide +kernel), h.k 25 _ (by decide +kernel), h.k 26 _ (by decide +kernel), h.k 27 _ (by decide +kernel), h.k 28 _ (by decide +kernel), h.k 29 _ (by decide +kernel), h.r 3 0 _ (by omega) (by decide +kernel), h.r 3 1 _ (by omega) (by decide +kernel), h.r 3 2 _ (by omega) (by decide +kernel), h.r 3 3 _ (by omega) (by decide +kernel), h.r 3 4 _ (by omega) (by decide +kernel), h.r 3 5 _ (by omega) (by decide +kernel), h.r 3 6 _ (by omega) (by decide +kernel), h.r 3 7 _ (by omega) (by decide +kernel), h.r 3 8 _ (by omega) (by decide +kernel), h.r 3 9 _ (by omega) (by decide +kernel), h.r 3 10 _ (by omega) (by decide +kernel), h.r 3 11 _ (by omega) (by decide +kernel), h.r 3 12 _ (by omega) (by decide +kernel), (fun p hp => by rw [h.2 _ _ (Or.inr (by omega))]; exact zlr_3 p hp), h.r 22 0 _ (by omega) (by decide +kernel), h.r 22 1 _ (by omega) (by decide +kernel), h.r 22 2 _ (by omega) (by decide +kernel), h.r 22 3 _ (by omega) (by decide +kernel), h.r 22 4 _ (by omega) (by decide +kernel), h.r 22 5 _ (by omega) (by decide +kernel), h.r 22 6 _ (by omega) (by decide +kernel)⟩
theorem zlk_30 : ∀ p, p < 6 → shK (30 + 12 + p) = (1, 7) := by decide +kernel
theorem zlr_30 : ∀ p, p < 6 → shR (30 + 11) p = some (30 + 12 + p) := by decide +kernel
theorem Shp.land30 {m : zMem} (h : Shp m) : LandS m 30 := ⟨h.k 30 _ (by decide +kernel), h.k 31 _ (by decide +kernel), h.k 32 _ (by decide +kernel), h.k 33 _ (by decide +kernel), h.k 34 _ (by decide +kernel), h.k 35 _ (by decide +kernel), h.k 36 _ (by decide +kernel), h.k 37 _ (by decide +kernel), h.k 38 _ (by decide +kernel), h.k 39 _ (by decide +kernel), h.k 40 _ (by decide +kernel), h.k 41 _ (by decide +kernel), (fun p hp => (show ∀ p, p < 6 → memK m (30 + 12 + p) = (1, 7) from fun p hp => by rw [h.1]; exact zlk_30 p hp) p hp), h.k 48 _ (by decide +kernel), h.k 49 _ (by decide +kernel), h.k 50 _ (by decide +kernel), h.k 51 _ (by decide +kernel), h.k 52 _ (by decide +kernel), h.k 53 _ (by decide +kernel), h.k 54 _ (by decide +kernel), h.k 55 _ (by decide +kernel), h.k 56 _ (by decide +kernel), h.r 30 0 _ (by omega) (by decide +kernel), h.r 30 1 _ (by omega) (by decide +kernel), h.r 30 2 _ (by omega) (by decide +kernel), h.r 30 3 _ (by omega) (by decide +kernel), h.r 30 4 _ (by omega) (by decide +kernel), h.r 30 5 _ (by omega) (by decide +kernel), h.r 30 6 _ (by omega) (by decide +kernel), h.r 30 7 _ (by omega) (by decide +kernel), h.r 30 8 _ (by omega) (by decide +kernel), h.r 30 9 _ (by omega) (by decide +kernel), h.r 30 10 _ (by omega) (by decide +kernel), h.r 30 11 _ (by omega) (by decide +kernel), h.r 30 12 _ (by omega) (by decide +kernel), (fun p hp => by rw [h.2 _ _ (Or.inr (by omega))]; exact zlr_30 p hp), h.r 49 0 _ (by omega) (by decide +kernel), h.r 49 1 _ (by omega) (by decide +kernel), h.r 49 2 _ (by omega) (by decide +kernel), h.r 49 3 _ (by omega) (by decide +kernel), h.r 49 4 _ (by omega) (by decide +kernel), h.r 49 5 _ (by omega) (by decide +kernel), h.r 49 6 _ (by omega) (by decide +kernel)⟩
theorem zlk_99 : ∀ p, p < 6 → shK (99 + 12 + p) = (1, 7) := by decide +kernel
theorem zlr_99 : ∀ p, p < 6 → shR (99 + 11) p = some (99 + 12 + p) := by decide +kernel
theorem Shp.land99 {m : zMem} (h : Shp m) : LandS m 99 := ⟨h.k 99 _ (by decide +kernel), h.k 100 _ (by decide +kernel), h.k 101 _ (by decide +kernel), h.k 102 _ (by decide +kernel), h.k 103 _ (by decide +kernel), h.k 104 _ (by decide +kernel), h.k 105 _ (by decide +kernel), h.k 106 _ (by decide +kernel), h.k 107 _ (by decide +kernel), h.k 108 _ (by decide +kernel), h.k 109 _ (by decide +kernel), h.k 110 _ (by decide +kernel), (fun p hp => (show ∀ p, p < 6 → memK m (99 + 12 + p) = (1, 7) from fun p hp => by rw [h.1]; exact zlk_99 p hp) p hp), h.k 117 _ (by decide +kernel), h.k 118 _ (by decide +kernel), h.k 119 _ (by decide +kernel), h.k 120 _ (by decide +kernel), h.k 121 _ (by decide +kernel), h.k 122 _ (by decide +kernel), h.k 123 _ (by decide +kernel), h.k 124 _ (by decide +kernel), h.k 125 _ (by decide +kernel), h.r 99 0 _ (by omega) (by decide +kernel), h.r 99 1 _ (by omega) (by decide +kernel), h.r 99 2 _ (by omega) (by decide +kernel), h.r 99 3 _ (by omega) (by decide +kernel), h.r 99 4 _ (by omega) (by decide +kernel), h.r 99 5 _ (by omega) (by decide +kernel), h.r 99 6 _ (by omega) (by decide +kernel), h.r 99 7 _ (by omega) (by decide +kernel), h.r 99 8 _ (by omega) (by decide +kernel), h.r 99 9 _ (by omega) (by decide +kernel), h.r 99 10 _ (by omega) (by decide +kernel), h.r 99 11 _ (by omega) (by decide +kernel), h.r 99 12 _ (by omega) (by decide +kernel), (fun p hp => by rw [h.2 _ _ (Or.inr (by omega))]; exact zlr_99 p hp), h.r 118 0 _ (by omega) (by decide +kernel), h.r 118 1 _ (by omega) (by decide +kernel), h.r 118 2 _ (by omega) (by decide +kernel), h.r 118 3 _ (by omega) (by decide +kernel), h.r 118 4 _ (by omega) (by decide +kernel), h.r 118 5 _ (by omega) (by decide +kernel), h.r 118 6 _ (by omega) (by decide +kernel)⟩
theorem zlk_126 : ∀ p, p < 6 → shK (126 + 12 + p) = (1, 7) := by decide +kernel
theorem zlr_126 : ∀ p, p < 6 → shR (126 + 11) p = some (126 + 12 + p) := by decide +kernel
theorem Shp.land126 {m : zMem} (h : Shp m) : LandS m 126 := ⟨h.k 126 _ (by decide +kernel), h.k 127 _ (by decide +kernel), h.k 128 _ (by decide +kernel), h.k 129 _ (by decide +kernel), h.k 130 _ (by decide +kernel), h.k 131 _ (by decide +kernel), h.k 132 _ (by decide +kernel), h.k 133 _ (by decide +kernel), h.k 134 _ (by decide +kernel), h.k 135 _ (by decide +kernel), h.k 136 _ (by decide +kernel), h.k 137 _ (by decide +kernel), (fun p hp => (show ∀ p, p < 6 → memK m (126 + 12 + p) = (1, 7) from fun p hp => by rw [h.1]; exact zlk_126 p hp) p hp), h.k 144 _ (by decide +kernel), h.k 145 _ (by decide +kernel), h.k 146 _ (by decide +kernel), h.k 147 _ (by decide +kernel), h.k 148 _ (by decide +kernel), h.k 149 _ (by decide +kernel), h.k 150 _ (by decide +kernel), h.k 151 _ (by decide +kernel), h.k 152 _ (by decide +kernel), h.r 126 0 _ (by omega) (by decide +kernel), h.r 126 1 _ (by omega) (by decide +kernel), h.r 126 2 _ (by omega) (by decide +kernel), h.r 126 3 _ (by omega) (by decide +kernel), h.r 126 4 _ (by omega) (by decide +kernel), h.r 126 5 _ (by omega) (by decide +kernel), h.r 126 6 _ (by omega) (by decide +kernel), h.r 126 7 _ (by omega) (by decide +kernel), h.r 126 8 _ (by omega) (by decide +kernel), h.r 126 9 _ (by omega) (by decide +kernel), h.r 126 10 _ (by omega) (by decide +kernel), h.r 126 11 _ (by omega) (by decide +kernel), h.r 126 12 _ (by omega) (by decide +kernel), (fun p hp => by rw [h.2 _ _ (Or.inr (by omega))]; exact zlr_126 p hp), h.r 145 0 _ (by omega) (by decide +kernel), h.r 145 1 _ (by omega) (by decide +kernel), h.r 145 2 _ (by omega) (by decide +kernel), h.r 145 3 _ (by omega) (by decide +kernel), h.r 145 4 _ (by omega) (by decide +kernel), h.r 145 5 _ (by omega) (by decide +kernel), h.r 145 6 _ (by omega) (by decide +kernel)⟩
theorem zlk_153 : ∀ p, p < 6 → shK (153 + 12 + p) = (1, 7) := by decide +kernel
theorem zlr_153 : ∀ p, p < 6 → shR (153 + 11) p = some (153 + 12 + p) := by decide +kernel
theorem Shp.land153 {m : zMem} (h : Shp m) : LandS m 153 := ⟨h.k 153 _ (by decide +kernel), h.k 154 _ (by decide +kernel), h.k 155 _ (by decide +kernel), h.k 156 _ (by decide +kernel), h.k 157 _ (by decide +kernel), h.k 158 _ (by decide +kernel), h.k 159 _ (by decide +kernel), h.k 160 _ (by decide +kernel), h.k 161 _ (by decide +kernel), h.k 162 _ (by decide +kernel), h.k 163 _ (by decide +kernel), h.k 164 _ (by decide +kernel), (fun p hp => (show ∀ p, p < 6 → memK m (153 + 12 + p) = (1, 7) from fun p hp => by rw [h.1]; exact zlk_153 p hp) p hp), h.k 171 _ (by decide +kernel), h.k 172 _ (by decide +kernel), h.k 173 _ (by decide +kernel), h.k 174 _ (by decide +kernel), h.k 175 _ (by decide +kernel), h.k 176 _ (by decide +kernel), h.k 177 _ (by decide +kernel), h.k 178 _ (by decide +kernel), h.k 179 _ (by decide +kernel), h.r 153 0 _ (by omega) (by decide +kernel), h.r 153 1 _ (by omega) (by decide +kernel), h.r 153 2 _ (by omega) (by decide +kernel), h.r 153 3 _ (by omega) (by decide +kernel), h.r 153 4 _ (by omega) (by decide +kernel), h.r 153 5 _ (by omega) (by decide +kernel), h.r 153 6 _ (by omega) (by decide +kernel), h.r 153 7 _ (by omega) (by decide +kernel), h.r 153 8 _ (by omega) (by decide +kernel), h.r 153 9 _ (by omega) (by decide +kernel), h.r 153 10 _ (by omega) (by decide +kernel), h.r 153 11 _ (by omega) (by decide +kernel), h.r 153 12 _ (by omega) (by decide +kernel), (fun p hp => by rw [h.2 _ _ (Or.inr (by omega))]; exact zlr_153 p hp), h.r 172 0 _ (by omega) (by decide +kernel), h.r 172 1 _ (by omega) (by decide +kernel), h.r 172 2 _ (by omega) (by decide +kernel), h.r 172 3 _ (by omega) (by decide +kernel), h.r 172 4 _ (by omega) (by decide +kernel), h.r 172 5 _ (by omega) (by decide +kernel), h.r 172 6 _ (by omega) (by decide +kernel)⟩
theorem Shp.mod {m : zMem} (h : Shp m) : ModS m := ⟨h.k 180 _ (by decide +kernel), h.k 181 _ (by decide +kernel), h.k 182 _ (by decide +kernel), h.k 183 _ (by decide +kernel), h.k 184 _ (by decide +kernel), h.k 185 _ (by decide +kernel), h.k 186 _ (by decide +kernel), h.k 187 _ (by decide +kernel), h.k 188 _ (by decide +kernel), h.k 189 _ (by decide +kernel), h.k 190 _ (by decide +kernel), h.k 191 _ (by decide +kernel), h.k 192 _ (by decide +kernel), h.r 180 4 _ (by omega) (by decide +kernel), h.r 180 5 _ (by omega) (by decide +kernel), h.r 180 6 _ (by omega) (by decide +kernel), h.r 180 7 _ (by omega) (by decide +kernel), h.r 180 20 _ (by omega) (by decide +kernel), h.r 180 21 _ (by omega) (by decide +kernel), h.r 180 22 _ (by omega) (by decide +kernel), h.r 180 29 _ (by omega) (by decide +kernel), h.r 180 30 _ (by omega) (by decide +kernel), h.r 180 31 _ (by omega) (by decide +kernel), h.r 180 33 _ (by omega) (by decide +kernel), h.r 180 34 _ (by omega) (by decide +kernel)⟩
def ClsS (m : zMem) : Prop := memK m 0 = (111, 19) ∧ memK m 1 = (5, 4) ∧ memK m 2 = (3, 900) ∧ memK m 57 = (6, 3) ∧ memK m 58 = (104, 3) ∧ memK m 59 = (109, 15) ∧ memK m 60 = (2, 21) ∧ memK m 62 = (100, 3) ∧ memK m 63 = (109, 15) ∧ memK m 64 = (2, 21) ∧ memK m 66 = (1, 3) ∧ memK m 67 = (105, 4) ∧ memK m 68 = (1, 61) ∧ memK m 69 = (1, 5) ∧ memK m 70 = (106, 9) ∧ memK m 71 = (1, 7) ∧ memK m 72 = (1, 128) ∧ memK m 73 = (1, 128) ∧ memK m 74 = (107, 5) ∧ memK m 75 = (1, 128) ∧ memK m 76 = (1, 7) ∧ memK m 77 = (1, 421) ∧ memK m 78 = (1, 128) ∧ memK m 79 = (102, 3) ∧ memK m 80 = (1, 6) ∧ memK m 81 = (7, 7) ∧ memK m 89 = (101, 2) ∧ memK m 90 = (1, 5) ∧ memR m 0 0 = some 1 ∧ memR m 0 1 = some 2 ∧ memR m 0 2 = some 3 ∧ memR m 0 3 = some 30 ∧ memR m 0 4 = some 57 ∧ memR m 0 5 = some 58 ∧ memR m 0 6 = some 62 ∧ memR m 0 7 = some 67 ∧ memR m 0 8 = some 70 ∧ memR m 0 9 = some 74 ∧ memR m 0 10 = some 79 ∧ memR m 0 11 = some 89 ∧ memR m 0 12 = some 90 ∧ memR m 58 0 = some 59 ∧ memR m 59 0 = some 60 ∧ memR m 62 0 = some 63 ∧ memR m 62 1 = some 66 ∧ memR m 63 0 = some 64 ∧ memR m 67 0 = some 68 ∧ memR m 67 1 = some 69 ∧ memR m 70 0 = some 71 ∧ memR m 70 1 = some 72 ∧ memR m 70 2 = some 73 ∧ memR m 74 0 = some 75 ∧ memR m 74 1 = some 76 ∧ memR m 74 2 = some 77 ∧ memR m 74 3 = some 78 ∧ memR m 79 0 = some 80 ∧ memR m 79 1 = some 81 ∧ (∀ p, p < 7 → memR m 81 p = some (82 + p)) ∧ (∀ p, p < 7 → memK m (82 + p) = (1, 128)) ∧ (∀ t, t < 4 → memR m 1 t = some (91 + 2 * t)) ∧ (∀ t, t < 4 → memK m (91 + 2 * t) = (110, 4)) ∧ (∀ t, t < 4 → memR m (91 + 2 * t) 0 = some (92 + 2 * t)) ∧ (∀ t, t < 4 → memK m (92 + 2 * t) = (2, 60)) ∧ (∀ i, i < 3 → memR m 57 i = some (99 + 27 * i))
theorem zcl_a : ∀ p, p < 7 → shR 81 p = some (82 + p) := by decide +kernel
theorem zcl_b : ∀ p, p < 7 → shK (82 + p) = (1, 128) := by decide +kernel
theorem zcl_c : ∀ t, t < 4 → shR 1 t = some (91 + 2 * t) := by decide +kernel
theorem zcl_d : ∀ t, t < 4 → shK (91 + 2 * t) = (110, 4) := by decide +kernel
theorem zcl_e : ∀ t, t < 4 → shR (91 + 2 * t) 0 = some (92 + 2 * t) := by decide +kernel
theorem zcl_f : ∀ t, t < 4 → shK (92 + 2 * t) = (2, 60) := by decide +kernel
theorem zcl_g : ∀ i, i < 3 → shR 57 i = some (99 + 27 * i) := by decide +kernel
theorem Shp.cls {m : zMem} (h : Shp m) : ClsS m := ⟨h.k 0 _ (by decide +kernel), h.k 1 _ (by decide +kernel), h.k 2 _ (by decide +kernel), h.k 57 _ (by decide +kernel), h.k 58 _ (by decide +kernel), h.k 59 _ (by decide +kernel), h.k 60 _ (by decide +kernel), h.k 62 _ (by decide +kernel), h.k 63 _ (by decide +kernel), h.k 64 _ (by decide +kernel), h.k 66 _ (by decide +kernel), h.k 67 _ (by decide +kernel), h.k 68 _ (by decide +kernel), h.k 69 _ (by decide +kernel), h.k 70 _ (by decide +kernel), h.k 71 _ (by decide +kernel), h.k 72 _ (by decide +kernel), h.k 73 _ (by decide +kernel), h.k 74 _ (by decide +kernel), h.k 75 _ (by decide +kernel), h.k 76 _ (by decide +kernel), h.k 77 _ (by decide +kernel), h.k 78 _ (by decide +kernel), h.k 79 _ (by decide +kernel), h.k 80 _ (by decide +kernel), h.k 81 _ (by decide +kernel), h.k 89 _ (by decide +kernel), h.k 90 _ (by decide +kernel), h.r 0 0 _ (by omega) (by decide +kernel), h.r 0 1 _ (by omega) (by decide +kernel), h.r 0 2 _ (by omega) (by decide +kernel), h.r 0 3 _ (by omega) (by decide +kernel), h.r 0 4 _ (by omega) (by decide +kernel), h.r 0 5 _ (by omega) (by decide +kernel), h.r 0 6 _ (by omega) (by decide +kernel), h.r 0 7 _ (by omega) (by decide +kernel), h.r 0 8 _ (by omega) (by decide +kernel), h.r 0 9 _ (by omega) (by decide +kernel), h.r 0 10 _ (by omega) (by decide +kernel), h.r 0 11 _ (by omega) (by decide +kernel), h.r 0 12 _ (by omega) (by decide +kernel), h.r 58 0 _ (by omega) (by decide +kernel), h.r 59 0 _ (by omega) (by decide +kernel), h.r 62 0 _ (by omega) (by decide +kernel), h.r 62 1 _ (by omega) (by decide +kernel), h.r 63 0 _ (by omega) (by decide +kernel), h.r 67 0 _ (by omega) (by decide +kernel), h.r 67 1 _ (by omega) (by decide +kernel), h.r 70 0 _ (by omega) (by decide +kernel), h.r 70 1 _ (by omega) (by decide +kernel), h.r 70 2 _ (by omega) (by decide +kernel), h.r 74 0 _ (by omega) (by decide +kernel), h.r 74 1 _ (by omega) (by decide +kernel), h.r 74 2 _ (by omega) (by decide +kernel), h.r 74 3 _ (by omega) (by decide +kernel), h.r 79 0 _ (by omega) (by decide +kernel), h.r 79 1 _ (by omega) (by decide +kernel), (fun p hp => by rw [h.2 _ _ (by omega)]; exact zcl_a p hp), (fun p hp => by rw [h.1]; exact zcl_b p hp), (fun p hp => by rw [h.2 _ _ (by omega)]; exact zcl_c p hp), (fun p hp => by rw [h.1]; exact zcl_d p hp), (fun p hp => by rw [h.2 _ _ (by omega)]; exact zcl_e p hp), (fun p hp => by rw [h.1]; exact zcl_f p hp), (fun p hp => by rw [h.2 _ _ (by omega)]; exact zcl_g p hp)⟩
theorem ClsS_setI (m : zMem) (c k : Nat) (v : Int32) : ClsS (setI m c k v) = ClsS m := rfl
theorem ClsS_setL (m : zMem) (c k : Nat) (v : Int64) : ClsS (setL m c k v) = ClsS m := rfl
theorem ClsS_rowI (m : zMem) (c : Nat) (g : Nat → Int32) : ClsS (rowI m c g) = ClsS m := rfl
theorem ClsS_rowL (m : zMem) (c : Nat) (g : Nat → Int64) : ClsS (rowL m c g) = ClsS m := rfl
/-- a name: its letters as one number, in the class by 27, in the reference by 32; 0 is none -/
def NameR (x y : Int64) : Prop := ∃ w : List Nat, w.length ≤ 8 ∧ (∀ c ∈ w, 1 ≤ c ∧ c ≤ 26) ∧ x = lN (w.foldl (fun s c => 27 * s + c) 0) ∧ y = lN (w.foldl (fun s c => 32 * s + c) 0)
def NamR (m : zMem) (a b : Nat) (f : Nat → Nat) : Prop := (∀ d, d < f 0 → d < 7 → NameR (memL m (a + 4) d) (memL m 187 (13 * b + d))) ∧ (∀ p, p < f 1 → p < 6 → NameR (memL m (a + 10) p) (memL m 187 (13 * b + (7 + p))))
/-- how many of the first l lines are steps -/
def stepsN (K : Nat → Nat) : Nat → Nat := sumN (fun l => if K l = 19 then 0 else 1)
/-- lines l .. e - 1 are whole: whens and loops have their ends there, and stand within each other at most d deep -/
def Seg (K M : Nat → Nat) : Nat → Nat → Nat → Nat → Prop
  | 0, _, l, e => l = e
  | k + 1, d, l, e => l = e ∨ (l < e ∧ (((K l = 16 ∨ K l = 18) ∧ 1 ≤ d ∧ l < M l ∧ M l < e ∧ K (M l) = 19 ∧ M (M l) = l ∧ Seg K M k (d - 1) (l + 1) (M l) ∧ Seg K M k d (M l + 1) e) ∨ (¬ K l = 16 ∧ ¬ K l = 18 ∧ ¬ K l = 19 ∧ Seg K M k d (l + 1) e)))
/-- where a step's own lines end -/
def nxL (K M : Nat → Nat) (l : Nat) : Nat := if K l = 16 ∨ K l = 18 then M l + 1 else l + 1
/-- one line: kind, test, who, what, sign, number; q the reference's nine cells of that step -/
def LineR (f0 f1 : Nat) (K T W X G N M : Nat → Nat) (l : Nat) (q : Nat → Int32) : Prop :=
  q 8 = nI (stepsN K (nxL K M l)) ∧
  ((K l = 12 ∧ q 0 = nI 0 ∧ q 1 = nI (W l) ∧ q 2 = nI (X l) ∧ W l < f1 ∧ X l < f0) ∨
   (K l = 13 ∧ q 0 = nI 1 ∧ q 1 = nI (W l) ∧ q 2 = nI (X l) ∧ W l < f1 ∧ X l < f0) ∨
   (K l = 14 ∧ q 0 = nI 2 ∧ q 1 = nI (N l) ∧ 1 ≤ N l ∧ N l ≤ 20) ∨
   (K l = 3 ∧ q 0 = nI 3 ∧ q 1 = nI (X l) ∧ q 2 = nI (N l) ∧ X l < f0 ∧ N l ≤ 60) ∨
   (K l = 15 ∧ q 0 = nI 4) ∨
   (K l = 16 ∧ q 0 = nI 5 ∧ q 1 = nI (W l) ∧ W l < f1 ∧
     ((T l = 11 ∧ q 5 = nI 0 ∧ q 2 = nI (X l) ∧ X l < f0) ∨
      (T l = 10 ∧ q 5 = nI 1 ∧ q 2 = nI (X l) ∧ X l < f0 ∧ q 7 = nI (G l) ∧ q 6 = nI (N l) ∧ N l ≤ 9999 ∧ (G l = 60 ∨ G l = 61 ∨ G l = 62)) ∨
      (T l = 8 ∧ q 5 = nI 2 ∧ q 7 = nI (G l) ∧ q 6 = nI (N l) ∧ N l ≤ 9999 ∧ (G l = 60 ∨ G l = 61 ∨ G l = 62)) ∨
      (T l = 17 ∧ q 5 = nI 3))) ∨
   (K l = 18 ∧ q 0 = nI 6 ∧ q 1 = nI (N l) ∧ 1 ≤ N l ∧ N l ≤ 99) ∨
   (K l = 20 ∧ q 0 = nI 7))
def ScrR (m : zMem) (a b : Nat) (f : Nat → Nat) : Prop :=
  (memI m (a + 19) 7 = nI 0 ∧ memI m 185 (370 * b + 98) = nI 0 ∧ memI m (a + 19) 8 = nI 0) ∨
  (memI m (a + 19) 7 = nI 1 ∧ memI m 185 (370 * b + 98) = nI 1 ∧ ∃ (n : Nat) (K T W X G N M : Nat → Nat), n ≤ 60 ∧ stepsN K n ≤ 30 ∧ memI m (a + 19) 8 = nI n ∧ memI m (a + 19) 9 = nI (stepsN K n) ∧ memI m 185 (370 * b + 99) = nI (stepsN K n) ∧ Seg K M 61 3 0 n ∧
    ∀ l, l < n → l < 61 → (memI m (a + 20) l = nI (K l) ∧ (K l = 16 → memI m (a + 21) l = nI (T l)) ∧ (¬ K l = 19 → memI m (a + 22) l = nI (W l) ∧ memI m (a + 23) l = nI (X l) ∧ memI m (a + 24) l = nI (G l) ∧ memI m (a + 25) l = nI (N l)) ∧ (K l = 16 ∨ K l = 18 ∨ K l = 19 → memI m (a + 26) l = nI (M l))) ∧
      (¬ K l = 19 → stepsN K l < 30 → LineR (f 0) (f 1) K T W X G N M l (fun j => memI m 185 (370 * b + (100 + 9 * stepsN K l + min j 8)))))
/-- a block of the reference -/
def ModCb (m : zMem) (b : Nat) (f : Nat → Nat) : Prop := ∀ j, j < 98 → memI m 185 (370 * b + j) = nI (f j)
/-- the Land at a, the reference's block b -/
def LPair (m : zMem) (a b : Nat) (f : Nat → Nat) : Prop := LandR m a f ∧ LInv f ∧ ModCb m b f ∧ NamR m a b f ∧ ScrR m a b f
def AgL (m m' : zMem) (a b : Nat) : Prop := (∀ x, a ≤ x → x < a + 27 → x ≠ a + 18 → ∀ j, memI m' x j = memI m x j ∧ memL m' x j = memL m x j) ∧ (∀ j, 370 * b ≤ j → j < 370 * b + 370 → memI m' 185 j = memI m 185 j) ∧ (∀ j, 13 * b ≤ j → j < 13 * b + 13 → memL m' 187 j = memL m 187 j)
theorem LandR.ag {m m' : zMem} {a b : Nat} {f : Nat → Nat} (h : LandR m a f) (h1 : f 1 ≤ 6) (g : AgL m m' a b) : LandR m' a f := by
  have e : ∀ x, a ≤ x → x < a + 27 → x ≠ a + 18 → ∀ j, memI m' x j = memI m x j := fun x h1 h2 h3 j => (g.1 x h1 h2 h3 j).1
  obtain ⟨q1, q2, q3, q4, q5, q6, q7, q8, q9, q10, q11, q12, q13, q14⟩ := h
  refine ⟨?_, ?_, ?_, ?_, ?_, fun d hd => ?_, fun d hd => ?_, fun d hd => ?_, fun d hd => ?_, fun d hd => ?_, fun d hd => ?_, fun d hd => ?_, fun d hd => ?_, fun p hp d hd => ?_⟩
  · rw [e _ (by omega) (by omega) (by omega)]; exact q1
  · rw [e _ (by omega) (by omega) (by omega)]; exact q2
  · rw [e _ (by omega) (by omega) (by omega)]; exact q3
  · rw [e _ (by omega) (by omega) (by omega)]; exact q4
  · rw [e _ (by omega) (by omega) (by omega)]; exact q5
  · rw [e _ (by omega) (by omega) (by omega)]; exact q6 d hd
  · rw [e _ (by omega) (by omega) (by omega)]; exact q7 d hd
  · rw [e _ (by omega) (by omega) (by omega)]; exact q8 d hd
  · rw [e _ (by omega) (by omega) (by omega)]; exact q9 d hd
  · rw [e _ (by omega) (by omega) (by omega)]; exact q10 d hd
  · rw [e _ (by omega) (by omega) (by omega)]; exact q11 d hd
  · rw [e _ (by omega) (by omega) (by omega)]; exact q12 d hd
  · rw [e _ (by omega) (by omega) (by omega)]; exact q13 d hd
  · rw [e _ (by omega) (by omega) (by omega)]; exact q14 p hp d hd
theorem NamR.ag {m m' : zMem} {a b : Nat} {f : Nat → Nat} (h : NamR m a b f) (g : AgL m m' a b) : NamR m' a b f := by
  refine ⟨fun d hd h7 => ?_, fun p hp h6 => ?_⟩
  · rw [(g.1 _ (by omega) (by omega) (by omega) d).2, g.2.2 _ (by omega) (by omega)]; exact h.1 d hd h7
  · rw [(g.1 _ (by omega) (by omega) (by omega) p).2, g.2.2 _ (by omega) (by omega)]; exact h.2 p hp h6
theorem ScrR.ag {m m' : zMem} {a b : Nat} {f f' : Nat → Nat} (h : ScrR m a b f) (hf : f' 0 = f 0 ∧ f' 1 = f 1) (g : AgL m m' a b) : ScrR m' a b f' := by
  have e : ∀ x, a ≤ x → x < a + 27 → x ≠ a + 18 → ∀ j, memI m' x j = memI m x j := fun x h1 h2 h3 j => (g.1 x h1 h2 h3 j).1
  have e2 := g.2.1
  rcases h with ⟨h1, h2, h2b⟩ | ⟨h1, h2, n, K, T, W, X, G, N, M, h3, h4, h5, h6, h7, h8, h9⟩
  · left
    exact ⟨by rw [e _ (by omega) (by omega) (by omega)]; exact h1, by rw [e2 _ (by omega) (by omega)]; exact h2, by rw [e _ (by omega) (by omega) (by omega)]; exact h2b⟩
  · right
    refine ⟨by rw [e _ (by omega) (by omega) (by omega)]; exact h1, by rw [e2 _ (by omega) (by omega)]; exact h2, n, K, T, W, X, G, N, M, h3, h4, by rw [e _ (by omega) (by omega) (by omega)]; exact h5, by rw [e _ (by omega) (by omega) (by omega)]; exact h6, by rw [e2 _ (by omega) (by omega)]; exact h7, h8, fun l hl h61 => ?_⟩
    obtain ⟨⟨a1, a2, a3, a4⟩, a5⟩ := h9 l hl h61
    rw [e (a + 20) (by omega) (by omega) (by omega), e (a + 21) (by omega) (by omega) (by omega), e (a + 22) (by omega) (by omega) (by omega), e (a + 23) (by omega) (by omega) (by omega), e (a + 24) (by omega) (by omega) (by omega), e (a + 25) (by omega) (by omega) (by omega), e (a + 26) (by omega) (by omega) (by omega)]
    refine ⟨⟨a1, a2, a3, a4⟩, fun h19 h30 => ?_⟩
    rw [hf.1, hf.2]
    have a6 := a5 h19 h30
    rw [show (fun j => memI m' 185 (370 * b + (100 + 9 * stepsN K l + min j 8))) = (fun j => memI m 185 (370 * b + (100 + 9 * stepsN K l + min j 8))) from funext fun j => e2 _ (by omega) (by have := Nat.min_le_right j 8; omega)]
    exact a6
theorem LPair.ag {m m' : zMem} {a b : Nat} {f : Nat → Nat} (h : LPair m a b f) (g : AgL m m' a b) : LPair m' a b f :=
  ⟨h.1.ag h.2.1.n1 g, h.2.1, fun j hj => by rw [g.2.1 _ (by omega) (by omega)]; exact h.2.2.1 j hj, h.2.2.2.1.ag g, h.2.2.2.2.ag ⟨rfl, rfl⟩ g⟩
theorem AgL.symm {m m' : zMem} {a b : Nat} (g : AgL m m' a b) : AgL m' m a b := ⟨fun x h1 h2 h3 j => ⟨(g.1 x h1 h2 h3 j).1.symm, (g.1 x h1 h2 h3 j).2.symm⟩, fun j h1 h2 => (g.2.1 j h1 h2).symm, fun j h1 h2 => (g.2.2 j h1 h2).symm⟩
theorem LPair_ag {m m' : zMem} {a b : Nat} {f : Nat → Nat} (g : AgL m m' a b) : LPair m' a b f = LPair m a b f := propext ⟨fun h => h.ag g.symm, fun h => h.ag g⟩
theorem LPair_setI {m : zMem} {a b c k : Nat} {v : Int32} {f : Nat → Nat} (h1 : c < a ∨ a + 27 ≤ c ∨ c = a + 18) (h2 : c ≠ 185) : LPair (setI m c k v) a b f = LPair m a b f :=
  LPair_ag ⟨fun x _ _ _ j => ⟨memI_a _ _ _ _ _ (by omega), rfl⟩, fun j _ _ => memI_a _ _ _ _ _ (by omega), fun j _ _ => rfl⟩
theorem LPair_setI' {m : zMem} {a b k : Nat} {v : Int32} {f : Nat → Nat} (h1 : a + 27 ≤ 185) (h2 : k < 370 * b ∨ 370 * b + 370 ≤ k) : LPair (setI m 185 k v) a b f = LPair m a b f :=
  LPair_ag ⟨fun x _ _ _ j => ⟨memI_a _ _ _ _ _ (by omega), rfl⟩, fun j _ _ => memI_j _ _ _ _ _ (by omega), fun j _ _ => rfl⟩
theorem LPair_setL {m : zMem} {a b c k : Nat} {v : Int64} {f : Nat → Nat} (h1 : c < a ∨ a + 27 ≤ c ∨ c = a + 18) (h2 : c ≠ 187) : LPair (setL m c k v) a b f = LPair m a b f :=
  LPair_ag ⟨fun x _ _ _ j => ⟨rfl, memL_a _ _ _ _ _ (by omega)⟩, fun j _ _ => rfl, fun j _ _ => memL_a _ _ _ _ _ (by omega)⟩
theorem LPair_rowI {m : zMem} {a b c : Nat} {g : Nat → Int32} {f : Nat → Nat} (h1 : c < a ∨ a + 27 ≤ c ∨ c = a + 18) (h2 : c ≠ 185) : LPair (rowI m c g) a b f = LPair m a b f :=
  LPair_ag ⟨fun x _ _ _ j => ⟨memI_ra _ _ _ _ (by omega), rfl⟩, fun j _ _ => memI_ra _ _ _ _ (by omega), fun j _ _ => rfl⟩
theorem LPair_rowL {m : zMem} {a b c : Nat} {g : Nat → Int64} {f : Nat → Nat} (h1 : c < a ∨ a + 27 ≤ c ∨ c = a + 18) (h2 : c ≠ 187) : LPair (rowL m c g) a b f = LPair m a b f :=
  LPair_ag ⟨fun x _ _ _ j => ⟨rfl, memL_ra _ _ _ _ (by omega)⟩, fun j _ _ => rfl, fun j _ _ => memL_ra _ _ _ _ (by omega)⟩
/-- the trays -/
def TrayR (m : zMem) (t : Nat) : Prop :=
  (memI m (91 + 2 * t) 1 = nI 1 ∧ memI m 182 t = mI1) ∨
  (memI m (91 + 2 * t) 1 = nI 0 ∧ ∃ n s : Nat, n ≤ 60 ∧ s ≤ 3 ∧ memI m (91 + 2 * t) 3 = nI n ∧ memI m 182 t = nI n ∧ memI m (91 + 2 * t) 2 = nI s ∧ memI m 181 t = nI s ∧ ∀ j, j < n → memL m (92 + 2 * t) j = memL m 183 (60 * t + j))
def AgT (m m' : zMem) : Prop := (∀ x, 91 ≤ x → x < 99 → ∀ j, memI m' x j = memI m x j ∧ memL m' x j = memL m x j) ∧ (∀ j, memI m' 181 j = memI m 181 j) ∧ (∀ j, memI m' 182 j = memI m 182 j) ∧ ∀ j, memL m' 183 j = memL m 183 j
theorem TrayR.ag {m m' : zMem} {t : Nat} (ht : t < 4) (h : TrayR m t) (g : AgT m m') : TrayR m' t := by
  have e : ∀ x, 91 ≤ x → x < 99 → ∀ j, memI m' x j = memI m x j := fun x h1 h2 j => (g.1 x h1 h2 j).1
  unfold TrayR
  rw [e (91 + 2 * t) (by omega) (by omega) 1, e (91 + 2 * t) (by omega) (by omega) 2, e (91 + 2 * t) (by omega) (by omega) 3, g.2.1, g.2.2.1]
  rcases h with h | ⟨h1, n, s, h2, h3, h4, h5, h6, h7, h8⟩
  · exact Or.inl h
  · exact Or.inr ⟨h1, n, s, h2, h3, h4, h5, h6, h7, fun j hj => by rw [(g.1 _ (by omega) (by omega) j).2, g.2.2.2]; exact h8 j hj⟩
def Trays (m : zMem) : Prop := ∀ t, t < 4 → TrayR m t
theorem Trays.ag {m m' : zMem} (h : Trays m) (g : AgT m m') : Trays m' := fun t ht => (h t ht).ag ht g
theorem AgT.symm {m m' : zMem} (g : AgT m m') : AgT m' m := ⟨fun x h1 h2 j => ⟨(g.1 x h1 h2 j).1.symm, (g.1 x h1 h2 j).2.symm⟩, fun j => (g.2.1 j).symm, fun j => (g.2.2.1 j).symm, fun j => (g.2.2.2 j).symm⟩
theorem Trays_ag {m m' : zMem} (g : AgT m m') : Trays m' = Trays m := propext ⟨fun h => h.ag g.symm, fun h => h.ag g⟩
theorem Trays_setI {m : zMem} {c k : Nat} {v : Int32} (h : (c < 91 ∨ 99 ≤ c) ∧ c ≠ 181 ∧ c ≠ 182) : Trays (setI m c k v) = Trays m :=
  Trays_ag ⟨fun x _ _ j => ⟨memI_a _ _ _ _ _ (by omega), rfl⟩, fun j => memI_a _ _ _ _ _ (by omega), fun j => memI_a _ _ _ _ _ (by omega), fun j => rfl⟩
theorem Trays_setL {m : zMem} {c k : Nat} {v : Int64} (h : (c < 91 ∨ 99 ≤ c) ∧ c ≠ 183) : Trays (setL m c k v) = Trays m :=
  Trays_ag ⟨fun x _ _ j => ⟨rfl, memL_a _ _ _ _ _ (by omega)⟩, fun j => rfl, fun j => rfl, fun j => memL_a _ _ _ _ _ (by omega)⟩
theorem Trays_rowI {m : zMem} {c : Nat} {g : Nat → Int32} (h : (c < 91 ∨ 99 ≤ c) ∧ c ≠ 181 ∧ c ≠ 182) : Trays (rowI m c g) = Trays m :=
  Trays_ag ⟨fun x _ _ j => ⟨memI_ra _ _ _ _ (by omega), rfl⟩, fun j => memI_ra _ _ _ _ (by omega), fun j => memI_ra _ _ _ _ (by omega), fun j => rfl⟩
theorem Trays_rowL {m : zMem} {c : Nat} {g : Nat → Int64} (h : (c < 91 ∨ 99 ≤ c) ∧ c ≠ 183) : Trays (rowL m c g) = Trays m :=
  Trays_ag ⟨fun x _ _ j => ⟨rfl, memL_ra _ _ _ _ (by omega)⟩, fun j => rfl, fun j => rfl, fun j => memL_ra _ _ _ _ (by omega)⟩
/-- the tape -/
def Tape (m : zMem) : Prop := ∃ n : Nat, n ≤ 900 ∧ memI m 0 14 = nI n ∧ memI m 180 8 = nI n ∧ ∀ j, j < n → memI m 2 j = memI m 184 j ∧ (memI m 2 j).toInt8.toInt32 = memI m 2 j
theorem Tape.ag {m m' : zMem} (h : Tape m) (h1 : memI m' 0 14 = memI m 0 14) (h2 : memI m' 180 8 = memI m 180 8) (h3 : ∀ j, memI m' 2 j = memI m 2 j) (h4 : ∀ j, memI m' 184 j = memI m 184 j) : Tape m' := by
  obtain ⟨n, a, b, c, d⟩ := h
  exact ⟨n, a, by rw [h1]; exact b, by rw [h2]; exact c, fun j hj => by rw [h3, h4]; exact d j hj⟩
theorem Tape_ag {m m' : zMem} (h1 : memI m' 0 14 = memI m 0 14) (h2 : memI m' 180 8 = memI m 180 8) (h3 : ∀ j, memI m' 2 j = memI m 2 j) (h4 : ∀ j, memI m' 184 j = memI m 184 j) : Tape m' = Tape m := propext ⟨fun h => h.ag h1.symm h2.symm (fun j => (h3 j).symm) (fun j => (h4 j).symm), fun h => h.ag h1 h2 h3 h4⟩
theorem Tape_setI {m : zMem} {c k : Nat} {v : Int32} (h : (c ≠ 0 ∨ k ≠ 14) ∧ (c ≠ 180 ∨ k ≠ 8) ∧ c ≠ 2 ∧ c ≠ 184) : Tape (setI m c k v) = Tape m :=
  Tape_ag (if_neg (fun q => by omega)) (if_neg (fun q => by omega)) (fun j => memI_a _ _ _ _ _ (by omega)) (fun j => memI_a _ _ _ _ _ (by omega))
theorem Tape_setL {m : zMem} {c k : Nat} {v : Int64} : Tape (setL m c k v) = Tape m := rfl
theorem Tape_rowI {m : zMem} {c : Nat} {g : Nat → Int32} (h : c ≠ 0 ∧ c ≠ 180 ∧ c ≠ 2 ∧ c ≠ 184) : Tape (rowI m c g) = Tape m :=
  Tape_ag (memI_ra _ _ _ _ (by omega)) (memI_ra _ _ _ _ (by omega)) (fun j => memI_ra _ _ _ _ (by omega)) (fun j => memI_ra _ _ _ _ (by omega))
theorem Tape_rowL {m : zMem} {c : Nat} {g : Nat → Int64} : Tape (rowL m c g) = Tape m := rfl
/-- status, fraction, fault -/
def Stat (m : zMem) : Prop := memI m 0 16 = memI m 180 0
def Frac (m : zMem) : Prop := memL m 89 0 = memL m 180 2 ∧ memL m 89 1 = memL m 180 3
def Flt (m : zMem) : Prop := memI m 0 17 = memI m 180 10 ∧ memI m 0 18 = memI m 180 11
def Livd (m : zMem) : Prop := memI m 0 13 = memI m 180 35 ∧ (memI m 0 13 = nI 0 ∨ memI m 0 13 = nI 1) ∧ ∀ j, j < 5 → memI m 90 j = memI m 192 j
theorem Frac_setI {m : zMem} {c k : Nat} {v : Int32} : Frac (setI m c k v) = Frac m := rfl
theorem Frac_rowI {m : zMem} {c : Nat} {g : Nat → Int32} : Frac (rowI m c g) = Frac m := rfl
theorem Frac_setL {m : zMem} {c k : Nat} {v : Int64} (h : c ≠ 89 ∧ (c ≠ 180 ∨ (k ≠ 2 ∧ k ≠ 3))) : Frac (setL m c k v) = Frac m := by
  unfold Frac
  rw [memL_a m c k v 0 (by omega), memL_a m c k v 1 (by omega), show memL (setL m c k v) 180 2 = memL m 180 2 from if_neg (fun q => by omega), show memL (setL m c k v) 180 3 = memL m 180 3 from if_neg (fun q => by omega)]
theorem Frac_rowL {m : zMem} {c : Nat} {g : Nat → Int64} (h : c ≠ 89 ∧ c ≠ 180) : Frac (rowL m c g) = Frac m := by
  unfold Frac
  rw [memL_ra m c g _ (by omega), memL_ra m c g _ (by omega), memL_ra m c g _ (by omega), memL_ra m c g _ (by omega)]
theorem Flt_setI {m : zMem} {c k : Nat} {v : Int32} (h : (c ≠ 0 ∨ (k ≠ 17 ∧ k ≠ 18)) ∧ (c ≠ 180 ∨ (k ≠ 10 ∧ k ≠ 11))) : Flt (setI m c k v) = Flt m := by
  unfold Flt
  rw [show memI (setI m c k v) 0 17 = memI m 0 17 from if_neg (fun q => by omega), show memI (setI m c k v) 0 18 = memI m 0 18 from if_neg (fun q => by omega), show memI (setI m c k v) 180 10 = memI m 180 10 from if_neg (fun q => by omega), show memI (setI m c k v) 180 11 = memI m 180 11 from if_neg (fun q => by omega)]
theorem Flt_setL {m : zMem} {c k : Nat} {v : Int64} : Flt (setL m c k v) = Flt m := rfl
theorem Flt_rowI {m : zMem} {c : Nat} {g : Nat → Int32} (h : c ≠ 0 ∧ c ≠ 180) : Flt (rowI m c g) = Flt m := by
  unfold Flt
  rw [memI_ra m c g _ (by omega), memI_ra m c g _ (by omega), memI_ra m c g _ (by omega), memI_ra m c g _ (by omega)]
theorem Flt_rowL {m : zMem} {c : Nat} {g : Nat → Int64} : Flt (rowL m c g) = Flt m := rfl
theorem Livd_setI {m : zMem} {c k : Nat} {v : Int32} (h : (c ≠ 0 ∨ k ≠ 13) ∧ (c ≠ 180 ∨ k ≠ 35) ∧ c ≠ 90 ∧ c ≠ 192) : Livd (setI m c k v) = Livd m := by
  unfold Livd
  rw [show memI (setI m c k v) 0 13 = memI m 0 13 from if_neg (fun q => by omega), show memI (setI m c k v) 180 35 = memI m 180 35 from if_neg (fun q => by omega), show (∀ j, j < 5 → memI (setI m c k v) 90 j = memI (setI m c k v) 192 j) = (∀ j, j < 5 → memI m 90 j = memI m 192 j) from forall_congr fun j => by rw [memI_a m c k v j (by omega), memI_a m c k v j (by omega)]]
theorem Livd_setL {m : zMem} {c k : Nat} {v : Int64} : Livd (setL m c k v) = Livd m := rfl
theorem Livd_rowI {m : zMem} {c : Nat} {g : Nat → Int32} (h : c ≠ 0 ∧ c ≠ 180 ∧ c ≠ 90 ∧ c ≠ 192) : Livd (rowI m c g) = Livd m := by
  unfold Livd
  rw [memI_ra m c g _ (by omega), memI_ra m c g _ (by omega), show (∀ j, j < 5 → memI (rowI m c g) 90 j = memI (rowI m c g) 192 j) = (∀ j, j < 5 → memI m 90 j = memI m 192 j) from forall_congr fun j => by rw [memI_ra m c g j (by omega), memI_ra m c g j (by omega)]]
theorem Livd_rowL {m : zMem} {c : Nat} {g : Nat → Int64} : Livd (rowL m c g) = Livd m := rfl
/-- the marks -/
def Mrks (m : zMem) : Prop := ∃ k : Nat, k ≤ 3 ∧ memI m 0 15 = nI k ∧ memI m 180 23 = nI k ∧ ∀ i, i < k → ∃ f, LPair m (99 + 27 * i) (i + 1) f
theorem Mrks.ag {m m' : zMem} (h : Mrks m) (h1 : memI m' 0 15 = memI m 0 15) (h2 : memI m' 180 23 = memI m 180 23) (h3 : ∀ i, i < 3 → AgL m m' (99 + 27 * i) (i + 1)) : Mrks m' := by
  obtain ⟨k, a, b, c, d⟩ := h
  refine ⟨k, a, by rw [h1]; exact b, by rw [h2]; exact c, fun i hi => ?_⟩
  obtain ⟨f, hf⟩ := d i hi
  exact ⟨f, hf.ag (h3 i (by omega))⟩
theorem Mrks_ag {m m' : zMem} (h1 : memI m' 0 15 = memI m 0 15) (h2 : memI m' 180 23 = memI m 180 23) (h3 : ∀ i, i < 3 → AgL m m' (99 + 27 * i) (i + 1)) : Mrks m' = Mrks m := propext ⟨fun h => h.ag h1.symm h2.symm (fun i hi => (h3 i hi).symm), fun h => h.ag h1 h2 h3⟩
theorem Mrks_setI {m : zMem} {c k : Nat} {v : Int32} (h : (c ≠ 0 ∨ k ≠ 15) ∧ (c ≠ 180 ∨ k ≠ 23) ∧ (c < 99 ∨ 180 ≤ c) ∧ (c ≠ 185 ∨ k < 370 ∨ 1480 ≤ k)) : Mrks (setI m c k v) = Mrks m :=
  Mrks_ag (if_neg (fun q => by omega)) (if_neg (fun q => by omega)) (fun i hi => ⟨fun x _ _ _ j => ⟨memI_a _ _ _ _ _ (by omega), rfl⟩, fun j _ _ => if_neg (fun q => by omega), fun j _ _ => rfl⟩)
theorem Mrks_setL {m : zMem} {c k : Nat} {v : Int64} (h : (c < 99 ∨ 180 ≤ c) ∧ (c ≠ 187 ∨ k < 13 ∨ 52 ≤ k)) : Mrks (setL m c k v) = Mrks m :=
  Mrks_ag rfl rfl (fun i hi => ⟨fun x _ _ _ j => ⟨rfl, memL_a _ _ _ _ _ (by omega)⟩, fun j _ _ => rfl, fun j _ _ => if_neg (fun q => by omega)⟩)
theorem Mrks_rowI {m : zMem} {c : Nat} {g : Nat → Int32} (h : c ≠ 0 ∧ c ≠ 180 ∧ (c < 99 ∨ 180 ≤ c) ∧ c ≠ 185) : Mrks (rowI m c g) = Mrks m :=
  Mrks_ag (memI_ra _ _ _ _ (by omega)) (memI_ra _ _ _ _ (by omega)) (fun i hi => ⟨fun x _ _ _ j => ⟨memI_ra _ _ _ _ (by omega), rfl⟩, fun j _ _ => memI_ra _ _ _ _ (by omega), fun j _ _ => rfl⟩)
theorem Mrks_rowL {m : zMem} {c : Nat} {g : Nat → Int64} (h : (c < 99 ∨ 180 ≤ c) ∧ c ≠ 187) : Mrks (rowL m c g) = Mrks m :=
  Mrks_ag rfl rfl (fun i hi => ⟨fun x _ _ _ j => ⟨rfl, memL_ra _ _ _ _ (by omega)⟩, fun j _ _ => rfl, fun j _ _ => memL_ra _ _ _ _ (by omega)⟩)
/-- the words -/
def zCodes : List Nat := [298288, 776813, 82516, 355568, 158683, 70517, 8541117, 4562600, 8930039, 453632, 279252, 90050, 388708, 277242005, 495765, 1132, 458690, 312166, 247552, 4027, 388978]
def Wrds (m : zMem) : Prop := (∀ w, w < 21 → memL m 60 w = lN (zCodes.getD w 0)) ∧ ∀ w, w < 21 → memL m 64 w = lN (zCodes.getD w 0)
theorem Wrds_setI {m : zMem} {c k : Nat} {v : Int32} : Wrds (setI m c k v) = Wrds m := rfl
theorem Wrds_rowI {m : zMem} {c : Nat} {g : Nat → Int32} : Wrds (rowI m c g) = Wrds m := rfl
theorem Wrds_setL {m : zMem} {c k : Nat} {v : Int64} (h : c ≠ 60 ∧ c ≠ 64) : Wrds (setL m c k v) = Wrds m := by
  unfold Wrds
  congr 1
  · exact propext ⟨fun q w hw => by rw [← q w hw, memL_a m c k v w (by omega)], fun q w hw => by rw [memL_a m c k v w (by omega)]; exact q w hw⟩
  · exact propext ⟨fun q w hw => by rw [← q w hw, memL_a m c k v w (by omega)], fun q w hw => by rw [memL_a m c k v w (by omega)]; exact q w hw⟩
theorem Wrds_rowL {m : zMem} {c : Nat} {g : Nat → Int64} (h : c ≠ 60 ∧ c ≠ 64) : Wrds (rowL m c g) = Wrds m := by
  unfold Wrds
  congr 1
  · exact propext ⟨fun q w hw => by rw [← q w hw, memL_ra m c g w (by omega)], fun q w hw => by rw [memL_ra m c g w (by omega)]; exact q w hw⟩
  · exact propext ⟨fun q w hw => by rw [← q w hw, memL_ra m c g w (by omega)], fun q w hw => by rw [memL_ra m c g w (by omega)]; exact q w hw⟩
/-- all of it -/
def Sim (m : zMem) : Prop := Shp m ∧ (∃ f, LPair m 3 0 f) ∧ Mrks m ∧ Trays m ∧ Tape m ∧ Stat m ∧ Frac m ∧ Flt m ∧ Livd m ∧ Wrds m
theorem LPair.c0 {m : zMem} {a : Nat} {f : Nat → Nat} (h : LPair m a 0 f) : ModC m f := fun j hj => by have := h.2.2.1 j hj; rwa [show 370 * 0 + j = j by omega] at this
/-- one call: the class answers as the reference does, and the relation holds again -/
def zOkI (Sim : zMem → Prop) (A zx zm : Nat) (as : List Value) : Prop := ∀ m, Sim m → ∃ (r : Int32) (m1 m2 : zMem), call 40 zx (.ref 0 :: as) m = some (some (.int r), m1) ∧ call 40 zm (.ref A :: as) m1 = some (some (.int r), m2) ∧ (memN m1 = memN m ∧ memS m1 = memS m ∧ memN m2 = memN m1 ∧ memS m2 = memS m1) ∧ (memK m 0).1 = 111 ∧ (memK m1 A).1 = 112 ∧ Sim m2
def zOkL (Sim : zMem → Prop) (A zx zm : Nat) (as : List Value) : Prop := ∀ m, Sim m → ∃ (r : Int64) (m1 m2 : zMem), call 40 zx (.ref 0 :: as) m = some (some (.long r), m1) ∧ call 40 zm (.ref A :: as) m1 = some (some (.long r), m2) ∧ (memN m1 = memN m ∧ memS m1 = memS m ∧ memN m2 = memN m1 ∧ memS m2 = memS m1) ∧ (memK m 0).1 = 111 ∧ (memK m1 A).1 = 112 ∧ Sim m2
theorem ModC_setI {m : zMem} {c k : Nat} {v : Int32} {f : Nat → Nat} (h : c ≠ 185 ∨ 98 ≤ k) : ModC (setI m c k v) f = ModC m f := by
  refine forall_congr fun j => forall_congr fun hj => ?_
  rw [show memI (setI m c k v) 185 j = memI m 185 j from if_neg (fun q => by omega)]
theorem ModC_setL {m : zMem} {c k : Nat} {v : Int64} {f : Nat → Nat} : ModC (setL m c k v) f = ModC m f := rfl
theorem ModC_rowI {m : zMem} {c : Nat} {g : Nat → Int32} {f : Nat → Nat} (h : c ≠ 185) : ModC (rowI m c g) f = ModC m f := by
  refine forall_congr fun j => forall_congr fun hj => ?_
  rw [memI_ra m c g j (by omega)]
theorem ModC_rowL {m : zMem} {c : Nat} {g : Nat → Int64} {f : Nat → Nat} : ModC (rowL m c g) f = ModC m f := rfl
theorem LandR_ag {m m' : zMem} {a : Nat} {f : Nat → Nat} (h1 : f 1 ≤ 6) (e : ∀ x, a ≤ x → x < a + 18 → ∀ j, memI m' x j = memI m x j) : LandR m' a f = LandR m a f := by
  unfold LandR
  rw [e a (by omega) (by omega) 13, e a (by omega) (by omega) 14, e a (by omega) (by omega) 15, e a (by omega) (by omega) 16, e a (by omega) (by omega) 17]
  have e2 : ∀ x, a ≤ x → x < a + 18 → ∀ (n : Nat) (w : Nat → Nat), (∀ d, d < n → memI m' x d = nI (w d)) = (∀ d, d < n → memI m x d = nI (w d)) := fun x h1 h2 n w => forall_congr fun d => by rw [e x (by omega) (by omega) d]
  rw [e2 (a + 1) (by omega) (by omega), e2 (a + 2) (by omega) (by omega), e2 (a + 3) (by omega) (by omega), e2 (a + 5) (by omega) (by omega), e2 (a + 6) (by omega) (by omega), e2 (a + 7) (by omega) (by omega), e2 (a + 8) (by omega) (by omega), e2 (a + 9) (by omega) (by omega),
    show (∀ p, p < f 1 → ∀ d, d < 7 → memI m' (a + 12 + p) d = nI (f (56 + 7 * p + d))) = (∀ p, p < f 1 → ∀ d, d < 7 → memI m (a + 12 + p) d = nI (f (56 + 7 * p + d))) from forall_congr fun p => forall_congr fun hp => e2 (a + 12 + p) (by omega) (by omega) 7 (fun d => f (56 + 7 * p + d))]
theorem LandR_setI {m : zMem} {a c k : Nat} {v : Int32} {f : Nat → Nat} (h1 : f 1 ≤ 6) (h : c < a ∨ a + 18 ≤ c) : LandR (setI m c k v) a f = LandR m a f := LandR_ag h1 (fun x _ _ j => memI_a _ _ _ _ _ (by omega))
theorem LandR_setL {m : zMem} {a c k : Nat} {v : Int64} {f : Nat → Nat} : LandR (setL m c k v) a f = LandR m a f := rfl
theorem LandR_rowI {m : zMem} {a c : Nat} {g : Nat → Int32} {f : Nat → Nat} (h1 : f 1 ≤ 6) (h : c < a ∨ a + 18 ≤ c) : LandR (rowI m c g) a f = LandR m a f := LandR_ag h1 (fun x _ _ j => memI_ra _ _ _ _ (by omega))
theorem LandR_rowL {m : zMem} {a c : Nat} {g : Nat → Int64} {f : Nat → Nat} : LandR (rowL m c g) a f = LandR m a f := rfl
theorem inR_no {x : Int32} {n : Nat} (h : ¬ inR x n = true) (hn : n < 2 ^ 31) : x.toInt < 0 ∨ n ≤ x.toInt := by
  unfold inR at h
  rw [decide_eq_true_iff, Int32.lt_iff_toInt_lt, Int32.lt_iff_toInt_lt, nI_toInt (by omega), nI_toInt hn] at h
  omega
theorem inR_t {x : Int32} {n : Nat} (h : inR x n = true) : (x < nI 0) = False ∧ (nI 0 ≤ x) = True ∧ (x < nI n) = True ∧ (nI n ≤ x) = False := by
  have h1 := of_decide_eq_true h
  refine ⟨eq_false h1.1, eq_true ?_, eq_true h1.2, eq_false ?_⟩
  · have h2 := h1.1
    rw [Int32.lt_iff_toInt_lt] at h2
    rw [Int32.le_iff_toInt_le]
    omega
  · have h2 := h1.2
    rw [Int32.lt_iff_toInt_lt] at h2
    rw [Int32.le_iff_toInt_le]
    omega
/-- a number that is no index: below 0, or n or more -/
theorem inR_f {x : Int32} {n : Nat} (h : ¬ inR x n = true) : (x < nI 0) = True ∨ ((x < nI 0) = False ∧ (nI n ≤ x) = True ∧ (x < nI n) = False) := by
  unfold inR at h
  rw [decide_eq_true_iff] at h
  by_cases h1 : x < nI 0
  · exact Or.inl (eq_true h1)
  · right
    have h2 : ¬ x < nI n := fun q => h ⟨h1, q⟩
    refine ⟨eq_false h1, eq_true ?_, eq_false h2⟩
    rw [Int32.lt_iff_toInt_lt] at h2
    rw [Int32.le_iff_toInt_le]
    omega
theorem okI {m m1 m2 : zMem} {r : Int32} {zx zm : Nat} {as : List Value} (h1 : call 40 zx (.ref 0 :: as) m = some (some (.int r), m1)) (h2 : call 40 zm (.ref 180 :: as) m1 = some (some (.int r), m2)) (hs : Sim m2) (hn : memN m1 = memN m ∧ memS m1 = memS m ∧ memN m2 = memN m1 ∧ memS m2 = memS m1) (k0 : memK m 0 = (111, 19)) (kA : memK m1 180 = (112, 44)) :
    ∃ (r : Int32) (m1 m2 : zMem), call 40 zx (.ref 0 :: as) m = some (some (.int r), m1) ∧ call 40 zm (.ref 180 :: as) m1 = some (some (.int r), m2) ∧ (memN m1 = memN m ∧ memS m1 = memS m ∧ memN m2 = memN m1 ∧ memS m2 = memS m1) ∧ (memK m 0).1 = 111 ∧ (memK m1 180).1 = 112 ∧ Sim m2 := ⟨r, m1, m2, h1, h2, hn, by rw [k0], by rw [kA], hs⟩
theorem okL {m m1 m2 : zMem} {r : Int64} {zx zm : Nat} {as : List Value} (h1 : call 40 zx (.ref 0 :: as) m = some (some (.long r), m1)) (h2 : call 40 zm (.ref 180 :: as) m1 = some (some (.long r), m2)) (hs : Sim m2) (hn : memN m1 = memN m ∧ memS m1 = memS m ∧ memN m2 = memN m1 ∧ memS m2 = memS m1) (k0 : memK m 0 = (111, 19)) (kA : memK m1 180 = (112, 44)) :
    ∃ (r : Int64) (m1 m2 : zMem), call 40 zx (.ref 0 :: as) m = some (some (.long r), m1) ∧ call 40 zm (.ref 180 :: as) m1 = some (some (.long r), m2) ∧ (memN m1 = memN m ∧ memS m1 = memS m ∧ memN m2 = memN m1 ∧ memS m2 = memS m1) ∧ (memK m 0).1 = 111 ∧ (memK m1 180).1 = 112 ∧ Sim m2 := ⟨r, m1, m2, h1, h2, hn, by rw [k0], by rw [kA], hs⟩
