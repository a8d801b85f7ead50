/-! THE PURE PART. A land's number is changed -/
def fupd (f : Nat → Nat) (j v : Nat) : Nat → Nat := fun i => if i = j then v else f i
theorem fupd_ne {f : Nat → Nat} {j v i : Nat} (h : i ≠ j) : fupd f j v i = f i := if_neg h
theorem fupd_eq (f : Nat → Nat) (j v : Nat) : fupd f j v j = v := if_pos rfl
/-- where the class keeps what the reference has at j -/
def locC (a j : Nat) : Nat := if j < 5 then a else if j < 26 then a + 1 + (j - 5) / 7 else if j < 56 then a + 5 + (j - 26) / 6 else a + 12 + (j - 56) / 7
def locK (j : Nat) : Nat := if j < 2 then 16 + j else if j < 5 then 11 + j else if j < 26 then (j - 5) % 7 else if j < 56 then (j - 26) % 6 else (j - 56) % 7
def live (f0 f1 j : Nat) : Prop := j < 5 ∨ (5 ≤ j ∧ j < 26 ∧ (j - 5) % 7 < f0) ∨ (26 ≤ j ∧ j < 56 ∧ (j - 26) % 6 < f1) ∨ (56 ≤ j ∧ (j - 56) / 7 < f1)
theorem loc_d {a d i : Nat} (hi : i < 3) (hd : d < 7) : locC a (5 + 7 * i + d) = a + 1 + i ∧ locK (5 + 7 * i + d) = d := by
  unfold locC locK
  rw [if_neg (by omega), if_pos (by omega), if_neg (by omega), if_neg (by omega), if_pos (by omega)]
  constructor <;> omega
theorem loc_p {a p i : Nat} (hi : i < 5) (hp : p < 6) : locC a (26 + 6 * i + p) = a + 5 + i ∧ locK (26 + 6 * i + p) = p := by
  unfold locC locK
  rw [if_neg (by omega), if_neg (by omega), if_pos (by omega), if_neg (by omega), if_neg (by omega), if_neg (by omega), if_pos (by omega)]
  constructor <;> omega
theorem loc_n {a p d : Nat} (hd : d < 7) : locC a (56 + 7 * p + d) = a + 12 + p ∧ locK (56 + 7 * p + d) = d := by
  unfold locC locK
  rw [if_neg (by omega), if_neg (by omega), if_neg (by omega), if_neg (by omega), if_neg (by omega), if_neg (by omega), if_neg (by omega)]
  constructor <;> omega
theorem loc_inj {a i j : Nat} (hi : i < 98) (hj : j < 98) (h1 : locC a i = locC a j) (h2 : locK i = locK j) : i = j := by
  unfold locC locK at *
  repeat' split at h1
  all_goals (repeat' split at h2)
  all_goals omega
def LandR' (m : zMem) (a : Nat) (f : Nat → Nat) : Prop := ∀ j, j < 98 → live (f 0) (f 1) j → memI m (locC a j) (locK j) = nI (f j)
theorem LandR.to {m : zMem} {a : Nat} {f : Nat → Nat} (h : LandR m a f) : LandR' m a f := by
  obtain ⟨q1, q2, q3, q4, q5, q6, q7, q8, q9, q10, q11, q12, q13, q14⟩ := h
  intro j hj hl
  by_cases h5 : j < 5
  · rcases (show j = 0 ∨ j = 1 ∨ j = 2 ∨ j = 3 ∨ j = 4 by omega) with rfl | rfl | rfl | rfl | rfl
    · exact q4
    · exact q5
    · exact q1
    · exact q2
    · exact q3
  · by_cases h26 : j < 26
    · have hd : (j - 5) % 7 < f 0 := by unfold live at hl; omega
      have h7 : (j - 5) % 7 < 7 := Nat.mod_lt _ (by decide)
      rcases (show (j - 5) / 7 = 0 ∨ (j - 5) / 7 = 1 ∨ (j - 5) / 7 = 2 by omega) with e | e | e
      · have := loc_d (a := a) (i := 0) (by decide) h7
        rw [show j = 5 + 7 * 0 + (j - 5) % 7 by omega, this.1, this.2, show 5 + 7 * 0 + (j - 5) % 7 = 5 + (j - 5) % 7 by omega]
        exact q6 _ hd
      · have := loc_d (a := a) (i := 1) (by decide) h7
        rw [show j = 5 + 7 * 1 + (j - 5) % 7 by omega, this.1, this.2, show 5 + 7 * 1 + (j - 5) % 7 = 12 + (j - 5) % 7 by omega]
        exact q7 _ hd
      · have := loc_d (a := a) (i := 2) (by decide) h7
        rw [show j = 5 + 7 * 2 + (j - 5) % 7 by omega, this.1, this.2, show 5 + 7 * 2 + (j - 5) % 7 = 19 + (j - 5) % 7 by omega]
        exact q8 _ hd
    · by_cases h56 : j < 56
      · have hp : (j - 26) % 6 < f 1 := by unfold live at hl; omega
        have h6 : (j - 26) % 6 < 6 := Nat.mod_lt _ (by decide)
        rcases (show (j - 26) / 6 = 0 ∨ (j - 26) / 6 = 1 ∨ (j - 26) / 6 = 2 ∨ (j - 26) / 6 = 3 ∨ (j - 26) / 6 = 4 by omega) with e | e | e | e | e
        · have := loc_p (a := a) (i := 0) (by decide) h6
          rw [show j = 26 + 6 * 0 + (j - 26) % 6 by omega, this.1, this.2, show 26 + 6 * 0 + (j - 26) % 6 = 26 + (j - 26) % 6 by omega]
          exact q9 _ hp
        · have := loc_p (a := a) (i := 1) (by decide) h6
          rw [show j = 26 + 6 * 1 + (j - 26) % 6 by omega, this.1, this.2, show 26 + 6 * 1 + (j - 26) % 6 = 32 + (j - 26) % 6 by omega]
          exact q10 _ hp
        · have := loc_p (a := a) (i := 2) (by decide) h6
          rw [show j = 26 + 6 * 2 + (j - 26) % 6 by omega, this.1, this.2, show 26 + 6 * 2 + (j - 26) % 6 = 38 + (j - 26) % 6 by omega]
          exact q11 _ hp
        · have := loc_p (a := a) (i := 3) (by decide) h6
          rw [show j = 26 + 6 * 3 + (j - 26) % 6 by omega, this.1, this.2, show 26 + 6 * 3 + (j - 26) % 6 = 44 + (j - 26) % 6 by omega]
          exact q12 _ hp
        · have := loc_p (a := a) (i := 4) (by decide) h6
          rw [show j = 26 + 6 * 4 + (j - 26) % 6 by omega, this.1, this.2, show 26 + 6 * 4 + (j - 26) % 6 = 50 + (j - 26) % 6 by omega]
          exact q13 _ hp
      · have hp : (j - 56) / 7 < f 1 := by unfold live at hl; omega
        have h7 : (j - 56) % 7 < 7 := Nat.mod_lt _ (by decide)
        have := loc_n (a := a) (p := (j - 56) / 7) h7
        rw [show j = 56 + 7 * ((j - 56) / 7) + (j - 56) % 7 by omega, this.1, this.2]
        have := q14 _ hp _ h7
        exact this
theorem LandR.from {m : zMem} {a : Nat} {f : Nat → Nat} (h1 : f 1 ≤ 6) (h0 : f 0 ≤ 7) (h : LandR' m a f) : LandR m a f := by
  refine ⟨h 2 (by omega) (Or.inl (by omega)), h 3 (by omega) (Or.inl (by omega)), h 4 (by omega) (Or.inl (by omega)), h 0 (by omega) (Or.inl (by omega)), h 1 (by omega) (Or.inl (by omega)), fun d hd => ?_, fun d hd => ?_, fun d hd => ?_, fun p hp => ?_, fun p hp => ?_, fun p hp => ?_, fun p hp => ?_, fun p hp => ?_, fun p hp d hd => ?_⟩
  · have q := h (5 + 7 * 0 + d) (by omega) (by unfold live; omega)
    rwa [(loc_d (a := a) (i := 0) (d := d) (by decide) (by omega)).1, (loc_d (a := a) (i := 0) (d := d) (by decide) (by omega)).2] at q
  · have q := h (5 + 7 * 1 + d) (by omega) (by unfold live; omega)
    rwa [(loc_d (a := a) (i := 1) (d := d) (by decide) (by omega)).1, (loc_d (a := a) (i := 1) (d := d) (by decide) (by omega)).2] at q
  · have q := h (5 + 7 * 2 + d) (by omega) (by unfold live; omega)
    rwa [(loc_d (a := a) (i := 2) (d := d) (by decide) (by omega)).1, (loc_d (a := a) (i := 2) (d := d) (by decide) (by omega)).2] at q
  · have q := h (26 + 6 * 0 + p) (by omega) (by unfold live; omega)
    rwa [(loc_p (a := a) (i := 0) (p := p) (by decide) (by omega)).1, (loc_p (a := a) (i := 0) (p := p) (by decide) (by omega)).2] at q
  · have q := h (26 + 6 * 1 + p) (by omega) (by unfold live; omega)
    rwa [(loc_p (a := a) (i := 1) (p := p) (by decide) (by omega)).1, (loc_p (a := a) (i := 1) (p := p) (by decide) (by omega)).2] at q
  · have q := h (26 + 6 * 2 + p) (by omega) (by unfold live; omega)
    rwa [(loc_p (a := a) (i := 2) (p := p) (by decide) (by omega)).1, (loc_p (a := a) (i := 2) (p := p) (by decide) (by omega)).2] at q
  · have q := h (26 + 6 * 3 + p) (by omega) (by unfold live; omega)
    rwa [(loc_p (a := a) (i := 3) (p := p) (by decide) (by omega)).1, (loc_p (a := a) (i := 3) (p := p) (by decide) (by omega)).2] at q
  · have q := h (26 + 6 * 4 + p) (by omega) (by unfold live; omega)
    rwa [(loc_p (a := a) (i := 4) (p := p) (by decide) (by omega)).1, (loc_p (a := a) (i := 4) (p := p) (by decide) (by omega)).2] at q
  · have q := h (56 + 7 * p + d) (by omega) (by unfold live; omega)
    rwa [(loc_n (a := a) (p := p) hd).1, (loc_n (a := a) (p := p) hd).2] at q
theorem LandR.put {m : zMem} {a j : Nat} {f : Nat → Nat} (h : LandR m a f) (h0 : f 0 ≤ 7) (h1 : f 1 ≤ 6) (hj : 2 ≤ j) (hj2 : j < 98) (v : Nat) : LandR (setI m (locC a j) (locK j) (nI v)) a (fupd f j v) := by
  refine LandR.from (by rw [fupd_ne (by omega)]; exact h1) (by rw [fupd_ne (by omega)]; exact h0) ?_
  intro i hi hl
  rw [fupd_ne (show 0 ≠ j by omega), fupd_ne (show 1 ≠ j by omega)] at hl
  by_cases e : i = j
  · subst e
    rw [memI_s, fupd_eq]
  · rw [fupd_ne e, show memI (setI m (locC a j) (locK j) (nI v)) (locC a i) (locK i) = memI m (locC a i) (locK i) from if_neg (fun q => e (loc_inj hi hj2 q.1 q.2))]
    exact h.to i hi hl
section LP
variable {m : zMem} {a : Nat} {f : Nat → Nat}
theorem LandR.putD (h : LandR m a f) (h0 : f 0 ≤ 7) (h1 : f 1 ≤ 6) {i d : Nat} (hi : i < 3) (hd : d < 7) (v : Nat) : LandR (setI m (a + 1 + i) d (nI v)) a (fupd f (5 + 7 * i + d) v) := by
  have q := h.put h0 h1 (show 2 ≤ 5 + 7 * i + d by omega) (by omega) v
  rwa [(loc_d hi hd).1, (loc_d (a := a) hi hd).2] at q
theorem LandR.putP (h : LandR m a f) (h0 : f 0 ≤ 7) (h1 : f 1 ≤ 6) {i p : Nat} (hi : i < 5) (hp : p < 6) (v : Nat) : LandR (setI m (a + 5 + i) p (nI v)) a (fupd f (26 + 6 * i + p) v) := by
  have q := h.put h0 h1 (show 2 ≤ 26 + 6 * i + p by omega) (by omega) v
  rwa [(loc_p hi hp).1, (loc_p (a := a) hi hp).2] at q
theorem LandR.putN (h : LandR m a f) (h0 : f 0 ≤ 7) (h1 : f 1 ≤ 6) {p d : Nat} (hp : p < 6) (hd : d < 7) (v : Nat) : LandR (setI m (a + 12 + p) d (nI v)) a (fupd f (56 + 7 * p + d) v) := by
  have q := h.put h0 h1 (show 2 ≤ 56 + 7 * p + d by omega) (by omega) v
  rwa [(loc_n hd).1, (loc_n (a := a) (p := p) hd).2] at q
theorem ModC.put (h : ModC m f) (j v : Nat) : ModC (setI m 185 j (nI v)) (fupd f j v) := by
  intro i hi
  by_cases e : i = j
  · rw [e, memI_s, fupd_eq]
  · rw [memI_j _ _ _ _ _ e, fupd_ne e]
    exact h i hi
theorem LInv.put (h : LInv f) {j v : Nat} (hj : 2 ≤ j) (h2 : j = 2 → v ≤ 16) (h3 : j = 3 → v ≤ 40) (h4 : j = 4 → f 4 ≤ v ∧ v ≤ 9999) (h5 : 5 ≤ j → j < 12 → v ≤ 60) (h12 : j < 12 ∨ 19 ≤ j) (h19 : 19 ≤ j → j < 26 → v ≤ 99) (h26 : 26 ≤ j → j < 32 → v ≤ 99) (h32 : 32 ≤ j → j < 38 → v ≤ 9999) (h38 : 38 ≤ j → j < 44 → v ≤ 50) (h44 : 44 ≤ j → j < 56 → v ≤ 420 * f 4)
    (h56 : ∀ p d, d < 7 → j = 56 + 7 * p + d → (d < f 0 → v ≤ f (12 + d)) ∧ (f 0 ≤ d → v = 0)) : LInv (fupd f j v) := by
  have e0 : fupd f j v 0 = f 0 := fupd_ne (by omega)
  have e1 : fupd f j v 1 = f 1 := fupd_ne (by omega)
  have n0 := h.n0
  have n1 := h.n1
  have n2 := h.n2
  have n3 := h.n3
  have n4 := h.n4
  have e4 : f 4 ≤ fupd f j v 4 := by
    unfold fupd
    split <;> omega
  refine ⟨by rw [e0]; exact n0, by rw [e1]; exact n1, ?_, ?_, ?_, fun d hd => ?_, fun p hp => ?_, fun p hp d hd => ?_⟩
  · unfold fupd; split <;> omega
  · unfold fupd; split <;> omega
  · unfold fupd; split <;> omega
  · rw [e0] at hd
    have q := h.deed hd
    rw [fupd_ne (show 12 + d ≠ j by omega)]
    refine ⟨?_, q.2.1, q.2.2.1, ?_⟩
    · unfold fupd; split <;> omega
    · unfold fupd; split <;> omega
  · rw [e1] at hp
    have q := h.payer hp
    refine ⟨?_, ?_, ?_, ?_, ?_⟩
    · unfold fupd; split <;> omega
    · unfold fupd; split <;> omega
    · unfold fupd; split <;> omega
    · refine Nat.le_trans ?_ (Nat.mul_le_mul_left 420 e4)
      unfold fupd; split <;> omega
    · refine Nat.le_trans ?_ (Nat.mul_le_mul_left 420 e4)
      unfold fupd; split <;> omega
  · rw [e1] at hp
    rw [e0]
    have q := h.2.2.2.2.2.2.2 p hp d hd
    have q2 := h56 p d hd
    constructor
    · intro hd0
      rw [fupd_ne (show 12 + d ≠ j by omega)]
      by_cases e : 56 + 7 * p + d = j
      · rw [e, fupd_eq]; exact (q2 e.symm).1 hd0
      · rw [fupd_ne e]; exact q.1 hd0
    · intro hd0
      by_cases e : 56 + 7 * p + d = j
      · rw [e, fupd_eq]; exact (q2 e.symm).2 hd0
      · rw [fupd_ne e]; exact q.2 hd0
end LP
theorem LineR.mono {f0 f1 g0 g1 : Nat} (h0 : f0 ≤ g0) (h1 : f1 ≤ g1) {K T W X G N M : Nat → Nat} {l : Nat} {q : Nat → Int32} (h : LineR f0 f1 K T W X G N M l q) : LineR g0 g1 K T W X G N M l q := by
  refine ⟨h.1, ?_⟩
  rcases h.2 with ⟨a1, a2, a3, a4, a5, a6⟩ | ⟨a1, a2, a3, a4, a5, a6⟩ | h | ⟨a1, a2, a3, a4, a5, a6⟩ | h | ⟨a1, a2, a3, a4, a5⟩ | h | h
  · exact Or.inl ⟨a1, a2, a3, a4, by omega, by omega⟩
  · exact Or.inr (Or.inl ⟨a1, a2, a3, a4, by omega, by omega⟩)
  · exact Or.inr (Or.inr (Or.inl h))
  · exact Or.inr (Or.inr (Or.inr (Or.inl ⟨a1, a2, a3, a4, by omega, a6⟩)))
  · exact Or.inr (Or.inr (Or.inr (Or.inr (Or.inl h))))
  · refine Or.inr (Or.inr (Or.inr (Or.inr (Or.inr (Or.inl ⟨a1, a2, a3, by omega, ?_⟩)))))
    rcases a5 with ⟨b1, b2, b3, b4⟩ | ⟨b1, b2, b3, b4, b5⟩ | b | b
    · exact Or.inl ⟨b1, b2, b3, by omega⟩
    · exact Or.inr (Or.inl ⟨b1, b2, b3, by omega, b5⟩)
    · exact Or.inr (Or.inr (Or.inl b))
    · exact Or.inr (Or.inr (Or.inr b))
  · exact Or.inr (Or.inr (Or.inr (Or.inr (Or.inr (Or.inr (Or.inl h))))))
  · exact Or.inr (Or.inr (Or.inr (Or.inr (Or.inr (Or.inr (Or.inr h))))))
/-- the script stays as it is where its own cells do -/
theorem ScrR.ag2 {m m' : zMem} {a b : Nat} {f f' : Nat → Nat} (h : ScrR m a b f) (h0 : f 0 ≤ f' 0) (h1 : f 1 ≤ f' 1) (e : ∀ x, a + 19 ≤ x → x < a + 27 → ∀ j, memI m' x j = memI m x j) (e2 : ∀ j, 370 * b + 98 ≤ j → j < 370 * b + 370 → memI m' 185 j = memI m 185 j) : ScrR m' a b f' := by
  rcases h with ⟨g1, g2, g2b⟩ | ⟨g1, g2, n, K, T, W, X, G, N, M, g3, g4, g5, g6, g7, g8, g9⟩
  · left
    exact ⟨by rw [e _ (by omega) (by omega)]; exact g1, by rw [e2 _ (by omega) (by omega)]; exact g2, by rw [e _ (by omega) (by omega)]; exact g2b⟩
  · right
    refine ⟨by rw [e _ (by omega) (by omega)]; exact g1, by rw [e2 _ (by omega) (by omega)]; exact g2, n, K, T, W, X, G, N, M, g3, g4, by rw [e _ (by omega) (by omega)]; exact g5, by rw [e _ (by omega) (by omega)]; exact g6, by rw [e2 _ (by omega) (by omega)]; exact g7, g8, fun l hl h61 => ?_⟩
    obtain ⟨⟨a1, a2, a3, a4⟩, a5⟩ := g9 l hl h61
    rw [e (a + 20) (by omega) (by omega), e (a + 21) (by omega) (by omega), e (a + 22) (by omega) (by omega), e (a + 23) (by omega) (by omega), e (a + 24) (by omega) (by omega), e (a + 25) (by omega) (by omega), e (a + 26) (by omega) (by omega)]
    refine ⟨⟨a1, a2, a3, a4⟩, fun h19 h30 => ?_⟩
    have a6 := a5 h19 h30
    rw [show (fun j => memI m' 185 (370 * b + (100 + 9 * stepsN K l + min j 8))) = (fun j => memI m 185 (370 * b + (100 + 9 * stepsN K l + min j 8))) from funext fun j => e2 _ (by omega) (by have := Nat.min_le_right j 8; omega)]
    exact a6.mono h0 h1
/-- the land here, when numbers of it are changed and no name, no script -/
theorem LPair.upd {m m2 : zMem} {f f' : Nat → Nat} (h : LPair m 3 0 f) (hR : LandR m2 3 f') (hI : LInv f') (hC : ModC m2 f') (h0 : f' 0 = f 0) (h1 : f' 1 = f 1) (hl : memL m2 = memL m) (hs : ∀ x, 22 ≤ x → x < 30 → ∀ j, memI m2 x j = memI m x j) (hc : ∀ j, 98 ≤ j → j < 370 → memI m2 185 j = memI m 185 j) : LPair m2 3 0 f' := by
  refine ⟨hR, hI, fun j hj => ?_, ⟨fun d hd h7 => ?_, fun p hp h6 => ?_⟩, h.2.2.2.2.ag2 (by omega) (by omega) (fun x h1 h2 => hs x (by omega) (by omega)) (fun j h1 h2 => hc j (by omega) (by omega))⟩
  · rw [show 370 * 0 + j = j by omega]; exact hC j hj
  · rw [hl]; exact h.2.2.2.1.1 d (by omega) h7
  · rw [hl]; exact h.2.2.2.1.2 p (by omega) h6
