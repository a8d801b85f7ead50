/-! THE PURE PART. What is kept when memory is known by its cells alone -/
theorem chainE {σ β : Type} (R : Nat → σ → β) (P : Nat → σ → Prop) (lo hi : Nat) (hle : lo ≤ hi) {w0 : σ} (h0 : P lo w0) (h : ∀ i w, lo ≤ i → i < hi → P i w → ∃ w', R i w = R (i + 1) w' ∧ P (i + 1) w') : ∃ w, R lo w0 = R hi w ∧ P hi w := by
  induction hle with
  | refl => exact ⟨w0, rfl, h0⟩
  | step h1 ih =>
    rename_i k
    obtain ⟨w, e, hP⟩ := ih (fun i w h2 h3 => h i w h2 (Nat.lt_succ_of_lt h3))
    obtain ⟨w', e', hP'⟩ := h k w h1 (Nat.lt_succ_self k) hP
    exact ⟨w', e.trans e', hP'⟩
theorem CpF.refl (m : zMem) : CpF m m := ⟨rfl, rfl, rfl, rfl⟩
theorem CpF.trans {m m1 m2 : zMem} (h : CpF m m1) (g : CpF m1 m2) : CpF m m2 := ⟨g.1.trans h.1, g.2.1.trans h.2.1, g.2.2.1.trans h.2.2.1, g.2.2.2.trans h.2.2.2⟩
theorem ModS.ag {m m2 : zMem} (h : ModS m) (g : CpF m m2) : ModS m2 := by
  unfold ModS
  rw [g.1, g.2.2.2]
  exact h
theorem ClsS.ag {m m2 : zMem} (h : ClsS m) (g : CpF m m2) : ClsS m2 := by
  unfold ClsS
  rw [g.1, g.2.2.2]
  exact h
/-- only the Land at a is written, none of its names, nothing of its script -/
def FrC (m m2 : zMem) (a : Nat) : Prop := CpF m m2 ∧ memL m2 = memL m ∧ ∀ x, x < a ∨ a + 18 ≤ x → ∀ j, memI m2 x j = memI m x j
/-- only the land's numbers of the reference are written -/
def FrM (m m2 : zMem) : Prop := CpF m m2 ∧ memL m2 = memL m ∧ (∀ x, x ≠ 185 → ∀ j, memI m2 x j = memI m x j) ∧ ∀ j, 98 ≤ j → memI m2 185 j = memI m 185 j
theorem FrC.refl (m : zMem) (a : Nat) : FrC m m a := ⟨CpF.refl m, rfl, fun _ _ _ => rfl⟩
theorem FrM.refl (m : zMem) : FrM m m := ⟨CpF.refl m, rfl, fun _ _ _ => rfl, fun _ _ => rfl⟩
theorem FrC.trans {m m1 m2 : zMem} {a : Nat} (h : FrC m m1 a) (g : FrC m1 m2 a) : FrC m m2 a := ⟨h.1.trans g.1, g.2.1.trans h.2.1, fun x hx j => (g.2.2 x hx j).trans (h.2.2 x hx j)⟩
theorem FrM.trans {m m1 m2 : zMem} (h : FrM m m1) (g : FrM m1 m2) : FrM m m2 := ⟨h.1.trans g.1, g.2.1.trans h.2.1, fun x hx j => (g.2.2.1 x hx j).trans (h.2.2.1 x hx j), fun j hj => (g.2.2.2 j hj).trans (h.2.2.2 j hj)⟩
theorem FrC.setI {m m1 : zMem} {a : Nat} (h : FrC m m1 a) {x : Nat} (hx : a ≤ x ∧ x < a + 18) (j : Nat) (v : Int32) : FrC m (setI m1 x j v) a := h.trans ⟨⟨rfl, rfl, rfl, rfl⟩, rfl, fun y hy i => memI_a _ _ _ _ _ (by omega)⟩
theorem FrM.setI {m m1 : zMem} (h : FrM m m1) {j : Nat} (hj : j < 98) (v : Int32) : FrM m (setI m1 185 j v) := h.trans ⟨⟨rfl, rfl, rfl, rfl⟩, rfl, fun y hy i => memI_a _ _ _ _ _ hy, fun i hi => memI_j _ _ _ _ _ (by omega)⟩
/-- all that the relation looks at is as it was, but for the land's numbers and the status -/
def Kp (m m2 : zMem) : Prop := (memK m2 = memK m ∧ ∀ a j, j ≠ 1 ∨ (a ≠ 59 ∧ a ≠ 63) → memR m2 a j = memR m a j) ∧ (∀ j, j = 13 ∨ j = 14 ∨ j = 15 ∨ j = 17 ∨ j = 18 → memI m2 0 j = memI m 0 j) ∧ (∀ x, x = 2 ∨ (22 ≤ x ∧ x < 30) ∨ (90 ≤ x ∧ x < 180) ∨ x = 181 ∨ x = 182 ∨ x = 184 ∨ x = 192 → ∀ j, memI m2 x j = memI m x j) ∧ (∀ j, j = 8 ∨ j = 10 ∨ j = 11 ∨ j = 23 ∨ j = 35 → memI m2 180 j = memI m 180 j) ∧ (∀ j, 98 ≤ j → j < 1480 → memI m2 185 j = memI m 185 j) ∧ (∀ x, x = 60 ∨ x = 64 ∨ (89 ≤ x ∧ x < 181) ∨ x = 183 → ∀ j, memL m2 x j = memL m x j) ∧ (∀ j, 13 ≤ j → j < 52 → memL m2 187 j = memL m 187 j)
/-- the names here are as they were -/
def Kn (m m2 : zMem) : Prop := (∀ j, memL m2 7 j = memL m 7 j) ∧ (∀ j, memL m2 13 j = memL m 13 j) ∧ ∀ j, j < 13 → memL m2 187 j = memL m 187 j
theorem Kn.of {m m2 : zMem} (h : memL m2 = memL m) : Kn m m2 := ⟨fun _ => by rw [h], fun _ => by rw [h], fun _ _ => by rw [h]⟩
theorem NamR.kn {m m2 : zMem} {f f' : Nat → Nat} (h : NamR m 3 0 f) (k : Kn m m2) (h0 : f' 0 = f 0) (h1 : f' 1 = f 1) : NamR m2 3 0 f' := by
  refine ⟨fun d hd h7 => ?_, fun p hp h6 => ?_⟩
  · rw [k.1, k.2.2 _ (by omega)]; exact h.1 d (by omega) h7
  · rw [k.2.1, k.2.2 _ (by omega)]; exact h.2 p (by omega) h6
theorem Kp.refl (m : zMem) : Kp m m := ⟨⟨rfl, fun _ _ _ => rfl⟩, fun _ _ => rfl, fun _ _ _ => rfl, fun _ _ => rfl, fun _ _ _ => rfl, fun _ _ _ => rfl, fun _ _ _ => rfl⟩
theorem Kp.trans {m m1 m2 : zMem} (h : Kp m m1) (g : Kp m1 m2) : Kp m m2 := ⟨⟨g.1.1.trans h.1.1, fun a j q => (g.1.2 a j q).trans (h.1.2 a j q)⟩, fun j q => (g.2.1 j q).trans (h.2.1 j q), fun x q j => (g.2.2.1 x q j).trans (h.2.2.1 x q j), fun j q => (g.2.2.2.1 j q).trans (h.2.2.2.1 j q), fun j q r => (g.2.2.2.2.1 j q r).trans (h.2.2.2.2.1 j q r), fun x q j => (g.2.2.2.2.2.1 x q j).trans (h.2.2.2.2.2.1 x q j), fun j q r => (g.2.2.2.2.2.2 j q r).trans (h.2.2.2.2.2.2 j q r)⟩
theorem Kp.mrk {m m2 : zMem} (h : Kp m m2) {a b : Nat} (ha : 99 ≤ a) (ha2 : a + 27 ≤ 180) (hb : 1 ≤ b) (hb3 : b ≤ 3) : AgL m m2 a b := ⟨fun x h1 h2 h3 j => ⟨h.2.2.1 x (by omega) j, h.2.2.2.2.2.1 x (by omega) j⟩, fun j h1 h2 => h.2.2.2.2.1 j (by omega) (by omega), fun j h1 h2 => h.2.2.2.2.2.2 j (by omega) (by omega)⟩
theorem Sim.kp {m m2 : zMem} {f f' : Nat → Nat} (hs : Sim m) (hL : LPair m 3 0 f) (h : Kp m m2) (hN : NamR m2 3 0 f') (hR : LandR m2 3 f') (hI : LInv f') (hC : ModC m2 f') (h0 : f 0 ≤ f' 0) (h1 : f 1 ≤ f' 1) (hst : memI m2 0 16 = memI m2 180 0) : Sim m2 := by
  obtain ⟨hShp, -, hMk, hT, hTp, hSt, hFr, hFl, hLv, hW⟩ := hs
  obtain ⟨k1, k2, k3, k4, k5, k6, k7⟩ := id h
  refine ⟨⟨k1.1.trans hShp.1, fun a j q => (k1.2 a j q).trans (hShp.2 a j q)⟩, ⟨f', hR, hI, fun j hj => ?_, hN, hL.2.2.2.2.ag2 h0 h1 (fun x h1 h2 => k3 x (by omega)) (fun j h1 h2 => k5 j (by omega) (by omega))⟩, hMk.ag (k2 15 (by omega)) (k4 23 (by omega)) (fun i hi => h.mrk (by omega) (by omega) (by omega) (by omega)), hT.ag ⟨fun x h1 h2 j => ⟨k3 x (by omega) j, k6 x (by omega) j⟩, fun j => k3 _ (by omega) j, fun j => k3 _ (by omega) j, fun j => k6 _ (by omega) j⟩, hTp.ag (k2 14 (by omega)) (k4 8 (by omega)) (fun j => k3 _ (by omega) j) (fun j => k3 _ (by omega) j), hst, ?_, ?_, ?_, ?_⟩
  · rw [show 370 * 0 + j = j by omega]; exact hC j hj
  · unfold Frac
    rw [k6 89 (by omega) 0, k6 89 (by omega) 1, k6 180 (by omega) 2, k6 180 (by omega) 3]
    exact hFr
  · unfold Flt
    rw [k2 17 (by omega), k2 18 (by omega), k4 10 (by omega), k4 11 (by omega)]
    exact hFl
  · unfold Livd
    rw [k2 13 (by omega), k4 35 (by omega)]
    exact ⟨hLv.1, hLv.2.1, fun j hj => by rw [k3 90 (by omega) j, k3 192 (by omega) j]; exact hLv.2.2 j hj⟩
  · exact ⟨fun w hw => by rw [k6 60 (by omega) w]; exact hW.1 w hw, fun w hw => by rw [k6 64 (by omega) w]; exact hW.2 w hw⟩
theorem FrC.kp {m m2 : zMem} (h : FrC m m2 3) : Kp m m2 := ⟨⟨h.1.1, fun a j _ => by rw [h.1.2.2.2]⟩, fun j _ => h.2.2 _ (by omega) j, fun x hx j => h.2.2 x (by omega) j, fun j _ => h.2.2 _ (by omega) j, fun j _ _ => h.2.2 _ (by omega) j, fun x _ j => by rw [h.2.1], fun j _ _ => by rw [h.2.1]⟩
theorem FrM.kp {m m2 : zMem} (h : FrM m m2) : Kp m m2 := ⟨⟨h.1.1, fun a j _ => by rw [h.1.2.2.2]⟩, fun j _ => h.2.2.1 _ (by omega) j, fun x hx j => h.2.2.1 x (by omega) j, fun j _ => h.2.2.1 _ (by omega) j, fun j hj _ => h.2.2.2 j hj, fun x _ j => by rw [h.2.1], fun j _ _ => by rw [h.2.1]⟩
/-- one number is written that the relation doesn't look at -/
theorem Kp.setI {m m1 : zMem} (h : Kp m m1) {c k : Nat} (v : Int32) (hc : (c ≠ 0 ∨ ¬ (k = 13 ∨ k = 14 ∨ k = 15 ∨ k = 17 ∨ k = 18)) ∧ ¬ (c = 2 ∨ (22 ≤ c ∧ c < 30) ∨ (90 ≤ c ∧ c < 180) ∨ c = 181 ∨ c = 182 ∨ c = 184 ∨ c = 192) ∧ (c ≠ 180 ∨ ¬ (k = 8 ∨ k = 10 ∨ k = 11 ∨ k = 23 ∨ k = 35)) ∧ (c ≠ 185 ∨ k < 98 ∨ 1480 ≤ k)) : Kp m (setI m1 c k v) := h.trans ⟨⟨rfl, fun _ _ _ => rfl⟩, fun j _ => if_neg (fun q => by omega), fun x hx j => if_neg (fun q => by omega), fun j _ => if_neg (fun q => by omega), fun j _ _ => if_neg (fun q => by omega), fun _ _ _ => rfl, fun _ _ _ => rfl⟩
theorem Kp.rowI {m m1 : zMem} (h : Kp m m1) {c : Nat} (g : Nat → Int32) (hc : c ≠ 0 ∧ ¬ (c = 2 ∨ (22 ≤ c ∧ c < 30) ∨ (90 ≤ c ∧ c < 180) ∨ c = 181 ∨ c = 182 ∨ c = 184 ∨ c = 192) ∧ c ≠ 180 ∧ c ≠ 185) : Kp m (rowI m1 c g) := h.trans ⟨⟨rfl, fun _ _ _ => rfl⟩, fun j _ => memI_ra _ _ _ _ (by omega), fun x hx j => memI_ra _ _ _ _ (by omega), fun j _ => memI_ra _ _ _ _ (by omega), fun j _ _ => memI_ra _ _ _ _ (by omega), fun _ _ _ => rfl, fun _ _ _ => rfl⟩
theorem LandR.frM {m m2 : zMem} {a : Nat} {f : Nat → Nat} (h : LandR m a f) (h1 : f 1 ≤ 6) (ha : a + 18 ≤ 185) (g : FrM m m2) : LandR m2 a f := by
  rw [LandR_ag h1 (fun x _ _ j => g.2.2.1 x (by omega) j)]
  exact h
theorem ModC.frC {m m2 : zMem} {a : Nat} {f : Nat → Nat} (h : ModC m f) (ha : a + 18 ≤ 185) (g : FrC m m2 a) : ModC m2 f := fun j hj => by
  rw [g.2.2 _ (by omega)]
  exact h j hj
theorem Kp.setL {m m1 : zMem} (h : Kp m m1) {c k : Nat} (v : Int64) (hc : ¬ (c = 60 ∨ c = 64 ∨ (89 ≤ c ∧ c < 181) ∨ c = 183) ∧ (c ≠ 187 ∨ k < 13 ∨ 52 ≤ k)) : Kp m (setL m1 c k v) := h.trans ⟨⟨rfl, fun _ _ _ => rfl⟩, fun _ _ => rfl, fun _ _ _ => rfl, fun _ _ => rfl, fun _ _ _ => rfl, fun x hx j => if_neg (fun q => by omega), fun j _ _ => if_neg (fun q => by omega)⟩
theorem Kp.m185 {m m2 : zMem} (h : CpF m m2) (hl : memL m2 = memL m) (h2 : ∀ x, x ≠ 185 → ∀ j, memI m2 x j = memI m x j) (h3 : ∀ j, 98 ≤ j → j < 1480 → memI m2 185 j = memI m 185 j) : Kp m m2 := ⟨⟨h.1, fun a j _ => by rw [h.2.2.2]⟩, fun j _ => h2 _ (by omega) j, fun x hx j => h2 x (by omega) j, fun j _ => h2 _ (by omega) j, h3, fun x _ j => by rw [hl], fun j _ _ => by rw [hl]⟩
theorem NameR.nil : NameR 0 0 := ⟨[], by decide, (fun c hc => absurd hc List.not_mem_nil), rfl, rfl⟩
