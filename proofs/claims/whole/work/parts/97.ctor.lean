/-! THE PURE PART. What each constructor lays -/
theorem Lai.to {m : zMem} {n s n2 s2 : Nat} {R : AL Nat} {I : AL Int32} {L : AL Int64} (h : Lai m n s R I L) (hn : n2 = n) (hs : s2 = s) : Lai m n2 s2 R I L := by subst hn hs; exact h
def rl3 (a : Nat) (R : AL Nat) : AL Nat := ((a, 6), a + 7) :: ((a, 5), a + 6) :: ((a, 4), a + 5) :: ((a, 3), a + 4) :: ((a, 2), a + 3) :: ((a, 1), a + 2) :: ((a, 0), a + 1) :: R
theorem zc3 (d : Nat) {a s : Nat} {m : zMem} {R : AL Nat} {I : AL Int32} {L : AL Int64} (hK : ∀ i, i < 8 → shK (a + i) = shK (22 + i)) (h0 : Lai m (a + 1) s R I L) : ∃ m2, call (d + 1) 3 [.ref a] m = some (none, m2) ∧ Lai m2 (a + 8) (s + 427) (rl3 a R) I L := by
  rw [e3]
  rw [u3_0, u3_1, u3_4, u3_5, u3_7 (x0 := 61) (hn := by decide), h0.1, show (61 : Int32).toNatClampNeg = 61 by decide]
  have h1 : Lai (mkCell m 1 61) (a + 2) (s + 61) _ _ _ := h0.cell ((hK 1 (by omega)).trans (by decide +kernel)) (by omega) (by omega)
  generalize mkCell m 1 61 = m1 at h1 ⊢
  rw [u3_9, if_pos (h1.k1 (i := a) (t := 108) (q := 10) (by omega) ((hK 0 (by omega)).trans (by decide +kernel)))]
  have h2 : Lai (setR m1 a 0 (some (a + 1))) (a + 2) (s + 61) _ _ _ := h1.sR (by omega)
  generalize setR m1 a 0 (some (a + 1)) = m2 at h2 ⊢
  rw [u3_12, u3_13, u3_15 (x0 := 61) (hn := by decide), h2.1, show (61 : Int32).toNatClampNeg = 61 by decide]
  have h3 : Lai (mkCell m2 1 61) (a + 3) (s + 122) _ _ _ := h2.cell ((hK 2 (by omega)).trans (by decide +kernel)) (by omega) (by omega)
  generalize mkCell m2 1 61 = m3 at h3 ⊢
  rw [u3_17, if_pos (h3.k1 (i := a) (t := 108) (q := 10) (by omega) ((hK 0 (by omega)).trans (by decide +kernel)))]
  have h4 : Lai (setR m3 a 1 (some (a + 2))) (a + 3) (s + 122) _ _ _ := h3.sR (by omega)
  generalize setR m3 a 1 (some (a + 2)) = m4 at h4 ⊢
  rw [u3_20, u3_21, u3_23 (x0 := 61) (hn := by decide), h4.1, show (61 : Int32).toNatClampNeg = 61 by decide]
  have h5 : Lai (mkCell m4 1 61) (a + 4) (s + 183) _ _ _ := h4.cell ((hK 3 (by omega)).trans (by decide +kernel)) (by omega) (by omega)
  generalize mkCell m4 1 61 = m5 at h5 ⊢
  rw [u3_25, if_pos (h5.k1 (i := a) (t := 108) (q := 10) (by omega) ((hK 0 (by omega)).trans (by decide +kernel)))]
  have h6 : Lai (setR m5 a 2 (some (a + 3))) (a + 4) (s + 183) _ _ _ := h5.sR (by omega)
  generalize setR m5 a 2 (some (a + 3)) = m6 at h6 ⊢
  rw [u3_28, u3_29, u3_31 (x0 := 61) (hn := by decide), h6.1, show (61 : Int32).toNatClampNeg = 61 by decide]
  have h7 : Lai (mkCell m6 1 61) (a + 5) (s + 244) _ _ _ := h6.cell ((hK 4 (by omega)).trans (by decide +kernel)) (by omega) (by omega)
  generalize mkCell m6 1 61 = m7 at h7 ⊢
  rw [u3_33, if_pos (h7.k1 (i := a) (t := 108) (q := 10) (by omega) ((hK 0 (by omega)).trans (by decide +kernel)))]
  have h8 : Lai (setR m7 a 3 (some (a + 4))) (a + 5) (s + 244) _ _ _ := h7.sR (by omega)
  generalize setR m7 a 3 (some (a + 4)) = m8 at h8 ⊢
  rw [u3_36, u3_37, u3_39 (x0 := 61) (hn := by decide), h8.1, show (61 : Int32).toNatClampNeg = 61 by decide]
  have h9 : Lai (mkCell m8 1 61) (a + 6) (s + 305) _ _ _ := h8.cell ((hK 5 (by omega)).trans (by decide +kernel)) (by omega) (by omega)
  generalize mkCell m8 1 61 = m9 at h9 ⊢
  rw [u3_41, if_pos (h9.k1 (i := a) (t := 108) (q := 10) (by omega) ((hK 0 (by omega)).trans (by decide +kernel)))]
  have h10 : Lai (setR m9 a 4 (some (a + 5))) (a + 6) (s + 305) _ _ _ := h9.sR (by omega)
  generalize setR m9 a 4 (some (a + 5)) = m10 at h10 ⊢
  rw [u3_44, u3_45, u3_47 (x0 := 61) (hn := by decide), h10.1, show (61 : Int32).toNatClampNeg = 61 by decide]
  have h11 : Lai (mkCell m10 1 61) (a + 7) (s + 366) _ _ _ := h10.cell ((hK 6 (by omega)).trans (by decide +kernel)) (by omega) (by omega)
  generalize mkCell m10 1 61 = m11 at h11 ⊢
  rw [u3_49, if_pos (h11.k1 (i := a) (t := 108) (q := 10) (by omega) ((hK 0 (by omega)).trans (by decide +kernel)))]
  have h12 : Lai (setR m11 a 5 (some (a + 6))) (a + 7) (s + 366) _ _ _ := h11.sR (by omega)
  generalize setR m11 a 5 (some (a + 6)) = m12 at h12 ⊢
  rw [u3_52, u3_53, u3_55 (x0 := 61) (hn := by decide), h12.1, show (61 : Int32).toNatClampNeg = 61 by decide]
  have h13 : Lai (mkCell m12 1 61) (a + 8) (s + 427) _ _ _ := h12.cell ((hK 7 (by omega)).trans (by decide +kernel)) (by omega) (by omega)
  generalize mkCell m12 1 61 = m13 at h13 ⊢
  rw [u3_57, if_pos (h13.k1 (i := a) (t := 108) (q := 10) (by omega) ((hK 0 (by omega)).trans (by decide +kernel)))]
  have h14 : Lai (setR m13 a 6 (some (a + 7))) (a + 8) (s + 427) _ _ _ := h13.sR (by omega)
  generalize setR m13 a 6 (some (a + 7)) = m14 at h14 ⊢
  rw [u3_60]
  exact ⟨_, rfl, h14⟩
def rl2 (a : Nat) (R : AL Nat) : AL Nat := ((a, 12), a + 19) :: rl3 (a + 19) (((a, 11), a + 18) :: ((a, 10), a + 11) :: gdR (a + 11) 6 (((a, 9), a + 10) :: ((a, 8), a + 9) :: ((a, 7), a + 8) :: ((a, 6), a + 7) :: ((a, 5), a + 6) :: ((a, 4), a + 5) :: ((a, 3), a + 4) :: ((a, 2), a + 3) :: ((a, 1), a + 2) :: ((a, 0), a + 1) :: R))
def il2 (a : Nat) (I : AL Int32) : AL Int32 := ((a, 13), 8) :: I
theorem zc2 (d : Nat) {a s : Nat} {m : zMem} {R : AL Nat} {I : AL Int32} {L : AL Int64} (hK : ∀ i, i < 27 → shK (a + i) = shK (3 + i)) (h0 : Lai m (a + 1) s R I L) : ∃ m2, call (d + 2) 2 [.ref a] m = some (none, m2) ∧ Lai m2 (a + 27) (s + 555) (rl2 a R) (il2 a I) L := by
  rw [e2]
  rw [u2_0, u2_1, u2_4, u2_5, u2_7 (x0 := 7) (hn := by decide), h0.1, show (7 : Int32).toNatClampNeg = 7 by decide]
  have h1 : Lai (mkCell m 1 7) (a + 2) (s + 7) _ _ _ := h0.cell ((hK 1 (by omega)).trans (by decide +kernel)) (by omega) (by omega)
  generalize mkCell m 1 7 = m1 at h1 ⊢
  rw [u2_9, if_pos (h1.k1 (i := a) (t := 103) (q := 18) (by omega) ((hK 0 (by omega)).trans (by decide +kernel)))]
  have h2 : Lai (setR m1 a 0 (some (a + 1))) (a + 2) (s + 7) _ _ _ := h1.sR (by omega)
  generalize setR m1 a 0 (some (a + 1)) = m2 at h2 ⊢
  rw [u2_12, u2_13, u2_15 (x0 := 7) (hn := by decide), h2.1, show (7 : Int32).toNatClampNeg = 7 by decide]
  have h3 : Lai (mkCell m2 1 7) (a + 3) (s + 14) _ _ _ := h2.cell ((hK 2 (by omega)).trans (by decide +kernel)) (by omega) (by omega)
  generalize mkCell m2 1 7 = m3 at h3 ⊢
  rw [u2_17, if_pos (h3.k1 (i := a) (t := 103) (q := 18) (by omega) ((hK 0 (by omega)).trans (by decide +kernel)))]
  have h4 : Lai (setR m3 a 1 (some (a + 2))) (a + 3) (s + 14) _ _ _ := h3.sR (by omega)
  generalize setR m3 a 1 (some (a + 2)) = m4 at h4 ⊢
  rw [u2_20, u2_21, u2_23 (x0 := 7) (hn := by decide), h4.1, show (7 : Int32).toNatClampNeg = 7 by decide]
  have h5 : Lai (mkCell m4 1 7) (a + 4) (s + 21) _ _ _ := h4.cell ((hK 3 (by omega)).trans (by decide +kernel)) (by omega) (by omega)
  generalize mkCell m4 1 7 = m5 at h5 ⊢
  rw [u2_25, if_pos (h5.k1 (i := a) (t := 103) (q := 18) (by omega) ((hK 0 (by omega)).trans (by decide +kernel)))]
  have h6 : Lai (setR m5 a 2 (some (a + 3))) (a + 4) (s + 21) _ _ _ := h5.sR (by omega)
  generalize setR m5 a 2 (some (a + 3)) = m6 at h6 ⊢
  rw [u2_28, u2_29, u2_31 (x0 := 7) (hn := by decide), h6.1, show (7 : Int32).toNatClampNeg = 7 by decide]
  have h7 : Lai (mkCell m6 2 7) (a + 5) (s + 28) _ _ _ := h6.cell ((hK 4 (by omega)).trans (by decide +kernel)) (by omega) (by omega)
  generalize mkCell m6 2 7 = m7 at h7 ⊢
  rw [u2_33, if_pos (h7.k1 (i := a) (t := 103) (q := 18) (by omega) ((hK 0 (by omega)).trans (by decide +kernel)))]
  have h8 : Lai (setR m7 a 3 (some (a + 4))) (a + 5) (s + 28) _ _ _ := h7.sR (by omega)
  generalize setR m7 a 3 (some (a + 4)) = m8 at h8 ⊢
  rw [u2_36, u2_37, u2_39 (x0 := 6) (hn := by decide), h8.1, show (6 : Int32).toNatClampNeg = 6 by decide]
  have h9 : Lai (mkCell m8 1 6) (a + 6) (s + 34) _ _ _ := h8.cell ((hK 5 (by omega)).trans (by decide +kernel)) (by omega) (by omega)
  generalize mkCell m8 1 6 = m9 at h9 ⊢
  rw [u2_41, if_pos (h9.k1 (i := a) (t := 103) (q := 18) (by omega) ((hK 0 (by omega)).trans (by decide +kernel)))]
  have h10 : Lai (setR m9 a 4 (some (a + 5))) (a + 6) (s + 34) _ _ _ := h9.sR (by omega)
  generalize setR m9 a 4 (some (a + 5)) = m10 at h10 ⊢
  rw [u2_44, u2_45, u2_47 (x0 := 6) (hn := by decide), h10.1, show (6 : Int32).toNatClampNeg = 6 by decide]
  have h11 : Lai (mkCell m10 1 6) (a + 7) (s + 40) _ _ _ := h10.cell ((hK 6 (by omega)).trans (by decide +kernel)) (by omega) (by omega)
  generalize mkCell m10 1 6 = m11 at h11 ⊢
  rw [u2_49, if_pos (h11.k1 (i := a) (t := 103) (q := 18) (by omega) ((hK 0 (by omega)).trans (by decide +kernel)))]
  have h12 : Lai (setR m11 a 5 (some (a + 6))) (a + 7) (s + 40) _ _ _ := h11.sR (by omega)
  generalize setR m11 a 5 (some (a + 6)) = m12 at h12 ⊢
  rw [u2_52, u2_53, u2_55 (x0 := 6) (hn := by decide), h12.1, show (6 : Int32).toNatClampNeg = 6 by decide]
  have h13 : Lai (mkCell m12 1 6) (a + 8) (s + 46) _ _ _ := h12.cell ((hK 7 (by omega)).trans (by decide +kernel)) (by omega) (by omega)
  generalize mkCell m12 1 6 = m13 at h13 ⊢
  rw [u2_57, if_pos (h13.k1 (i := a) (t := 103) (q := 18) (by omega) ((hK 0 (by omega)).trans (by decide +kernel)))]
  have h14 : Lai (setR m13 a 6 (some (a + 7))) (a + 8) (s + 46) _ _ _ := h13.sR (by omega)
  generalize setR m13 a 6 (some (a + 7)) = m14 at h14 ⊢
  rw [u2_60, u2_61, u2_63 (x0 := 6) (hn := by decide), h14.1, show (6 : Int32).toNatClampNeg = 6 by decide]
  have h15 : Lai (mkCell m14 1 6) (a + 9) (s + 52) _ _ _ := h14.cell ((hK 8 (by omega)).trans (by decide +kernel)) (by omega) (by omega)
  generalize mkCell m14 1 6 = m15 at h15 ⊢
  rw [u2_65, if_pos (h15.k1 (i := a) (t := 103) (q := 18) (by omega) ((hK 0 (by omega)).trans (by decide +kernel)))]
  have h16 : Lai (setR m15 a 7 (some (a + 8))) (a + 9) (s + 52) _ _ _ := h15.sR (by omega)
  generalize setR m15 a 7 (some (a + 8)) = m16 at h16 ⊢
  rw [u2_68, u2_69, u2_71 (x0 := 6) (hn := by decide), h16.1, show (6 : Int32).toNatClampNeg = 6 by decide]
  have h17 : Lai (mkCell m16 1 6) (a + 10) (s + 58) _ _ _ := h16.cell ((hK 9 (by omega)).trans (by decide +kernel)) (by omega) (by omega)
  generalize mkCell m16 1 6 = m17 at h17 ⊢
  rw [u2_73, if_pos (h17.k1 (i := a) (t := 103) (q := 18) (by omega) ((hK 0 (by omega)).trans (by decide +kernel)))]
  have h18 : Lai (setR m17 a 8 (some (a + 9))) (a + 10) (s + 58) _ _ _ := h17.sR (by omega)
  generalize setR m17 a 8 (some (a + 9)) = m18 at h18 ⊢
  rw [u2_76, u2_77, u2_79 (x0 := 6) (hn := by decide), h18.1, show (6 : Int32).toNatClampNeg = 6 by decide]
  have h19 : Lai (mkCell m18 2 6) (a + 11) (s + 64) _ _ _ := h18.cell ((hK 10 (by omega)).trans (by decide +kernel)) (by omega) (by omega)
  generalize mkCell m18 2 6 = m19 at h19 ⊢
  rw [u2_81, if_pos (h19.k1 (i := a) (t := 103) (q := 18) (by omega) ((hK 0 (by omega)).trans (by decide +kernel)))]
  have h20 : Lai (setR m19 a 9 (some (a + 10))) (a + 11) (s + 64) _ _ _ := h19.sR (by omega)
  generalize setR m19 a 9 (some (a + 10)) = m20 at h20 ⊢
  rw [u2_84, u2_85, u2_87, u2_89 (x0 := 7) (x1 := 6) (hn := by decide), h20.1, show (6 : Int32).toNatClampNeg = 6 by decide, show (7 : Int32).toNatClampNeg = 7 by decide]
  have h21 : Lai (mkGrid m20 6 7) (a + 18) (s + 112) _ _ _ := h20.grid ((hK 11 (by omega)).trans (by decide +kernel)) (fun i hi => by rw [show a + 11 + 1 + i = a + (12 + i) by omega, hK (12 + i) (by omega)]; revert i; decide +kernel) (by omega) (by omega)
  generalize mkGrid m20 6 7 = m21 at h21 ⊢
  rw [u2_93, if_pos (h21.k1 (i := a) (t := 103) (q := 18) (by omega) ((hK 0 (by omega)).trans (by decide +kernel)))]
  have h22 : Lai (setR m21 a 10 (some (a + 11))) (a + 18) (s + 112) _ _ _ := h21.sR (by omega)
  generalize setR m21 a 10 (some (a + 11)) = m22 at h22 ⊢
  rw [u2_96, u2_97, u2_99 (x0 := 6) (hn := by decide), h22.1, show (6 : Int32).toNatClampNeg = 6 by decide]
  have h23 : Lai (mkCell m22 1 6) (a + 19) (s + 118) _ _ _ := h22.cell ((hK 18 (by omega)).trans (by decide +kernel)) (by omega) (by omega)
  generalize mkCell m22 1 6 = m23 at h23 ⊢
  rw [u2_101, if_pos (h23.k1 (i := a) (t := 103) (q := 18) (by omega) ((hK 0 (by omega)).trans (by decide +kernel)))]
  have h24 : Lai (setR m23 a 11 (some (a + 18))) (a + 19) (s + 118) _ _ _ := h23.sR (by omega)
  generalize setR m23 a 11 (some (a + 18)) = m24 at h24 ⊢
  rw [u2_104, u2_105, h24.1]
  have h25 : Lai (mkCell m24 108 10) (a + 20) (s + 128) _ _ _ := h24.cell ((hK 19 (by omega)).trans (by decide +kernel)) (by omega) (by omega)
  generalize mkCell m24 108 10 = m25 at h25 ⊢
  rw [u2_108]
  have g109 := h25.k1 (i := (a + 19)) (t := 108) (q := 10) (by omega) ((hK 19 (by omega)).trans (by decide +kernel))
  rw [u2_109 (x0 := (a + 19)) (m := m25) (h := g109)]
  obtain ⟨m26, e109, h26⟩ := zc3 _ (a := (a + 19)) (fun i hi => by rw [show a + 19 + i = a + (19 + i) by omega, hK (19 + i) (by omega), show 3 + (19 + i) = 22 + i by omega]) h25
  rw [e109, Option.bind_some]
  simp only [Option.toList_none, List.nil_append]
  have h26 : Lai m26 (a + 27) (s + 555) _ _ _ := h26.to (by omega) (by omega)
  rw [u2_112, if_pos (h26.k1 (i := a) (t := 103) (q := 18) (by omega) ((hK 0 (by omega)).trans (by decide +kernel)))]
  have h27 : Lai (setR m26 a 12 (some (a + 19))) (a + 27) (s + 555) _ _ _ := h26.sR (by omega)
  generalize setR m26 a 12 (some (a + 19)) = m27 at h27 ⊢
  rw [u2_115, u2_116, u2_118, if_pos (h27.k1 (i := a) (t := 103) (q := 18) (by omega) ((hK 0 (by omega)).trans (by decide +kernel)))]
  have h28 : Lai (setI m27 a 13 8) (a + 27) (s + 555) _ _ _ := h27.sI (by omega)
  generalize setI m27 a 13 8 = m28 at h28 ⊢
  rw [u2_121]
  exact ⟨_, rfl, h28⟩
def rl24 (a : Nat) (R : AL Nat) : AL Nat := ((a, 0), a + 1) :: R
def il24 (a : Nat) (I : AL Int32) : AL Int32 := ((a, 1), 1) :: I
theorem zc24 (d : Nat) {a s : Nat} {m : zMem} {R : AL Nat} {I : AL Int32} {L : AL Int64} (hK : ∀ i, i < 2 → shK (a + i) = shK (91 + i)) (h0 : Lai m (a + 1) s R I L) : ∃ m2, call (d + 1) 24 [.ref a] m = some (none, m2) ∧ Lai m2 (a + 2) (s + 60) (rl24 a R) (il24 a I) L := by
  rw [e24]
  rw [u24_0, u24_1, u24_4, u24_5, u24_7 (x0 := 60) (hn := by decide), h0.1, show (60 : Int32).toNatClampNeg = 60 by decide]
  have h1 : Lai (mkCell m 2 60) (a + 2) (s + 60) _ _ _ := h0.cell ((hK 1 (by omega)).trans (by decide +kernel)) (by omega) (by omega)
  generalize mkCell m 2 60 = m1 at h1 ⊢
  rw [u24_9, if_pos (h1.k1 (i := a) (t := 110) (q := 4) (by omega) ((hK 0 (by omega)).trans (by decide +kernel)))]
  have h2 : Lai (setR m1 a 0 (some (a + 1))) (a + 2) (s + 60) _ _ _ := h1.sR (by omega)
  generalize setR m1 a 0 (some (a + 1)) = m2 at h2 ⊢
  rw [u24_12, u24_13, u24_14, if_pos ⟨h2.k1 (i := a) (t := 110) (q := 4) (by omega) ((hK 0 (by omega)).trans (by decide +kernel)), by decide⟩]
  have h3 : Lai (setI m2 a 1 1) (a + 2) (s + 60) _ _ _ := h2.sI (by omega)
  generalize setI m2 a 1 1 = m3 at h3 ⊢
  rw [u24_17]
  exact ⟨_, rfl, h3⟩
def rl23 (a : Nat) (R : AL Nat) : AL Nat := R
def ll23 (a : Nat) (L : AL Int64) : AL Int64 := ((a, 1), 1) :: L
theorem zc23 (d : Nat) {a s : Nat} {m : zMem} {R : AL Nat} {I : AL Int32} {L : AL Int64} (hK : ∀ i, i < 1 → shK (a + i) = shK (89 + i)) (h0 : Lai m (a + 1) s R I L) : ∃ m2, call (d + 1) 23 [.ref a] m = some (none, m2) ∧ Lai m2 (a + 1) (s) (rl23 a R) I (ll23 a L) := by
  rw [e23]
  rw [u23_0, u23_1, u23_4, u23_5, u23_6, if_pos (h0.k1 (i := a) (t := 101) (q := 2) (by omega) ((hK 0 (by omega)).trans (by decide +kernel)))]
  have h1 : Lai (setL m a 1 1) (a + 1) (s) _ _ _ := h0.sL (by omega)
  generalize setL m a 1 1 = m1 at h1 ⊢
  rw [u23_9]
  exact ⟨_, rfl, h1⟩
def rl19 (a : Nat) (R : AL Nat) : AL Nat := ((a, 1), a + 2) :: ((a, 0), a + 1) :: R
theorem zc19 (d : Nat) {a s : Nat} {m : zMem} {R : AL Nat} {I : AL Int32} {L : AL Int64} (hK : ∀ i, i < 3 → shK (a + i) = shK (67 + i)) (h0 : Lai m (a + 1) s R I L) : ∃ m2, call (d + 1) 19 [.ref a] m = some (none, m2) ∧ Lai m2 (a + 3) (s + 66) (rl19 a R) I L := by
  rw [e19]
  rw [u19_0, u19_1, u19_4, u19_5, u19_7 (x0 := 61) (hn := by decide), h0.1, show (61 : Int32).toNatClampNeg = 61 by decide]
  have h1 : Lai (mkCell m 1 61) (a + 2) (s + 61) _ _ _ := h0.cell ((hK 1 (by omega)).trans (by decide +kernel)) (by omega) (by omega)
  generalize mkCell m 1 61 = m1 at h1 ⊢
  rw [u19_9, if_pos (h1.k1 (i := a) (t := 105) (q := 4) (by omega) ((hK 0 (by omega)).trans (by decide +kernel)))]
  have h2 : Lai (setR m1 a 0 (some (a + 1))) (a + 2) (s + 61) _ _ _ := h1.sR (by omega)
  generalize setR m1 a 0 (some (a + 1)) = m2 at h2 ⊢
  rw [u19_12, u19_13, u19_14 (x0 := 5) (hn := by decide), h2.1, show (5 : Int32).toNatClampNeg = 5 by decide]
  have h3 : Lai (mkCell m2 1 5) (a + 3) (s + 66) _ _ _ := h2.cell ((hK 2 (by omega)).trans (by decide +kernel)) (by omega) (by omega)
  generalize mkCell m2 1 5 = m3 at h3 ⊢
  rw [u19_16, if_pos (h3.k1 (i := a) (t := 105) (q := 4) (by omega) ((hK 0 (by omega)).trans (by decide +kernel)))]
  have h4 : Lai (setR m3 a 1 (some (a + 2))) (a + 3) (s + 66) _ _ _ := h3.sR (by omega)
  generalize setR m3 a 1 (some (a + 2)) = m4 at h4 ⊢
  rw [u19_19]
  exact ⟨_, rfl, h4⟩
def rl20 (a : Nat) (R : AL Nat) : AL Nat := ((a, 2), a + 3) :: ((a, 1), a + 2) :: ((a, 0), a + 1) :: R
theorem zc20 (d : Nat) {a s : Nat} {m : zMem} {R : AL Nat} {I : AL Int32} {L : AL Int64} (hK : ∀ i, i < 4 → shK (a + i) = shK (70 + i)) (h0 : Lai m (a + 1) s R I L) : ∃ m2, call (d + 1) 20 [.ref a] m = some (none, m2) ∧ Lai m2 (a + 4) (s + 263) (rl20 a R) I L := by
  rw [e20]
  rw [u20_0, u20_1, u20_4, u20_5, u20_7 (x0 := 7) (hn := by decide), h0.1, show (7 : Int32).toNatClampNeg = 7 by decide]
  have h1 : Lai (mkCell m 1 7) (a + 2) (s + 7) _ _ _ := h0.cell ((hK 1 (by omega)).trans (by decide +kernel)) (by omega) (by omega)
  generalize mkCell m 1 7 = m1 at h1 ⊢
  rw [u20_9, if_pos (h1.k1 (i := a) (t := 106) (q := 9) (by omega) ((hK 0 (by omega)).trans (by decide +kernel)))]
  have h2 : Lai (setR m1 a 0 (some (a + 1))) (a + 2) (s + 7) _ _ _ := h1.sR (by omega)
  generalize setR m1 a 0 (some (a + 1)) = m2 at h2 ⊢
  rw [u20_12, u20_13, u20_16 (x0 := 128) (hn := by decide), h2.1, show (128 : Int32).toNatClampNeg = 128 by decide]
  have h3 : Lai (mkCell m2 1 128) (a + 3) (s + 135) _ _ _ := h2.cell ((hK 2 (by omega)).trans (by decide +kernel)) (by omega) (by omega)
  generalize mkCell m2 1 128 = m3 at h3 ⊢
  rw [u20_18, if_pos (h3.k1 (i := a) (t := 106) (q := 9) (by omega) ((hK 0 (by omega)).trans (by decide +kernel)))]
  have h4 : Lai (setR m3 a 1 (some (a + 2))) (a + 3) (s + 135) _ _ _ := h3.sR (by omega)
  generalize setR m3 a 1 (some (a + 2)) = m4 at h4 ⊢
  rw [u20_21, u20_22, u20_25 (x0 := 128) (hn := by decide), h4.1, show (128 : Int32).toNatClampNeg = 128 by decide]
  have h5 : Lai (mkCell m4 1 128) (a + 4) (s + 263) _ _ _ := h4.cell ((hK 3 (by omega)).trans (by decide +kernel)) (by omega) (by omega)
  generalize mkCell m4 1 128 = m5 at h5 ⊢
  rw [u20_27, if_pos (h5.k1 (i := a) (t := 106) (q := 9) (by omega) ((hK 0 (by omega)).trans (by decide +kernel)))]
  have h6 : Lai (setR m5 a 2 (some (a + 3))) (a + 4) (s + 263) _ _ _ := h5.sR (by omega)
  generalize setR m5 a 2 (some (a + 3)) = m6 at h6 ⊢
  rw [u20_30]
  exact ⟨_, rfl, h6⟩
def rl21 (a : Nat) (R : AL Nat) : AL Nat := ((a, 3), a + 4) :: ((a, 2), a + 3) :: ((a, 1), a + 2) :: ((a, 0), a + 1) :: R
theorem zc21 (d : Nat) {a s : Nat} {m : zMem} {R : AL Nat} {I : AL Int32} {L : AL Int64} (hK : ∀ i, i < 5 → shK (a + i) = shK (74 + i)) (h0 : Lai m (a + 1) s R I L) : ∃ m2, call (d + 1) 21 [.ref a] m = some (none, m2) ∧ Lai m2 (a + 5) (s + 684) (rl21 a R) I L := by
  rw [e21]
  rw [u21_0, u21_1, u21_4, u21_5, u21_8 (x0 := 128) (hn := by decide), h0.1, show (128 : Int32).toNatClampNeg = 128 by decide]
  have h1 : Lai (mkCell m 1 128) (a + 2) (s + 128) _ _ _ := h0.cell ((hK 1 (by omega)).trans (by decide +kernel)) (by omega) (by omega)
  generalize mkCell m 1 128 = m1 at h1 ⊢
  rw [u21_10, if_pos (h1.k1 (i := a) (t := 107) (q := 5) (by omega) ((hK 0 (by omega)).trans (by decide +kernel)))]
  have h2 : Lai (setR m1 a 0 (some (a + 1))) (a + 2) (s + 128) _ _ _ := h1.sR (by omega)
  generalize setR m1 a 0 (some (a + 1)) = m2 at h2 ⊢
  rw [u21_13, u21_14, u21_16 (x0 := 7) (hn := by decide), h2.1, show (7 : Int32).toNatClampNeg = 7 by decide]
  have h3 : Lai (mkCell m2 1 7) (a + 3) (s + 135) _ _ _ := h2.cell ((hK 2 (by omega)).trans (by decide +kernel)) (by omega) (by omega)
  generalize mkCell m2 1 7 = m3 at h3 ⊢
  rw [u21_18, if_pos (h3.k1 (i := a) (t := 107) (q := 5) (by omega) ((hK 0 (by omega)).trans (by decide +kernel)))]
  have h4 : Lai (setR m3 a 1 (some (a + 2))) (a + 3) (s + 135) _ _ _ := h3.sR (by omega)
  generalize setR m3 a 1 (some (a + 2)) = m4 at h4 ⊢
  rw [u21_21, u21_22, u21_25 (x0 := 421) (hn := by decide), h4.1, show (421 : Int32).toNatClampNeg = 421 by decide]
  have h5 : Lai (mkCell m4 1 421) (a + 4) (s + 556) _ _ _ := h4.cell ((hK 3 (by omega)).trans (by decide +kernel)) (by omega) (by omega)
  generalize mkCell m4 1 421 = m5 at h5 ⊢
  rw [u21_27, if_pos (h5.k1 (i := a) (t := 107) (q := 5) (by omega) ((hK 0 (by omega)).trans (by decide +kernel)))]
  have h6 : Lai (setR m5 a 2 (some (a + 3))) (a + 4) (s + 556) _ _ _ := h5.sR (by omega)
  generalize setR m5 a 2 (some (a + 3)) = m6 at h6 ⊢
  rw [u21_30, u21_31, u21_34 (x0 := 128) (hn := by decide), h6.1, show (128 : Int32).toNatClampNeg = 128 by decide]
  have h7 : Lai (mkCell m6 1 128) (a + 5) (s + 684) _ _ _ := h6.cell ((hK 4 (by omega)).trans (by decide +kernel)) (by omega) (by omega)
  generalize mkCell m6 1 128 = m7 at h7 ⊢
  rw [u21_36, if_pos (h7.k1 (i := a) (t := 107) (q := 5) (by omega) ((hK 0 (by omega)).trans (by decide +kernel)))]
  have h8 : Lai (setR m7 a 3 (some (a + 4))) (a + 5) (s + 684) _ _ _ := h7.sR (by omega)
  generalize setR m7 a 3 (some (a + 4)) = m8 at h8 ⊢
  rw [u21_39]
  exact ⟨_, rfl, h8⟩
def rl22 (a : Nat) (R : AL Nat) : AL Nat := ((a, 1), a + 2) :: gdR (a + 2) 7 (((a, 0), a + 1) :: R)
theorem zc22 (d : Nat) {a s : Nat} {m : zMem} {R : AL Nat} {I : AL Int32} {L : AL Int64} (hK : ∀ i, i < 10 → shK (a + i) = shK (79 + i)) (h0 : Lai m (a + 1) s R I L) : ∃ m2, call (d + 1) 22 [.ref a] m = some (none, m2) ∧ Lai m2 (a + 10) (s + 909) (rl22 a R) I L := by
  rw [e22]
  rw [u22_0, u22_1, u22_4, u22_5, u22_7 (x0 := 6) (hn := by decide), h0.1, show (6 : Int32).toNatClampNeg = 6 by decide]
  have h1 : Lai (mkCell m 1 6) (a + 2) (s + 6) _ _ _ := h0.cell ((hK 1 (by omega)).trans (by decide +kernel)) (by omega) (by omega)
  generalize mkCell m 1 6 = m1 at h1 ⊢
  rw [u22_9, if_pos (h1.k1 (i := a) (t := 102) (q := 3) (by omega) ((hK 0 (by omega)).trans (by decide +kernel)))]
  have h2 : Lai (setR m1 a 0 (some (a + 1))) (a + 2) (s + 6) _ _ _ := h1.sR (by omega)
  generalize setR m1 a 0 (some (a + 1)) = m2 at h2 ⊢
  rw [u22_12, u22_13, u22_15, u22_18 (x0 := 128) (x1 := 7) (hn := by decide), h2.1, show (7 : Int32).toNatClampNeg = 7 by decide, show (128 : Int32).toNatClampNeg = 128 by decide]
  have h3 : Lai (mkGrid m2 7 128) (a + 10) (s + 909) _ _ _ := h2.grid ((hK 2 (by omega)).trans (by decide +kernel)) (fun i hi => by rw [show a + 2 + 1 + i = a + (3 + i) by omega, hK (3 + i) (by omega)]; revert i; decide +kernel) (by omega) (by omega)
  generalize mkGrid m2 7 128 = m3 at h3 ⊢
  rw [u22_22, if_pos (h3.k1 (i := a) (t := 102) (q := 3) (by omega) ((hK 0 (by omega)).trans (by decide +kernel)))]
  have h4 : Lai (setR m3 a 1 (some (a + 2))) (a + 10) (s + 909) _ _ _ := h3.sR (by omega)
  generalize setR m3 a 1 (some (a + 2)) = m4 at h4 ⊢
  rw [u22_25]
  exact ⟨_, rfl, h4⟩
def rl5 (a : Nat) (R : AL Nat) : AL Nat := ((a, 1), a + 2) :: ((a, 0), a + 1) :: R
/-- the words' text: how many words are done, and the code of the letters since -/
def tkC (i : Nat) : Nat := zWordsText.getD i 0
def tkW : Nat → Nat × Nat
  | 0 => (0, 0)
  | i + 1 => if tkC i = 32 then ((tkW i).1 + 1, 0) else ((tkW i).1, 27 * (tkW i).2 + (tkC i - 96))
def tkL (a : Nat) (L : AL Int64) : Nat → AL Int64
  | 0 => L
  | i + 1 => if tkC i = 32 then ((a + 1, (tkW i).1), lN (tkW i).2) :: tkL a L i else tkL a L i
theorem tk_len : zWordsText.length = 109 := by decide +kernel
theorem tk_ok : ∀ i, i < 109 → (tkW i).1 < 21 ∧ (tkW i).2 < 2 ^ 50 ∧ (tkC i = 32 ∨ (97 ≤ tkC i ∧ tkC i ≤ 122)) := by decide +kernel
def ll5 (a : Nat) (L : AL Int64) : AL Int64 := tkL a L 109
theorem tk_loop (d : Nat) {a s : Nat} {R : AL Nat} {I : AL Int32} {L : AL Int64} (hA : shK a = (109, 15)) (hB : shK (a + 1) = (2, 21)) (hR : List.lookup (a, 0) R = some (a + 1)) : ∀ (r i : Nat) (m : zMem), i + r = 109 → Lai m (a + 3) s R I (tkL a L i) → ∃ m2, run (d + 5) 5 26 [.ref a, .int (nI (tkW i).1), .long (lN (tkW i).2), jk, .int (nI i)] [] m = some (none, m2) ∧ Lai m2 (a + 3) s R I (ll5 a L) := by
  intro r
  induction r with
  | zero =>
    intro i m hi h
    obtain rfl : i = 109 := by omega
    rw [u5_26, u5_28, u5_30, u5_33, tk_len, if_pos (by decide), u5_87]
    exact ⟨_, rfl, h⟩
  | succ r ih =>
    intro i m hi h
    have hlt : i < 109 := by omega
    obtain ⟨k1, k2, k3⟩ := tk_ok i hlt
    have e1 : ¬ (Int32.ofNat zWordsText.length ≤ nI i) := by rw [tk_len]; exact (fun q => absurd (show nI 109 ≤ nI i from q) (by rw [nI_leF (by omega) (by omega)]; exact id))
    have e2 : ¬ ((21 : Int32) ≤ nI (tkW i).1) := fun q => absurd (show nI 21 ≤ nI (tkW i).1 from q) (by rw [nI_leF (by omega) (by omega)]; exact id)
    have e3 : inB (nI i) zWordsText.length = true := by rw [tk_len]; exact inB_nI (by omega) (by omega)
    have e4 : (nI i).toNatClampNeg = i := nI_clamp (by omega)
    have hn := ih (i + 1) 
    rw [u5_26, u5_28, u5_30, u5_33, if_neg e1, u5_36, u5_37, u5_39, if_neg e2, u5_42, u5_44, u5_46 (x0 := nI i) (h := e3), e4, u5_49, u5_51]
    by_cases hc : tkC i = 32
    · rw [if_neg (by rw [show zWordsText.getD i 0 = 32 from hc]; decide), u5_54, u5_55, if_pos (h.k1 (by omega) hA), h.2.2.2.2.2.2.1 a 0, hR, va_rf_some, u5_58, u5_59, u5_60, if_pos ⟨h.k1 (by omega) hB, by rw [h.k (i := a + 1) (by omega) hB]; exact inB_nI (by omega) (by omega)⟩, nI_clamp (by omega), u5_61, u5_64, u5_65, u5_66, u5_81 (h9 := by decide), u5_84]
      have h2 := h.sL (i := a + 1) (j := (tkW i).1) (v := lN (tkW i).2) (by omega)
      have e5 : tkW (i + 1) = ((tkW i).1 + 1, 0) := if_pos hc
      have e6 : tkL a L (i + 1) = ((a + 1, (tkW i).1), lN (tkW i).2) :: tkL a L i := if_pos hc
      have h3 := hn (setL m (a + 1) (tkW i).1 (lN (tkW i).2)) (by omega) (by rw [e6]; exact h2)
      rw [e5] at h3
      rw [show nI (tkW i).1 + 1 = nI ((tkW i).1 + 1) from nI_add (tkW i).1 1, show nI i + 1 = nI (i + 1) from nI_add i 1]
      exact h3
    · have k4 : 97 ≤ tkC i ∧ tkC i ≤ 122 := by omega
      have e7 : ¬ (Int32.ofNat (zWordsText.getD i 0) = 32) := fun q => absurd (show nI (tkC i) = nI 32 from q) (by rw [nI_eqF (by omega) (by omega) (by omega)]; exact id)
      have cw := C_withLetter (d + 4) m (x := (tkW i).2) (c := tkC i) k2 k4.1 k4.2
      rw [if_pos e7, u5_69, u5_70, u5_72, u5_74 (x0 := nI i) (h := e3), e4, u5_77, show Int32.ofNat (zWordsText.getD i 0) = nI (tkC i) from rfl, cw, Option.bind_some]
      simp only [Option.toList_some, List.cons_append, List.nil_append]
      rw [u5_80, u5_81 (h9 := by decide), u5_84]
      have e5 : tkW (i + 1) = ((tkW i).1, 27 * (tkW i).2 + (tkC i - 96)) := if_neg hc
      have e6 : tkL a L (i + 1) = tkL a L i := if_neg hc
      have h3 := hn m (by omega) (by rw [e6]; exact h)
      rw [e5] at h3
      rw [show nI i + 1 = nI (i + 1) from nI_add i 1]
      exact h3
theorem zc5 (d : Nat) {a s : Nat} {m : zMem} {R : AL Nat} {I : AL Int32} {L : AL Int64} (hK : ∀ i, i < 3 → shK (a + i) = shK (59 + i)) (h0 : Lai m (a + 1) s R I L) : ∃ m2, call (d + 5) 5 [.ref a] m = some (none, m2) ∧ Lai m2 (a + 3) (s + 21) (rl5 a R) I (ll5 a L) := by
  rw [e5]
  rw [u5_0, u5_1, u5_4, u5_5, u5_7 (x0 := 21) (hn := by decide), h0.1, show (21 : Int32).toNatClampNeg = 21 by decide]
  have h1 : Lai (mkCell m 2 21) (a + 2) (s + 21) _ _ _ := h0.cell ((hK 1 (by omega)).trans (by decide +kernel)) (by omega) (by omega)
  generalize mkCell m 2 21 = m1 at h1 ⊢
  rw [u5_9, if_pos (h1.k1 (i := a) (t := 109) (q := 15) (by omega) ((hK 0 (by omega)).trans (by decide +kernel)))]
  have h2 : Lai (setR m1 a 0 (some (a + 1))) (a + 2) (s + 21) _ _ _ := h1.sR (by omega)
  generalize setR m1 a 0 (some (a + 1)) = m2 at h2 ⊢
  rw [u5_12, u5_13, u5_14 (x0 := 0) (hn := by decide), h2.1, show (0 : Int32).toNatClampNeg = 0 by decide]
  have h3 : Lai (mkCell m2 3 0) (a + 3) (s + 21) _ _ _ := h2.cell ((hK 2 (by omega)).trans (by decide +kernel)) (by omega) (by omega)
  generalize mkCell m2 3 0 = m3 at h3 ⊢
  rw [u5_16, if_pos (h3.k1 (i := a) (t := 109) (q := 15) (by omega) ((hK 0 (by omega)).trans (by decide +kernel)))]
  have h4 : Lai (setR m3 a 1 (some (a + 2))) (a + 3) (s + 21) _ _ _ := h3.sR (by omega)
  generalize setR m3 a 1 (some (a + 2)) = m4 at h4 ⊢
  rw [u5_19, u5_20, u5_21, u5_22, u5_23, u5_24 (h9 := by decide)]
  exact tk_loop (a := a) d ((hK 0 (by omega)).trans (by decide +kernel)) ((hK 1 (by omega)).trans (by decide +kernel)) (by unfold rl5; rw [al_cons, if_neg (by omega), al_cons, if_pos ⟨rfl, rfl⟩]) 109 0 m4 rfl h4
def rl4 (a : Nat) (R : AL Nat) : AL Nat := ((a, 0), a + 1) :: rl5 (a + 1) (R)
def ll4 (a : Nat) (L : AL Int64) : AL Int64 := ll5 (a + 1) (L)
theorem zc4 (d : Nat) {a s : Nat} {m : zMem} {R : AL Nat} {I : AL Int32} {L : AL Int64} (hK : ∀ i, i < 4 → shK (a + i) = shK (58 + i)) (h0 : Lai m (a + 1) s R I L) : ∃ m2, call (d + 6) 4 [.ref a] m = some (none, m2) ∧ Lai m2 (a + 4) (s + 36) (rl4 a R) I (ll4 a L) := by
  rw [e4]
  rw [u4_0, u4_1, u4_4, u4_5, h0.1]
  have h1 : Lai (mkCell m 109 15) (a + 2) (s + 15) _ _ _ := h0.cell ((hK 1 (by omega)).trans (by decide +kernel)) (by omega) (by omega)
  generalize mkCell m 109 15 = m1 at h1 ⊢
  rw [u4_8]
  have g9 := h1.k1 (i := (a + 1)) (t := 109) (q := 15) (by omega) ((hK 1 (by omega)).trans (by decide +kernel))
  rw [u4_9 (x0 := (a + 1)) (m := m1) (h := g9)]
  obtain ⟨m2, e9, h2⟩ := zc5 _ (a := (a + 1)) (fun i hi => by rw [show a + 1 + i = a + (1 + i) by omega, hK (1 + i) (by omega), show 58 + (1 + i) = 59 + i by omega]) h1
  rw [e9, Option.bind_some]
  simp only [Option.toList_none, List.nil_append]
  have h2 : Lai m2 (a + 4) (s + 36) _ _ _ := h2.to (by omega) (by omega)
  rw [u4_12, if_pos (h2.k1 (i := a) (t := 104) (q := 3) (by omega) ((hK 0 (by omega)).trans (by decide +kernel)))]
  have h3 : Lai (setR m2 a 0 (some (a + 1))) (a + 4) (s + 36) _ _ _ := h2.sR (by omega)
  generalize setR m2 a 0 (some (a + 1)) = m3 at h3 ⊢
  rw [u4_15]
  exact ⟨_, rfl, h3⟩
def rl18 (a : Nat) (R : AL Nat) : AL Nat := ((a, 1), a + 4) :: ((a, 0), a + 1) :: rl5 (a + 1) (R)
def ll18 (a : Nat) (L : AL Int64) : AL Int64 := ll5 (a + 1) (L)
theorem zc18 (d : Nat) {a s : Nat} {m : zMem} {R : AL Nat} {I : AL Int32} {L : AL Int64} (hK : ∀ i, i < 5 → shK (a + i) = shK (62 + i)) (h0 : Lai m (a + 1) s R I L) : ∃ m2, call (d + 6) 18 [.ref a] m = some (none, m2) ∧ Lai m2 (a + 5) (s + 39) (rl18 a R) I (ll18 a L) := by
  rw [e18]
  rw [u18_0, u18_1, u18_4, u18_5, h0.1]
  have h1 : Lai (mkCell m 109 15) (a + 2) (s + 15) _ _ _ := h0.cell ((hK 1 (by omega)).trans (by decide +kernel)) (by omega) (by omega)
  generalize mkCell m 109 15 = m1 at h1 ⊢
  rw [u18_8]
  have g9 := h1.k1 (i := (a + 1)) (t := 109) (q := 15) (by omega) ((hK 1 (by omega)).trans (by decide +kernel))
  rw [u18_9 (x0 := (a + 1)) (m := m1) (h := g9)]
  obtain ⟨m2, e9, h2⟩ := zc5 _ (a := (a + 1)) (fun i hi => by rw [show a + 1 + i = a + (1 + i) by omega, hK (1 + i) (by omega), show 62 + (1 + i) = 63 + i by omega]; revert i; decide +kernel) h1
  rw [e9, Option.bind_some]
  simp only [Option.toList_none, List.nil_append]
  have h2 : Lai m2 (a + 4) (s + 36) _ _ _ := h2.to (by omega) (by omega)
  rw [u18_12, if_pos (h2.k1 (i := a) (t := 100) (q := 3) (by omega) ((hK 0 (by omega)).trans (by decide +kernel)))]
  have h3 : Lai (setR m2 a 0 (some (a + 1))) (a + 4) (s + 36) _ _ _ := h2.sR (by omega)
  generalize setR m2 a 0 (some (a + 1)) = m3 at h3 ⊢
  rw [u18_15, u18_16, u18_17 (x0 := 3) (hn := by decide), h3.1, show (3 : Int32).toNatClampNeg = 3 by decide]
  have h4 : Lai (mkCell m3 1 3) (a + 5) (s + 39) _ _ _ := h3.cell ((hK 4 (by omega)).trans (by decide +kernel)) (by omega) (by omega)
  generalize mkCell m3 1 3 = m4 at h4 ⊢
  rw [u18_19, if_pos (h4.k1 (i := a) (t := 100) (q := 3) (by omega) ((hK 0 (by omega)).trans (by decide +kernel)))]
  have h5 : Lai (setR m4 a 1 (some (a + 4))) (a + 5) (s + 39) _ _ _ := h4.sR (by omega)
  generalize setR m4 a 1 (some (a + 4)) = m5 at h5 ⊢
  rw [u18_22]
  exact ⟨_, rfl, h5⟩
