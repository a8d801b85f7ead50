/-! THE PURE PART. The two outer constructors -/
theorem Lai.rf {m : zMem} {n s x j v : Nat} {R : AL Nat} {I : AL Int32} {L : AL Int64} (h : Lai m n s R I L) (e : List.lookup (x, j) R = some v) : memR m x j = some v := (h.2.2.2.2.2.2.1 x j).trans e
def rl0 : AL Nat := ((57, 2), 153) :: rl2 153 (((57, 1), 126) :: rl2 126 (((57, 0), 99) :: rl2 99 (((1, 3), 97) :: rl24 97 (((1, 2), 95) :: rl24 95 (((1, 1), 93) :: rl24 93 (((1, 0), 91) :: rl24 91 (((0, 12), 90) :: ((0, 11), 89) :: rl23 89 (((0, 10), 79) :: rl22 79 (((0, 9), 74) :: rl21 74 (((0, 8), 70) :: rl20 70 (((0, 7), 67) :: rl19 67 (((0, 6), 62) :: rl18 62 (((0, 5), 58) :: rl4 58 (((0, 4), 57) :: ((0, 3), 30) :: rl2 30 (((0, 2), 3) :: rl2 3 (((0, 1), 2) :: ((0, 0), 1) :: []))))))))))))))))
def il0 : AL Int32 := il2 153 (il2 126 (il2 99 (il24 97 (il24 95 (il24 93 (il24 91 (((0, 18), (-1)) :: ((0, 17), (-1)) :: il2 30 (il2 3 ([])))))))))
def ll0 : AL Int64 := ll23 89 (ll18 62 (ll4 58 ([])))
set_option maxRecDepth 100000 in
set_option maxHeartbeats 4000000 in
theorem zc0 (d : Nat) {s : Nat} {m : zMem} (h0 : Lai m 1 s [] [] []) : ∃ m2, call (d + 7) 0 [.ref 0] m = some (none, m2) ∧ Lai m2 180 (s + 6059) rl0 il0 ll0 := by
  rw [e0]
  rw [u0_0, u0_1, u0_4, u0_5, u0_6 (x0 := 4) (hn := by decide), h0.1, show (4 : Int32).toNatClampNeg = 4 by decide]
  have h1 : Lai (mkCell m 5 4) (2) (s + 4) _ _ _ := h0.cell (by decide +kernel) (by omega) (by omega)
  generalize mkCell m 5 4 = m1 at h1 ⊢
  rw [u0_9, if_pos (h1.k1 (i := 0) (t := 111) (q := 19) (by omega) (by decide +kernel))]
  have h2 : Lai (setR m1 0 0 (some 1)) (2) (s + 4) _ _ _ := h1.sR (by omega)
  generalize setR m1 0 0 (some 1) = m2 at h2 ⊢
  rw [u0_12, u0_13, u0_16 (x0 := 900) (hn := by decide), h2.1, show (900 : Int32).toNatClampNeg = 900 by decide]
  have h3 : Lai (mkCell m2 3 900) (3) (s + 904) _ _ _ := h2.cell (by decide +kernel) (by omega) (by omega)
  generalize mkCell m2 3 900 = m3 at h3 ⊢
  rw [u0_18, if_pos (h3.k1 (i := 0) (t := 111) (q := 19) (by omega) (by decide +kernel))]
  have h4 : Lai (setR m3 0 1 (some 2)) (3) (s + 904) _ _ _ := h3.sR (by omega)
  generalize setR m3 0 1 (some 2) = m4 at h4 ⊢
  rw [u0_21, u0_22, h4.1]
  have h5 : Lai (mkCell m4 103 18) (4) (s + 922) _ _ _ := h4.cell (by decide +kernel) (by omega) (by omega)
  generalize mkCell m4 103 18 = m5 at h5 ⊢
  rw [u0_25]
  have g26 := h5.k1 (i := 3) (t := 103) (q := 18) (by omega) (by decide +kernel)
  rw [u0_26 (x0 := 3) (m := m5) (h := g26)]
  obtain ⟨m6, e26, h6⟩ := zc2 _ (a := 3) (by decide +kernel) h5
  rw [e26, Option.bind_some]
  simp only [Option.toList_none, List.nil_append]
  have h6 : Lai m6 (30) (s + 1477) _ _ _ := h6.to (by omega) (by omega)
  rw [u0_29, if_pos (h6.k1 (i := 0) (t := 111) (q := 19) (by omega) (by decide +kernel))]
  have h7 : Lai (setR m6 0 2 (some 3)) (30) (s + 1477) _ _ _ := h6.sR (by omega)
  generalize setR m6 0 2 (some 3) = m7 at h7 ⊢
  rw [u0_32, u0_33, h7.1]
  have h8 : Lai (mkCell m7 103 18) (31) (s + 1495) _ _ _ := h7.cell (by decide +kernel) (by omega) (by omega)
  generalize mkCell m7 103 18 = m8 at h8 ⊢
  rw [u0_36]
  have g37 := h8.k1 (i := 30) (t := 103) (q := 18) (by omega) (by decide +kernel)
  rw [u0_37 (x0 := 30) (m := m8) (h := g37)]
  obtain ⟨m9, e37, h9⟩ := zc2 _ (a := 30) (by decide +kernel) h8
  rw [e37, Option.bind_some]
  simp only [Option.toList_none, List.nil_append]
  have h9 : Lai m9 (57) (s + 2050) _ _ _ := h9.to (by omega) (by omega)
  rw [u0_40, if_pos (h9.k1 (i := 0) (t := 111) (q := 19) (by omega) (by decide +kernel))]
  have h10 : Lai (setR m9 0 3 (some 30)) (57) (s + 2050) _ _ _ := h9.sR (by omega)
  generalize setR m9 0 3 (some 30) = m10 at h10 ⊢
  rw [u0_43, u0_44, u0_45 (x0 := 3) (hn := by decide), h10.1, show (3 : Int32).toNatClampNeg = 3 by decide]
  have h11 : Lai (mkCell m10 6 3) (58) (s + 2053) _ _ _ := h10.cell (by decide +kernel) (by omega) (by omega)
  generalize mkCell m10 6 3 = m11 at h11 ⊢
  rw [u0_48, if_pos (h11.k1 (i := 0) (t := 111) (q := 19) (by omega) (by decide +kernel))]
  have h12 : Lai (setR m11 0 4 (some 57)) (58) (s + 2053) _ _ _ := h11.sR (by omega)
  generalize setR m11 0 4 (some 57) = m12 at h12 ⊢
  rw [u0_51, u0_52, h12.1]
  have h13 : Lai (mkCell m12 104 3) (59) (s + 2056) _ _ _ := h12.cell (by decide +kernel) (by omega) (by omega)
  generalize mkCell m12 104 3 = m13 at h13 ⊢
  rw [u0_55]
  have g56 := h13.k1 (i := 58) (t := 104) (q := 3) (by omega) (by decide +kernel)
  rw [u0_56 (x0 := 58) (m := m13) (h := g56)]
  obtain ⟨m14, e56, h14⟩ := zc4 _ (a := 58) (by decide +kernel) h13
  rw [e56, Option.bind_some]
  simp only [Option.toList_none, List.nil_append]
  have h14 : Lai m14 (62) (s + 2092) _ _ _ := h14.to (by omega) (by omega)
  rw [u0_59, if_pos (h14.k1 (i := 0) (t := 111) (q := 19) (by omega) (by decide +kernel))]
  have h15 : Lai (setR m14 0 5 (some 58)) (62) (s + 2092) _ _ _ := h14.sR (by omega)
  generalize setR m14 0 5 (some 58) = m15 at h15 ⊢
  rw [u0_62, u0_63, h15.1]
  have h16 : Lai (mkCell m15 100 3) (63) (s + 2095) _ _ _ := h15.cell (by decide +kernel) (by omega) (by omega)
  generalize mkCell m15 100 3 = m16 at h16 ⊢
  rw [u0_66]
  have g67 := h16.k1 (i := 62) (t := 100) (q := 3) (by omega) (by decide +kernel)
  rw [u0_67 (x0 := 62) (m := m16) (h := g67)]
  obtain ⟨m17, e67, h17⟩ := zc18 _ (a := 62) (by decide +kernel) h16
  rw [e67, Option.bind_some]
  simp only [Option.toList_none, List.nil_append]
  have h17 : Lai m17 (67) (s + 2134) _ _ _ := h17.to (by omega) (by omega)
  rw [u0_70, if_pos (h17.k1 (i := 0) (t := 111) (q := 19) (by omega) (by decide +kernel))]
  have h18 : Lai (setR m17 0 6 (some 62)) (67) (s + 2134) _ _ _ := h17.sR (by omega)
  generalize setR m17 0 6 (some 62) = m18 at h18 ⊢
  rw [u0_73, u0_74, h18.1]
  have h19 : Lai (mkCell m18 105 4) (68) (s + 2138) _ _ _ := h18.cell (by decide +kernel) (by omega) (by omega)
  generalize mkCell m18 105 4 = m19 at h19 ⊢
  rw [u0_77]
  have g78 := h19.k1 (i := 67) (t := 105) (q := 4) (by omega) (by decide +kernel)
  rw [u0_78 (x0 := 67) (m := m19) (h := g78)]
  obtain ⟨m20, e78, h20⟩ := zc19 _ (a := 67) (by decide +kernel) h19
  rw [e78, Option.bind_some]
  simp only [Option.toList_none, List.nil_append]
  have h20 : Lai m20 (70) (s + 2204) _ _ _ := h20.to (by omega) (by omega)
  rw [u0_81, if_pos (h20.k1 (i := 0) (t := 111) (q := 19) (by omega) (by decide +kernel))]
  have h21 : Lai (setR m20 0 7 (some 67)) (70) (s + 2204) _ _ _ := h20.sR (by omega)
  generalize setR m20 0 7 (some 67) = m21 at h21 ⊢
  rw [u0_84, u0_85, h21.1]
  have h22 : Lai (mkCell m21 106 9) (71) (s + 2213) _ _ _ := h21.cell (by decide +kernel) (by omega) (by omega)
  generalize mkCell m21 106 9 = m22 at h22 ⊢
  rw [u0_88]
  have g89 := h22.k1 (i := 70) (t := 106) (q := 9) (by omega) (by decide +kernel)
  rw [u0_89 (x0 := 70) (m := m22) (h := g89)]
  obtain ⟨m23, e89, h23⟩ := zc20 _ (a := 70) (by decide +kernel) h22
  rw [e89, Option.bind_some]
  simp only [Option.toList_none, List.nil_append]
  have h23 : Lai m23 (74) (s + 2476) _ _ _ := h23.to (by omega) (by omega)
  rw [u0_92, if_pos (h23.k1 (i := 0) (t := 111) (q := 19) (by omega) (by decide +kernel))]
  have h24 : Lai (setR m23 0 8 (some 70)) (74) (s + 2476) _ _ _ := h23.sR (by omega)
  generalize setR m23 0 8 (some 70) = m24 at h24 ⊢
  rw [u0_95, u0_96, h24.1]
  have h25 : Lai (mkCell m24 107 5) (75) (s + 2481) _ _ _ := h24.cell (by decide +kernel) (by omega) (by omega)
  generalize mkCell m24 107 5 = m25 at h25 ⊢
  rw [u0_99]
  have g100 := h25.k1 (i := 74) (t := 107) (q := 5) (by omega) (by decide +kernel)
  rw [u0_100 (x0 := 74) (m := m25) (h := g100)]
  obtain ⟨m26, e100, h26⟩ := zc21 _ (a := 74) (by decide +kernel) h25
  rw [e100, Option.bind_some]
  simp only [Option.toList_none, List.nil_append]
  have h26 : Lai m26 (79) (s + 3165) _ _ _ := h26.to (by omega) (by omega)
  rw [u0_103, if_pos (h26.k1 (i := 0) (t := 111) (q := 19) (by omega) (by decide +kernel))]
  have h27 : Lai (setR m26 0 9 (some 74)) (79) (s + 3165) _ _ _ := h26.sR (by omega)
  generalize setR m26 0 9 (some 74) = m27 at h27 ⊢
  rw [u0_106, u0_107, h27.1]
  have h28 : Lai (mkCell m27 102 3) (80) (s + 3168) _ _ _ := h27.cell (by decide +kernel) (by omega) (by omega)
  generalize mkCell m27 102 3 = m28 at h28 ⊢
  rw [u0_110]
  have g111 := h28.k1 (i := 79) (t := 102) (q := 3) (by omega) (by decide +kernel)
  rw [u0_111 (x0 := 79) (m := m28) (h := g111)]
  obtain ⟨m29, e111, h29⟩ := zc22 _ (a := 79) (by decide +kernel) h28
  rw [e111, Option.bind_some]
  simp only [Option.toList_none, List.nil_append]
  have h29 : Lai m29 (89) (s + 4077) _ _ _ := h29.to (by omega) (by omega)
  rw [u0_114, if_pos (h29.k1 (i := 0) (t := 111) (q := 19) (by omega) (by decide +kernel))]
  have h30 : Lai (setR m29 0 10 (some 79)) (89) (s + 4077) _ _ _ := h29.sR (by omega)
  generalize setR m29 0 10 (some 79) = m30 at h30 ⊢
  rw [u0_117, u0_118, h30.1]
  have h31 : Lai (mkCell m30 101 2) (90) (s + 4079) _ _ _ := h30.cell (by decide +kernel) (by omega) (by omega)
  generalize mkCell m30 101 2 = m31 at h31 ⊢
  rw [u0_121]
  have g122 := h31.k1 (i := 89) (t := 101) (q := 2) (by omega) (by decide +kernel)
  rw [u0_122 (x0 := 89) (m := m31) (h := g122)]
  obtain ⟨m32, e122, h32⟩ := zc23 _ (a := 89) (by decide +kernel) h31
  rw [e122, Option.bind_some]
  simp only [Option.toList_none, List.nil_append]
  have h32 : Lai m32 (90) (s + 4079) _ _ _ := h32.to (by omega) (by omega)
  rw [u0_125, if_pos (h32.k1 (i := 0) (t := 111) (q := 19) (by omega) (by decide +kernel))]
  have h33 : Lai (setR m32 0 11 (some 89)) (90) (s + 4079) _ _ _ := h32.sR (by omega)
  generalize setR m32 0 11 (some 89) = m33 at h33 ⊢
  rw [u0_128, u0_129, u0_130 (x0 := 5) (hn := by decide), h33.1, show (5 : Int32).toNatClampNeg = 5 by decide]
  have h34 : Lai (mkCell m33 1 5) (91) (s + 4084) _ _ _ := h33.cell (by decide +kernel) (by omega) (by omega)
  generalize mkCell m33 1 5 = m34 at h34 ⊢
  rw [u0_132, if_pos (h34.k1 (i := 0) (t := 111) (q := 19) (by omega) (by decide +kernel))]
  have h35 : Lai (setR m34 0 12 (some 90)) (91) (s + 4084) _ _ _ := h34.sR (by omega)
  generalize setR m34 0 12 (some 90) = m35 at h35 ⊢
  rw [u0_135, u0_136, u0_137, if_pos (h35.k1 (i := 0) (t := 111) (q := 19) (by omega) (by decide +kernel))]
  have h36 : Lai (setI m35 0 17 (-1)) (91) (s + 4084) _ _ _ := h35.sI (by omega)
  generalize setI m35 0 17 (-1) = m36 at h36 ⊢
  rw [u0_140, u0_141, u0_142, if_pos (h36.k1 (i := 0) (t := 111) (q := 19) (by omega) (by decide +kernel))]
  have h37 : Lai (setI m36 0 18 (-1)) (91) (s + 4084) _ _ _ := h36.sI (by omega)
  generalize setI m36 0 18 (-1) = m37 at h37 ⊢
  rw [u0_145, u0_146, u0_147, u0_148, u0_149, if_neg (show ¬ ((4 : Int32) ≤ 0) by decide), u0_152, u0_153, if_pos (h37.k1 (i := 0) (t := 111) (q := 19) (by omega) (by decide +kernel)), h37.rf (x := 0) (j := 0) (v := 1) (by decide +kernel), va_rf_some, u0_156, u0_157, h37.1]
  have h38 : Lai (mkCell m37 110 4) (92) (s + 4088) _ _ _ := h37.cell (by decide +kernel) (by omega) (by omega)
  generalize mkCell m37 110 4 = m38 at h38 ⊢
  rw [u0_160]
  have g161 := h38.k1 (i := 91) (t := 110) (q := 4) (by omega) (by decide +kernel)
  rw [u0_161 (x0 := 91) (m := m38) (h := g161)]
  obtain ⟨m39, e161, h39⟩ := zc24 _ (a := 91) (by decide +kernel) h38
  rw [e161, Option.bind_some]
  simp only [Option.toList_none, List.nil_append]
  have h39 : Lai m39 (93) (s + 4148) _ _ _ := h39.to (by omega) (by omega)
  have q81 : (((memK m39 1).1 = 5 ∧ (memK m39 91).1 = 110) ∨ ((memK m39 1).1 = 6 ∧ (memK m39 91).1 = 103)) ∧ inB 0 (memK m39 1).2 = true := ⟨Or.inl ⟨h39.k1 (q := 4) (by omega) (by decide +kernel), h39.k1 (q := 4) (by omega) (by decide +kernel)⟩, by rw [h39.k (t := 5) (q := 4) (by omega) (by decide +kernel)]; decide⟩
  rw [u0_164 (x0 := 91) (x1 := 0) (x2 := 1) (m := m39) (h := q81), show (0 : Int32).toNatClampNeg = 0 by decide]
  have h40 : Lai (setR m39 1 0 (some 91)) (93) (s + 4148) _ _ _ := h39.sR (by omega)
  generalize setR m39 1 0 (some 91) = m40 at h40 ⊢
  rw [u0_165, show (0 : Int32) + 1 = 1 by decide, u0_168, u0_147, u0_148, u0_149, if_neg (show ¬ ((4 : Int32) ≤ 1) by decide), u0_152, u0_153, if_pos (h40.k1 (i := 0) (t := 111) (q := 19) (by omega) (by decide +kernel)), h40.rf (x := 0) (j := 0) (v := 1) (by decide +kernel), va_rf_some, u0_156, u0_157, h40.1]
  have h41 : Lai (mkCell m40 110 4) (94) (s + 4152) _ _ _ := h40.cell (by decide +kernel) (by omega) (by omega)
  generalize mkCell m40 110 4 = m41 at h41 ⊢
  rw [u0_160]
  have g161 := h41.k1 (i := 93) (t := 110) (q := 4) (by omega) (by decide +kernel)
  rw [u0_161 (x0 := 93) (m := m41) (h := g161)]
  obtain ⟨m42, e161, h42⟩ := zc24 _ (a := 93) (by decide +kernel) h41
  rw [e161, Option.bind_some]
  simp only [Option.toList_none, List.nil_append]
  have h42 : Lai m42 (95) (s + 4212) _ _ _ := h42.to (by omega) (by omega)
  have q93 : (((memK m42 1).1 = 5 ∧ (memK m42 93).1 = 110) ∨ ((memK m42 1).1 = 6 ∧ (memK m42 93).1 = 103)) ∧ inB 1 (memK m42 1).2 = true := ⟨Or.inl ⟨h42.k1 (q := 4) (by omega) (by decide +kernel), h42.k1 (q := 4) (by omega) (by decide +kernel)⟩, by rw [h42.k (t := 5) (q := 4) (by omega) (by decide +kernel)]; decide⟩
  rw [u0_164 (x0 := 93) (x1 := 1) (x2 := 1) (m := m42) (h := q93), show (1 : Int32).toNatClampNeg = 1 by decide]
  have h43 : Lai (setR m42 1 1 (some 93)) (95) (s + 4212) _ _ _ := h42.sR (by omega)
  generalize setR m42 1 1 (some 93) = m43 at h43 ⊢
  rw [u0_165, show (1 : Int32) + 1 = 2 by decide, u0_168, u0_147, u0_148, u0_149, if_neg (show ¬ ((4 : Int32) ≤ 2) by decide), u0_152, u0_153, if_pos (h43.k1 (i := 0) (t := 111) (q := 19) (by omega) (by decide +kernel)), h43.rf (x := 0) (j := 0) (v := 1) (by decide +kernel), va_rf_some, u0_156, u0_157, h43.1]
  have h44 : Lai (mkCell m43 110 4) (96) (s + 4216) _ _ _ := h43.cell (by decide +kernel) (by omega) (by omega)
  generalize mkCell m43 110 4 = m44 at h44 ⊢
  rw [u0_160]
  have g161 := h44.k1 (i := 95) (t := 110) (q := 4) (by omega) (by decide +kernel)
  rw [u0_161 (x0 := 95) (m := m44) (h := g161)]
  obtain ⟨m45, e161, h45⟩ := zc24 _ (a := 95) (by decide +kernel) h44
  rw [e161, Option.bind_some]
  simp only [Option.toList_none, List.nil_append]
  have h45 : Lai m45 (97) (s + 4276) _ _ _ := h45.to (by omega) (by omega)
  have q105 : (((memK m45 1).1 = 5 ∧ (memK m45 95).1 = 110) ∨ ((memK m45 1).1 = 6 ∧ (memK m45 95).1 = 103)) ∧ inB 2 (memK m45 1).2 = true := ⟨Or.inl ⟨h45.k1 (q := 4) (by omega) (by decide +kernel), h45.k1 (q := 4) (by omega) (by decide +kernel)⟩, by rw [h45.k (t := 5) (q := 4) (by omega) (by decide +kernel)]; decide⟩
  rw [u0_164 (x0 := 95) (x1 := 2) (x2 := 1) (m := m45) (h := q105), show (2 : Int32).toNatClampNeg = 2 by decide]
  have h46 : Lai (setR m45 1 2 (some 95)) (97) (s + 4276) _ _ _ := h45.sR (by omega)
  generalize setR m45 1 2 (some 95) = m46 at h46 ⊢
  rw [u0_165, show (2 : Int32) + 1 = 3 by decide, u0_168, u0_147, u0_148, u0_149, if_neg (show ¬ ((4 : Int32) ≤ 3) by decide), u0_152, u0_153, if_pos (h46.k1 (i := 0) (t := 111) (q := 19) (by omega) (by decide +kernel)), h46.rf (x := 0) (j := 0) (v := 1) (by decide +kernel), va_rf_some, u0_156, u0_157, h46.1]
  have h47 : Lai (mkCell m46 110 4) (98) (s + 4280) _ _ _ := h46.cell (by decide +kernel) (by omega) (by omega)
  generalize mkCell m46 110 4 = m47 at h47 ⊢
  rw [u0_160]
  have g161 := h47.k1 (i := 97) (t := 110) (q := 4) (by omega) (by decide +kernel)
  rw [u0_161 (x0 := 97) (m := m47) (h := g161)]
  obtain ⟨m48, e161, h48⟩ := zc24 _ (a := 97) (by decide +kernel) h47
  rw [e161, Option.bind_some]
  simp only [Option.toList_none, List.nil_append]
  have h48 : Lai m48 (99) (s + 4340) _ _ _ := h48.to (by omega) (by omega)
  have q117 : (((memK m48 1).1 = 5 ∧ (memK m48 97).1 = 110) ∨ ((memK m48 1).1 = 6 ∧ (memK m48 97).1 = 103)) ∧ inB 3 (memK m48 1).2 = true := ⟨Or.inl ⟨h48.k1 (q := 4) (by omega) (by decide +kernel), h48.k1 (q := 4) (by omega) (by decide +kernel)⟩, by rw [h48.k (t := 5) (q := 4) (by omega) (by decide +kernel)]; decide⟩
  rw [u0_164 (x0 := 97) (x1 := 3) (x2 := 1) (m := m48) (h := q117), show (3 : Int32).toNatClampNeg = 3 by decide]
  have h49 : Lai (setR m48 1 3 (some 97)) (99) (s + 4340) _ _ _ := h48.sR (by omega)
  generalize setR m48 1 3 (some 97) = m49 at h49 ⊢
  rw [u0_165, show (3 : Int32) + 1 = 4 by decide, u0_168, u0_147, u0_148, u0_149, if_pos (show (4 : Int32) ≤ 4 by decide), u0_171, u0_172, u0_173, u0_174, u0_175, if_neg (show ¬ ((3 : Int32) ≤ 0) by decide), u0_178, u0_179, if_pos (h49.k1 (i := 0) (t := 111) (q := 19) (by omega) (by decide +kernel)), h49.rf (x := 0) (j := 4) (v := 57) (by decide +kernel), va_rf_some, u0_182, u0_183, h49.1]
  have h50 : Lai (mkCell m49 103 18) (100) (s + 4358) _ _ _ := h49.cell (by decide +kernel) (by omega) (by omega)
  generalize mkCell m49 103 18 = m50 at h50 ⊢
  rw [u0_186]
  have g187 := h50.k1 (i := 99) (t := 103) (q := 18) (by omega) (by decide +kernel)
  rw [u0_187 (x0 := 99) (m := m50) (h := g187)]
  obtain ⟨m51, e187, h51⟩ := zc2 _ (a := 99) (by decide +kernel) h50
  rw [e187, Option.bind_some]
  simp only [Option.toList_none, List.nil_append]
  have h51 : Lai m51 (126) (s + 4913) _ _ _ := h51.to (by omega) (by omega)
  have q134 : (((memK m51 57).1 = 5 ∧ (memK m51 99).1 = 110) ∨ ((memK m51 57).1 = 6 ∧ (memK m51 99).1 = 103)) ∧ inB 0 (memK m51 57).2 = true := ⟨Or.inr ⟨h51.k1 (q := 3) (by omega) (by decide +kernel), h51.k1 (q := 18) (by omega) (by decide +kernel)⟩, by rw [h51.k (t := 6) (q := 3) (by omega) (by decide +kernel)]; decide⟩
  rw [u0_190 (x0 := 99) (x1 := 0) (x2 := 57) (m := m51) (h := q134), show (0 : Int32).toNatClampNeg = 0 by decide]
  have h52 : Lai (setR m51 57 0 (some 99)) (126) (s + 4913) _ _ _ := h51.sR (by omega)
  generalize setR m51 57 0 (some 99) = m52 at h52 ⊢
  rw [u0_191, show (0 : Int32) + 1 = 1 by decide, u0_194, u0_173, u0_174, u0_175, if_neg (show ¬ ((3 : Int32) ≤ 1) by decide), u0_178, u0_179, if_pos (h52.k1 (i := 0) (t := 111) (q := 19) (by omega) (by decide +kernel)), h52.rf (x := 0) (j := 4) (v := 57) (by decide +kernel), va_rf_some, u0_182, u0_183, h52.1]
  have h53 : Lai (mkCell m52 103 18) (127) (s + 4931) _ _ _ := h52.cell (by decide +kernel) (by omega) (by omega)
  generalize mkCell m52 103 18 = m53 at h53 ⊢
  rw [u0_186]
  have g187 := h53.k1 (i := 126) (t := 103) (q := 18) (by omega) (by decide +kernel)
  rw [u0_187 (x0 := 126) (m := m53) (h := g187)]
  obtain ⟨m54, e187, h54⟩ := zc2 _ (a := 126) (by decide +kernel) h53
  rw [e187, Option.bind_some]
  simp only [Option.toList_none, List.nil_append]
  have h54 : Lai m54 (153) (s + 5486) _ _ _ := h54.to (by omega) (by omega)
  have q146 : (((memK m54 57).1 = 5 ∧ (memK m54 126).1 = 110) ∨ ((memK m54 57).1 = 6 ∧ (memK m54 126).1 = 103)) ∧ inB 1 (memK m54 57).2 = true := ⟨Or.inr ⟨h54.k1 (q := 3) (by omega) (by decide +kernel), h54.k1 (q := 18) (by omega) (by decide +kernel)⟩, by rw [h54.k (t := 6) (q := 3) (by omega) (by decide +kernel)]; decide⟩
  rw [u0_190 (x0 := 126) (x1 := 1) (x2 := 57) (m := m54) (h := q146), show (1 : Int32).toNatClampNeg = 1 by decide]
  have h55 : Lai (setR m54 57 1 (some 126)) (153) (s + 5486) _ _ _ := h54.sR (by omega)
  generalize setR m54 57 1 (some 126) = m55 at h55 ⊢
  rw [u0_191, show (1 : Int32) + 1 = 2 by decide, u0_194, u0_173, u0_174, u0_175, if_neg (show ¬ ((3 : Int32) ≤ 2) by decide), u0_178, u0_179, if_pos (h55.k1 (i := 0) (t := 111) (q := 19) (by omega) (by decide +kernel)), h55.rf (x := 0) (j := 4) (v := 57) (by decide +kernel), va_rf_some, u0_182, u0_183, h55.1]
  have h56 : Lai (mkCell m55 103 18) (154) (s + 5504) _ _ _ := h55.cell (by decide +kernel) (by omega) (by omega)
  generalize mkCell m55 103 18 = m56 at h56 ⊢
  rw [u0_186]
  have g187 := h56.k1 (i := 153) (t := 103) (q := 18) (by omega) (by decide +kernel)
  rw [u0_187 (x0 := 153) (m := m56) (h := g187)]
  obtain ⟨m57, e187, h57⟩ := zc2 _ (a := 153) (by decide +kernel) h56
  rw [e187, Option.bind_some]
  simp only [Option.toList_none, List.nil_append]
  have h57 : Lai m57 (180) (s + 6059) _ _ _ := h57.to (by omega) (by omega)
  have q158 : (((memK m57 57).1 = 5 ∧ (memK m57 153).1 = 110) ∨ ((memK m57 57).1 = 6 ∧ (memK m57 153).1 = 103)) ∧ inB 2 (memK m57 57).2 = true := ⟨Or.inr ⟨h57.k1 (q := 3) (by omega) (by decide +kernel), h57.k1 (q := 18) (by omega) (by decide +kernel)⟩, by rw [h57.k (t := 6) (q := 3) (by omega) (by decide +kernel)]; decide⟩
  rw [u0_190 (x0 := 153) (x1 := 2) (x2 := 57) (m := m57) (h := q158), show (2 : Int32).toNatClampNeg = 2 by decide]
  have h58 : Lai (setR m57 57 2 (some 153)) (180) (s + 6059) _ _ _ := h57.sR (by omega)
  generalize setR m57 57 2 (some 153) = m58 at h58 ⊢
  rw [u0_191, show (2 : Int32) + 1 = 3 by decide, u0_194, u0_173, u0_174, u0_175, if_pos (show (3 : Int32) ≤ 3 by decide), u0_197]
  exact ⟨_, rfl, h58⟩
/-- 370 cells of the reference's block are set to 0 -/
def ezI (I : AL Int32) : Nat → AL Int32
  | 0 => I
  | i + 1 => ((185, i), 0) :: ezI I i
theorem ezI_at (I : AL Int32) (x j : Nat) : ∀ p, List.lookup (x, j) (ezI I p) = if x = 185 ∧ j < p then some 0 else List.lookup (x, j) I := by
  intro p
  induction p with
  | zero => rw [if_neg (by omega)]; rfl
  | succ p ih =>
    show List.lookup (x, j) (((185, p), 0) :: ezI I p) = _
    rw [al_cons, ih]
    by_cases e : x = 185 ∧ j = p
    · rw [if_pos e, if_pos (by omega)]
    · rw [if_neg e]
      by_cases c : x = 185 ∧ j < p
      · rw [if_pos c, if_pos (by omega)]
      · rw [if_neg c, if_neg (by omega)]
theorem ez_loop (d : Nat) {s : Nat} {R : AL Nat} {I : AL Int32} {L : AL Int64} (hR : List.lookup (180, 20) R = some 185) : ∀ (r i : Nat) (m : zMem), i + r = 370 → Lai m 193 s R (ezI I i) L → ∃ m2, run d 195 2 [.ref 180, .int 0, .int (nI i)] [] m = some (none, m2) ∧ Lai m2 193 s R (((185, 2), 8) :: ezI I 370) L := by
  intro r
  induction r with
  | zero =>
    intro i m hi h
    obtain rfl : i = 370 := by omega
    have kA : memK m 180 = (112, 44) := h.k (by omega) (by decide +kernel)
    have kB : memK m 185 = (1, 1850) := h.k (by omega) (by decide +kernel)
    rw [u195_2, u195_3, u195_6, if_pos (by decide), u195_28, u195_29, if_pos (by rw [kA]), h.rf hR, va_rf_some, u195_32, u195_35, u195_36, u195_37, u195_38, u195_39, u195_41, show (370 : Int32) * 0 + 2 = 2 by decide, if_pos (by rw [kB]; decide), show (2 : Int32).toNatClampNeg = 2 by decide, u195_42]
    exact ⟨_, rfl, h.sI (by omega)⟩
  | succ r ih =>
    intro i m hi h
    have kA : memK m 180 = (112, 44) := h.k (by omega) (by decide +kernel)
    have kB : memK m 185 = (1, 1850) := h.k (by omega) (by decide +kernel)
    have e1 : ¬ ((370 : Int32) ≤ nI i) := fun q => absurd (show nI 370 ≤ nI i from q) (by rw [nI_leF (by omega) (by omega)]; exact id)
    have h2 := ih (i + 1) (setI m 185 i 0) (by omega) (h.sI (by omega))
    rw [u195_2, u195_3, u195_6, if_neg e1, u195_9, u195_10, if_pos (by rw [kA]), h.rf hR, va_rf_some, u195_13, u195_16, u195_17, u195_18, u195_19, u195_20, u195_21, show (370 : Int32) * 0 + nI i = nI i by rw [show (370 : Int32) * 0 = 0 by decide, Int32.zero_add], if_pos (by rw [kB]; exact ⟨rfl, inB_nI (by omega) (by omega)⟩), nI_clamp (by omega), u195_22, u195_25, show nI i + 1 = nI (i + 1) from nI_add i 1]
    exact h2
theorem ez_all (d : Nat) {s : Nat} {m : zMem} {R : AL Nat} {I : AL Int32} {L : AL Int64} (h : Lai m 193 s R I L) (hR : List.lookup (180, 20) R = some 185) : ∃ m2, call d 195 [.ref 180, .int 0] m = some (none, m2) ∧ Lai m2 193 s R (((185, 2), 8) :: ezI I 370) L := by
  rw [e195, u195_0, u195_1]
  exact ez_loop d hR 370 0 m rfl h
def rl194 (R : AL Nat) : AL Nat := ((180, 34), 192) :: ((180, 33), 191) :: ((180, 31), 190) :: ((180, 30), 189) :: ((180, 29), 188) :: ((180, 22), 187) :: ((180, 21), 186) :: ((180, 20), 185) :: ((180, 7), 184) :: ((180, 6), 183) :: ((180, 5), 182) :: ((180, 4), 181) :: R
def il194 (I : AL Int32) : AL Int32 := ((185, 2), 8) :: ezI (((182, 3), (-1)) :: ((182, 2), (-1)) :: ((182, 1), (-1)) :: ((182, 0), (-1)) :: ((180, 11), (-1)) :: ((180, 10), (-1)) :: I) 370
def ll194 (L : AL Int64) : AL Int64 := ((180, 3), 1) :: L
set_option maxRecDepth 100000 in
set_option maxHeartbeats 4000000 in
theorem zc194 (d : Nat) {s : Nat} {m : zMem} {R : AL Nat} {I : AL Int32} {L : AL Int64} (h0 : Lai m 181 s R I L) : ∃ m2, call (d + 2) 194 [.ref 180] m = some (none, m2) ∧ Lai m2 193 (s + 3729) (rl194 R) (il194 I) (ll194 L) := by
  rw [e194]
  rw [u194_0, u194_1, u194_4, u194_5, u194_6, if_pos (h0.k1 (i := 180) (t := 112) (q := 44) (by omega) (by decide +kernel))]
  have h1 : Lai (setL m 180 3 1) (181) (s) _ _ _ := h0.sL (by omega)
  generalize setL m 180 3 1 = m1 at h1 ⊢
  rw [u194_9, u194_10, u194_11 (x0 := 4) (hn := by decide), h1.1, show (4 : Int32).toNatClampNeg = 4 by decide]
  have h2 : Lai (mkCell m1 1 4) (182) (s + 4) _ _ _ := h1.cell (by decide +kernel) (by omega) (by omega)
  generalize mkCell m1 1 4 = m2 at h2 ⊢
  rw [u194_13, if_pos (h2.k1 (i := 180) (t := 112) (q := 44) (by omega) (by decide +kernel))]
  have h3 : Lai (setR m2 180 4 (some 181)) (182) (s + 4) _ _ _ := h2.sR (by omega)
  generalize setR m2 180 4 (some 181) = m3 at h3 ⊢
  rw [u194_16, u194_17, u194_18 (x0 := 4) (hn := by decide), h3.1, show (4 : Int32).toNatClampNeg = 4 by decide]
  have h4 : Lai (mkCell m3 1 4) (183) (s + 8) _ _ _ := h3.cell (by decide +kernel) (by omega) (by omega)
  generalize mkCell m3 1 4 = m4 at h4 ⊢
  rw [u194_20, if_pos (h4.k1 (i := 180) (t := 112) (q := 44) (by omega) (by decide +kernel))]
  have h5 : Lai (setR m4 180 5 (some 182)) (183) (s + 8) _ _ _ := h4.sR (by omega)
  generalize setR m4 180 5 (some 182) = m5 at h5 ⊢
  rw [u194_23, u194_24, u194_27 (x0 := 240) (hn := by decide), h5.1, show (240 : Int32).toNatClampNeg = 240 by decide]
  have h6 : Lai (mkCell m5 2 240) (184) (s + 248) _ _ _ := h5.cell (by decide +kernel) (by omega) (by omega)
  generalize mkCell m5 2 240 = m6 at h6 ⊢
  rw [u194_29, if_pos (h6.k1 (i := 180) (t := 112) (q := 44) (by omega) (by decide +kernel))]
  have h7 : Lai (setR m6 180 6 (some 183)) (184) (s + 248) _ _ _ := h6.sR (by omega)
  generalize setR m6 180 6 (some 183) = m7 at h7 ⊢
  rw [u194_32, u194_33, u194_36 (x0 := 900) (hn := by decide), h7.1, show (900 : Int32).toNatClampNeg = 900 by decide]
  have h8 : Lai (mkCell m7 3 900) (185) (s + 1148) _ _ _ := h7.cell (by decide +kernel) (by omega) (by omega)
  generalize mkCell m7 3 900 = m8 at h8 ⊢
  rw [u194_38, if_pos (h8.k1 (i := 180) (t := 112) (q := 44) (by omega) (by decide +kernel))]
  have h9 : Lai (setR m8 180 7 (some 184)) (185) (s + 1148) _ _ _ := h8.sR (by omega)
  generalize setR m8 180 7 (some 184) = m9 at h9 ⊢
  rw [u194_41, u194_42, u194_43, if_pos (h9.k1 (i := 180) (t := 112) (q := 44) (by omega) (by decide +kernel))]
  have h10 : Lai (setI m9 180 10 (-1)) (185) (s + 1148) _ _ _ := h9.sI (by omega)
  generalize setI m9 180 10 (-1) = m10 at h10 ⊢
  rw [u194_46, u194_47, u194_48, if_pos (h10.k1 (i := 180) (t := 112) (q := 44) (by omega) (by decide +kernel))]
  have h11 : Lai (setI m10 180 11 (-1)) (185) (s + 1148) _ _ _ := h10.sI (by omega)
  generalize setI m10 180 11 (-1) = m11 at h11 ⊢
  rw [u194_51, u194_52, u194_55 (x0 := 1850) (hn := by decide), h11.1, show (1850 : Int32).toNatClampNeg = 1850 by decide]
  have h12 : Lai (mkCell m11 1 1850) (186) (s + 2998) _ _ _ := h11.cell (by decide +kernel) (by omega) (by omega)
  generalize mkCell m11 1 1850 = m12 at h12 ⊢
  rw [u194_57, if_pos (h12.k1 (i := 180) (t := 112) (q := 44) (by omega) (by decide +kernel))]
  have h13 : Lai (setR m12 180 20 (some 185)) (186) (s + 2998) _ _ _ := h12.sR (by omega)
  generalize setR m12 180 20 (some 185) = m13 at h13 ⊢
  rw [u194_60, u194_61, u194_63 (x0 := 98) (hn := by decide), h13.1, show (98 : Int32).toNatClampNeg = 98 by decide]
  have h14 : Lai (mkCell m13 1 98) (187) (s + 3096) _ _ _ := h13.cell (by decide +kernel) (by omega) (by omega)
  generalize mkCell m13 1 98 = m14 at h14 ⊢
  rw [u194_65, if_pos (h14.k1 (i := 180) (t := 112) (q := 44) (by omega) (by decide +kernel))]
  have h15 : Lai (setR m14 180 21 (some 186)) (187) (s + 3096) _ _ _ := h14.sR (by omega)
  generalize setR m14 180 21 (some 186) = m15 at h15 ⊢
  rw [u194_68, u194_69, u194_71 (x0 := 65) (hn := by decide), h15.1, show (65 : Int32).toNatClampNeg = 65 by decide]
  have h16 : Lai (mkCell m15 2 65) (188) (s + 3161) _ _ _ := h15.cell (by decide +kernel) (by omega) (by omega)
  generalize mkCell m15 2 65 = m16 at h16 ⊢
  rw [u194_73, if_pos (h16.k1 (i := 180) (t := 112) (q := 44) (by omega) (by decide +kernel))]
  have h17 : Lai (setR m16 180 22 (some 187)) (188) (s + 3161) _ _ _ := h16.sR (by omega)
  generalize setR m16 180 22 (some 187) = m17 at h17 ⊢
  rw [u194_76, u194_77, u194_80 (x0 := 128) (hn := by decide), h17.1, show (128 : Int32).toNatClampNeg = 128 by decide]
  have h18 : Lai (mkCell m17 4 128) (189) (s + 3289) _ _ _ := h17.cell (by decide +kernel) (by omega) (by omega)
  generalize mkCell m17 4 128 = m18 at h18 ⊢
  rw [u194_82, if_pos (h18.k1 (i := 180) (t := 112) (q := 44) (by omega) (by decide +kernel))]
  have h19 : Lai (setR m18 180 29 (some 188)) (189) (s + 3289) _ _ _ := h18.sR (by omega)
  generalize setR m18 180 29 (some 188) = m19 at h19 ⊢
  rw [u194_85, u194_86, u194_89 (x0 := 421) (hn := by decide), h19.1, show (421 : Int32).toNatClampNeg = 421 by decide]
  have h20 : Lai (mkCell m19 1 421) (190) (s + 3710) _ _ _ := h19.cell (by decide +kernel) (by omega) (by omega)
  generalize mkCell m19 1 421 = m20 at h20 ⊢
  rw [u194_91, if_pos (h20.k1 (i := 180) (t := 112) (q := 44) (by omega) (by decide +kernel))]
  have h21 : Lai (setR m20 180 30 (some 189)) (190) (s + 3710) _ _ _ := h20.sR (by omega)
  generalize setR m20 180 30 (some 189) = m21 at h21 ⊢
  rw [u194_94, u194_95, u194_97 (x0 := 6) (hn := by decide), h21.1, show (6 : Int32).toNatClampNeg = 6 by decide]
  have h22 : Lai (mkCell m21 1 6) (191) (s + 3716) _ _ _ := h21.cell (by decide +kernel) (by omega) (by omega)
  generalize mkCell m21 1 6 = m22 at h22 ⊢
  rw [u194_99, if_pos (h22.k1 (i := 180) (t := 112) (q := 44) (by omega) (by decide +kernel))]
  have h23 : Lai (setR m22 180 31 (some 190)) (191) (s + 3716) _ _ _ := h22.sR (by omega)
  generalize setR m22 180 31 (some 190) = m23 at h23 ⊢
  rw [u194_102, u194_103, u194_105 (x0 := 8) (hn := by decide), h23.1, show (8 : Int32).toNatClampNeg = 8 by decide]
  have h24 : Lai (mkCell m23 2 8) (192) (s + 3724) _ _ _ := h23.cell (by decide +kernel) (by omega) (by omega)
  generalize mkCell m23 2 8 = m24 at h24 ⊢
  rw [u194_107, if_pos (h24.k1 (i := 180) (t := 112) (q := 44) (by omega) (by decide +kernel))]
  have h25 : Lai (setR m24 180 33 (some 191)) (192) (s + 3724) _ _ _ := h24.sR (by omega)
  generalize setR m24 180 33 (some 191) = m25 at h25 ⊢
  rw [u194_110, u194_111, u194_112 (x0 := 5) (hn := by decide), h25.1, show (5 : Int32).toNatClampNeg = 5 by decide]
  have h26 : Lai (mkCell m25 1 5) (193) (s + 3729) _ _ _ := h25.cell (by decide +kernel) (by omega) (by omega)
  generalize mkCell m25 1 5 = m26 at h26 ⊢
  rw [u194_114, if_pos (h26.k1 (i := 180) (t := 112) (q := 44) (by omega) (by decide +kernel))]
  have h27 : Lai (setR m26 180 34 (some 192)) (193) (s + 3729) _ _ _ := h26.sR (by omega)
  generalize setR m26 180 34 (some 192) = m27 at h27 ⊢
  rw [u194_117, u194_118, u194_119, u194_120, u194_121, if_neg (show ¬ ((4 : Int32) ≤ 0) by decide), u194_124, u194_125, if_pos (h27.k1 (i := 180) (t := 112) (q := 44) (by omega) (by decide +kernel)), h27.rf (x := 180) (j := 5) (v := 182) rfl, va_rf_some, u194_128, u194_129]
  have q69 : (memK m27 182).1 = 1 ∧ inB 0 (memK m27 182).2 = true := ⟨h27.k1 (q := 4) (by omega) (by decide +kernel), by rw [h27.k (t := 1) (q := 4) (by omega) (by decide +kernel)]; decide⟩
  rw [u194_130, if_pos q69, show (0 : Int32).toNatClampNeg = 0 by decide]
  have h28 : Lai (setI m27 182 0 (-1)) (193) (s + 3729) _ _ _ := h27.sI (by omega)
  generalize setI m27 182 0 (-1) = m28 at h28 ⊢
  rw [u194_131, show (0 : Int32) + 1 = 1 by decide, u194_134, u194_119, u194_120, u194_121, if_neg (show ¬ ((4 : Int32) ≤ 1) by decide), u194_124, u194_125, if_pos (h28.k1 (i := 180) (t := 112) (q := 44) (by omega) (by decide +kernel)), h28.rf (x := 180) (j := 5) (v := 182) rfl, va_rf_some, u194_128, u194_129]
  have q79 : (memK m28 182).1 = 1 ∧ inB 1 (memK m28 182).2 = true := ⟨h28.k1 (q := 4) (by omega) (by decide +kernel), by rw [h28.k (t := 1) (q := 4) (by omega) (by decide +kernel)]; decide⟩
  rw [u194_130, if_pos q79, show (1 : Int32).toNatClampNeg = 1 by decide]
  have h29 : Lai (setI m28 182 1 (-1)) (193) (s + 3729) _ _ _ := h28.sI (by omega)
  generalize setI m28 182 1 (-1) = m29 at h29 ⊢
  rw [u194_131, show (1 : Int32) + 1 = 2 by decide, u194_134, u194_119, u194_120, u194_121, if_neg (show ¬ ((4 : Int32) ≤ 2) by decide), u194_124, u194_125, if_pos (h29.k1 (i := 180) (t := 112) (q := 44) (by omega) (by decide +kernel)), h29.rf (x := 180) (j := 5) (v := 182) rfl, va_rf_some, u194_128, u194_129]
  have q89 : (memK m29 182).1 = 1 ∧ inB 2 (memK m29 182).2 = true := ⟨h29.k1 (q := 4) (by omega) (by decide +kernel), by rw [h29.k (t := 1) (q := 4) (by omega) (by decide +kernel)]; decide⟩
  rw [u194_130, if_pos q89, show (2 : Int32).toNatClampNeg = 2 by decide]
  have h30 : Lai (setI m29 182 2 (-1)) (193) (s + 3729) _ _ _ := h29.sI (by omega)
  generalize setI m29 182 2 (-1) = m30 at h30 ⊢
  rw [u194_131, show (2 : Int32) + 1 = 3 by decide, u194_134, u194_119, u194_120, u194_121, if_neg (show ¬ ((4 : Int32) ≤ 3) by decide), u194_124, u194_125, if_pos (h30.k1 (i := 180) (t := 112) (q := 44) (by omega) (by decide +kernel)), h30.rf (x := 180) (j := 5) (v := 182) rfl, va_rf_some, u194_128, u194_129]
  have q99 : (memK m30 182).1 = 1 ∧ inB 3 (memK m30 182).2 = true := ⟨h30.k1 (q := 4) (by omega) (by decide +kernel), by rw [h30.k (t := 1) (q := 4) (by omega) (by decide +kernel)]; decide⟩
  rw [u194_130, if_pos q99, show (3 : Int32).toNatClampNeg = 3 by decide]
  have h31 : Lai (setI m30 182 3 (-1)) (193) (s + 3729) _ _ _ := h30.sI (by omega)
  generalize setI m30 182 3 (-1) = m31 at h31 ⊢
  rw [u194_131, show (3 : Int32) + 1 = 4 by decide, u194_134, u194_119, u194_120, u194_121, if_pos (show (4 : Int32) ≤ 4 by decide), u194_137, u194_138]
  rw [u194_139, if_pos (h31.k1 (i := 180) (t := 112) (q := 44) (by omega) (by decide +kernel))]
  obtain ⟨m32, ez, h32⟩ := ez_all _ h31 rfl
  rw [ez, Option.bind_some]
  simp only [Option.toList_none, List.nil_append]
  rw [u194_142]
  exact ⟨_, rfl, h32⟩
