/-! THE LAW'S ENTRY: the String constant -/
def entF : List Jvm.Cond := flatC (Jvm.Cond.and given_1 narrow_1)
def entE (j : Nat) : Jvm.Cond := .eq (.elem entV (.int (Int32.ofNat j))) (.int ((([zWordsText.map nI] : List (List Int32)).getD 0 []).getD j 0))
set_option maxRecDepth 100000 in
theorem ent_e : (List.range 109).all (fun j => entF.contains (entE j)) = true := by decide +kernel
def entQ : List Jvm.Cond := [.exactly entT "java/lang/String", .eq (.field entT "java/lang/String" "coder" "B") (.int 0), .arrayOf entV .byte, .eq (.length entV) (.int (Int32.ofNat (([zWordsText.length] : List Nat).getD 0 0))), .eq (.static "java/lang/String" "COMPACT_STRINGS" "Z") (.int 1), .isRef (.static "jdk/internal/util/Preconditions" "SIOOBE_FORMATTER" "Ljava/util/function/BiFunction;")]
set_option maxRecDepth 100000 in
theorem entQ_ok : entQ.all (fun w => entF.contains w) = true := by decide +kernel
section ENTS
variable {s : State} {b : Nat}
theorem ent_q (hgv : (Jvm.Cond.and given_1 narrow_1).before #[Value.ref b] s = true) {w : Jvm.Cond} (h : w ∈ entQ) : w.before #[Value.ref b] s = true := flat_of_before _ hgv w (by
  have h1 := List.all_eq_true.mp entQ_ok w h
  exact (show w ∈ entF by simpa using h1))
theorem ent_S (hgv : (Jvm.Cond.and given_1 narrow_1).before #[Value.ref b] s = true) (hts : ∀ w ∈ lw_tbl, w.before #[Value.ref b] s = true) : ∃ q aV : Nat, vk_R "AlmostTax$Tokens" 19 zWordsS q s ∧ vk_S 1 [zWordsText.length] [zWordsText.map nI] (fun _ => q) (fun _ => aV) (fun x => s.heap.size ≤ x) s s.heap := by
  obtain ⟨adK, adV, h1, h2⟩ := vk_Sof (args := #[Value.ref b]) (s := s) (N := 1) (tm := fun _ => entT) (len := [zWordsText.length]) (byt := [zWordsText.map nI]) (A := fun x => s.heap.size ≤ x)
    (fun i hi => by obtain rfl : i = 0 := by omega
                    show zWordsText.length < 2 ^ 31
                    rw [tk_len]; decide)
    (fun i hi => ent_q hgv (List.mem_of_getElem? (i := 0) rfl))
    (fun i hi => ent_q hgv (List.mem_of_getElem? (i := 1) rfl))
    (fun i hi => ent_q hgv (List.mem_of_getElem? (i := 2) rfl))
    (fun i hi => by obtain rfl : i = 0 := by omega
                    exact ent_q hgv (List.mem_of_getElem? (i := 3) rfl))
    (fun i hi j hj => by
      obtain rfl : i = 0 := by omega
      have hj2 : j < 109 := by rw [← tk_len]; exact hj
      have h := List.all_eq_true.mp ent_e j (List.mem_range.mpr hj2)
      exact flat_of_before _ hgv (entE j) (show entE j ∈ entF by simpa using h))
    (fun i j hi hj hne => absurd (show i = j by omega) hne)
    (fun a ha => Nat.not_le.mpr ha)
  refine ⟨adK 0, adV 0, vk_R.of (A := #[Value.ref b]) (ent_w hts (List.mem_of_getElem? (i := 7) rfl)) (h2 0 (by omega)), fun i hi => ?_, fun i j hi hj _ => by omega⟩
  obtain rfl : i = 0 := by omega
  exact h1.1 0 (by omega)
/-- all that the soundness wants of the start -/
theorem ent_G (hgv : (Jvm.Cond.and given_1 narrow_1).before #[Value.ref b] s = true) (hts : ∀ w ∈ lw_tbl, w.before #[Value.ref b] s = true) : ∃ G : zG, G.1 = s.heap.size ∧ zTab G s ∧ zStr G s := by
  obtain ⟨q, aV, h1, h2⟩ := ent_S hgv hts
  obtain ⟨g, h3, h4⟩ := ent_A hts
  obtain ⟨f, i, h5⟩ := ent_C (fun w hw => hts w (zTw_in w hw))
  refine ⟨(s.heap.size, q, f, i, g), rfl, ⟨h5, h3, ent_N hts, va_AO.of (A := #[Value.ref b]) (ent_w hts (List.mem_of_getElem? (i := 4) rfl)), va_AO.of (A := #[Value.ref b]) (ent_w hts (List.mem_of_getElem? (i := 5) rfl)), h4⟩, h1, ⟨aV, h2⟩, ?_, ?_⟩
  · exact va_Zof (args := #[Value.ref b]) (ent_w hts (List.mem_of_getElem? (i := 8) rfl)) (ent_w hts (List.mem_of_getElem? (i := 10) rfl)) (va_eqt (ent_q hgv (List.mem_of_getElem? (i := 4) rfl))) (fun a ha => Nat.not_le.mpr ha)
  · exact va_Zqof (args := #[Value.ref b]) (ent_w hts (List.mem_of_getElem? (i := 9) rfl)) (ent_w hts (List.mem_of_getElem? (i := 11) rfl)) (ent_q hgv (List.mem_of_getElem? (i := 5) rfl)) (fun a ha => Nat.not_le.mpr ha)
end ENTS
