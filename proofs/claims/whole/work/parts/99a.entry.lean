/-! THE LAW'S ENTRY: the tables and the one String constant, as the soundness wants them -/
theorem ent_over {args : Array Value} {s : State} (h : (Jvm.Cond.arrayOver (.array .int)).before args s = true) : ∃ comp c k, s.vm.findClass (FieldType.array .int).toString = some comp ∧ s.vm.classes[c]? = some k ∧ k.kind = .array comp (.array .int) ∧ s.vm.findClass ("[" ++ (FieldType.array .int).toString) = some c := by
  simp only [Jvm.Cond.before, Jvm.Cond.holds, Jvm.Cond.value, beq_iff_eq] at h
  cases hc : s.vm.findClass (FieldType.array .int).toString with
  | none => simp [hc] at h
  | some comp =>
    simp only [hc, Option.bind_some, Option.bind_eq_some_iff, Option.map_eq_some_iff] at h
    obtain ⟨c, hi, k, hk, hb⟩ := h
    obtain ⟨hlt, hp, -⟩ := Array.findIdx?_eq_some_iff_getElem.mp hi
    have hkk : s.vm.classes[c] = k := (Array.getElem?_eq_some_iff.mp hk).2
    rw [hkk] at hp
    cases hkind : k.kind with
    | array component ty =>
      rw [hkind] at hb hp
      simp at hb hp
      exact ⟨comp, c, k, rfl, hk, by rw [hkind, hp, hb.1], hb.2⟩
    | _ => rw [hkind] at hb; simp at hb
theorem ent_arr {s : State} {cA : ClassId} {kA : Class} {comp : ClassId} {ty : FieldType} (h1 : s.vm.classes[cA]? = some kA) (h2 : kA.kind = .array comp ty) : ArrOfT s cA ty := fun N z => ⟨(fun k h => by cases h), kA, h1, comp, h2⟩
def entW : List Jvm.Cond := [.arrayClass .int, .arrayClass .long, .arrayClass .byte, .arrayClass .boolean, .arrayOver (.object "AlmostTax$Tray"), .arrayOver (.object "AlmostTax$Land"), .arrayOver (.array .int), .stringRef "AlmostTax$Tokens" 19 zWordsS, .laysStatic "java/lang/String" "COMPACT_STRINGS" "Z", .laysStatic "jdk/internal/util/Preconditions" "SIOOBE_FORMATTER" "Ljava/util/function/BiFunction;", .initialized "java/lang/String", .initialized "jdk/internal/util/Preconditions", .classLink R_law 7 "AlmostTax", .classLink R_law 10 "AlmostTaxModel"]
set_option maxRecDepth 100000 in
theorem entW_ok : entW.all (fun w => decide (w ∈ tables_1)) = true := by decide +kernel
section ENT
variable {s : State} {b : Nat}
theorem ent_w (hts : ∀ w ∈ lw_tbl, w.before #[Value.ref b] s = true) {w : Jvm.Cond} (h : w ∈ entW) : w.before #[Value.ref b] s = true := hts w (List.mem_append_right _ (of_decide_eq_true (List.all_eq_true.mp entW_ok w h)))
/-- the arrays' classes -/
theorem ent_A (hts : ∀ w ∈ lw_tbl, w.before #[Value.ref b] s = true) : ∃ g : Nat → ClassId, (∀ t, 1 ≤ t → t ≤ 7 → ArrOfT s (g t) (zATy t) ∧ va_RA s (g t) (zATy t)) ∧ ∃ k : Class, s.vm.classes[g 7]? = some k ∧ k.kind = .array (g 1) (.array .int) := by
  obtain ⟨c1, k1, p1, a1, a2, a3⟩ := Jvm.Cond.arrayClass_spec (ent_w hts (w := .arrayClass .int) (List.mem_of_getElem? (i := 0) rfl))
  obtain ⟨c2, k2, p2, b1, b2, b3⟩ := Jvm.Cond.arrayClass_spec (ent_w hts (w := .arrayClass .long) (List.mem_of_getElem? (i := 1) rfl))
  obtain ⟨c3, k3, p3, d1, d2, d3⟩ := Jvm.Cond.arrayClass_spec (ent_w hts (w := .arrayClass .byte) (List.mem_of_getElem? (i := 2) rfl))
  obtain ⟨c4, k4, p4, e1, e2, e3⟩ := Jvm.Cond.arrayClass_spec (ent_w hts (w := .arrayClass .boolean) (List.mem_of_getElem? (i := 3) rfl))
  obtain ⟨p5, c5, k5, f1, -, f2, f3, f4⟩ := Jvm.Cond.arrayOver_spec (ent_w hts (w := .arrayOver (.object "AlmostTax$Tray")) (List.mem_of_getElem? (i := 4) rfl))
  obtain ⟨p6, c6, k6, g1, -, g2, g3, g4⟩ := Jvm.Cond.arrayOver_spec (ent_w hts (w := .arrayOver (.object "AlmostTax$Land")) (List.mem_of_getElem? (i := 5) rfl))
  obtain ⟨p7, c7, k7, h1, h2, h3, h4⟩ := ent_over (ent_w hts (w := .arrayOver (.array .int)) (List.mem_of_getElem? (i := 6) rfl))
  have hp : p7 = c1 := Option.some.inj (h1.symm.trans (show s.vm.findClass (FieldType.array .int).toString = some c1 from a1))
  subst hp
  refine ⟨fun t => if t = 1 then p7 else if t = 2 then c2 else if t = 3 then c3 else if t = 4 then c4 else if t = 5 then c5 else if t = 6 then c6 else c7, fun t ht1 ht7 => ?_, k7, h2, h3⟩
  have h : t = 1 ∨ t = 2 ∨ t = 3 ∨ t = 4 ∨ t = 5 ∨ t = 6 ∨ t = 7 := by omega
  rcases h with rfl | rfl | rfl | rfl | rfl | rfl | rfl
  · exact ⟨ent_arr a2 a3, a1⟩
  · exact ⟨ent_arr b2 b3, b1⟩
  · exact ⟨ent_arr d2 d3, d1⟩
  · exact ⟨ent_arr e2 e3, e1⟩
  · exact ⟨ent_arr f2 f3, k5, p5, f2, f3, f1, f4⟩
  · exact ⟨ent_arr g2 g3, k6, p6, g2, g3, g1, g4⟩
  · exact ⟨ent_arr h2 h3, h4⟩
/-- the classes -/
theorem ent_C (hw : ∀ w ∈ zTw, w.before #[Value.ref b] s = true) : ∃ (f : Nat → ClassId) (i : Nat → Nat → Nat), ∀ c, c < 13 → u_Kn s (zCn c) (zU c) (zN c) (f c) (i c) := by
  have h : ∀ c : Nat, ∃ q : ClassId × (Nat → Nat), c < 13 → u_Kn s (zCn c) (zU c) (zN c) q.1 q.2 := by
    intro c
    by_cases h13 : c < 13
    · obtain ⟨cC, iS, hK⟩ := u_known hw (zw_lay h13) (hw _ (zw_inst h13).1)
      exact ⟨(cC, iS), fun _ => hK⟩
    · exact ⟨(0, fun _ => 0), fun q => absurd q h13⟩
  obtain ⟨g, hg⟩ := Classical.axiomOfChoice h
  exact ⟨fun c => (g c).1, fun c => (g c).2, hg⟩
theorem ent_N (hts : ∀ w ∈ lw_tbl, w.before #[Value.ref b] s = true) : ∀ q ∈ zCal, zNest q = true → va_Nw (zwNst q) s := fun q hq hn => va_Nw.of rfl (hts _ (List.mem_append_right _ (zSub_mem _ _ zwNst_ok _ (List.mem_map.mpr ⟨q, List.mem_filter.mpr ⟨hq, hn⟩, rfl⟩))))
def entT : Jvm.Term := .string "AlmostTax$Tokens" 19
def entV : Jvm.Term := .field entT "java/lang/String" "value" "[B"
end ENT
