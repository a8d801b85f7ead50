/-! THE PURE PART. Decades are read: line after line -/
/-- a call of readStep is a turn of the loop Rl -/
def LwR (n : Nat) (b : Nat → Nat) (dp kk : Nat) (Rl : zMem → Option (Option Value × zMem)) : Prop := ∀ m m' q, RdM m n b q → (dp = 0 → ¬ (tokAt b n q).k = 0) → (¬ dp = 0 → ¬ (tokAt b n q).x = 19) → call (kk + 11) 259 [.ref 180, .int (nI dp)] m = some (none, m') → Rl m = Rl m'
def SqB (n : Nat) (b : Nat → Nat) (q : Nat) (f : Nat → Nat) (nm : Nat → List Nat) (l dp : Nat) (op K T W X G N M : Nat → Nat) (w : zMem) (v : Value) (Rl : zMem → Option (Option Value × zMem)) : Prop := ∃ e : Nat × Nat, (∃ w', run 39 88 16 [.ref 62, .ref 49, .ref 3, .int (nI l), v] [] w = some (some (.int (nI 0)), w') ∧ FrE w w' ∧ memI w' 63 13 = nI e.1 ∧ memI w' 63 14 = nI e.2) ∧ ∀ m, DsM m n b q f nm l l dp op K T W X G N M → ∃ m', Rl m = Rl m' ∧ FrPd m m' ∧ BadM m' e
def SqG (n : Nat) (b : Nat → Nat) (q : Nat) (f : Nat → Nat) (nm : Nat → List Nat) (F l dp : Nat) (op K T W X G N M : Nat → Nat) (w : zMem) (v : Value) (Rl : zMem → Option (Option Value × zMem)) : Prop := ∃ (q' l' : Nat) (K' T' W' X' G' N' M' : Nat → Nat), (∀ i, i < l → K' i = K i ∧ M' i = M i) ∧ Seg K' M' F (3 - dp) l l' ∧ DsI l' dp op K' M' ∧ ((dp = 0 ∧ (tokAt b n q').k = 0) ∨ (¬ dp = 0 ∧ (tokAt b n q').x = 19)) ∧ q ≤ q' ∧ l ≤ l' ∧ (∃ w' v', run 39 88 16 [.ref 62, .ref 49, .ref 3, .int (nI l), v] [] w = run 39 88 16 [.ref 62, .ref 49, .ref 3, .int (nI l'), v'] [] w' ∧ FrE w w' ∧ DsC w' n b q' f nm l' l' dp op K' T' W' X' G' N' M') ∧ ∀ m, DsM m n b q f nm l l dp op K T W X G N M → ∃ m', Rl m = Rl m' ∧ FrPd m m' ∧ DsM m' n b q' f nm l' l' dp op K' T' W' X' G' N' M'
section DK6
variable {n : Nat} {b : Nat → Nat} {f : Nat → Nat} {nm : Nat → List Nat}
/-- going on behind a turn -/
theorem Sq.on {q q1 F l l1 dp : Nat} {op K T W X G N M K1 T1 W1 X1 G1 N1 M1 : Nat → Nat} {w w1 : zMem} {v v1 : Value} {Rl : zMem → Option (Option Value × zMem)} (hr : run 39 88 16 [.ref 62, .ref 49, .ref 3, .int (nI l), v] [] w = run 39 88 16 [.ref 62, .ref 49, .ref 3, .int (nI l1), v1] [] w1) (hF : FrE w w1) (hq : q ≤ q1) (hl : l ≤ l1) (hm : ∀ m, DsM m n b q f nm l l dp op K T W X G N M → ∃ m', Rl m = Rl m' ∧ FrPd m m' ∧ DsM m' n b q1 f nm l1 l1 dp op K1 T1 W1 X1 G1 N1 M1) (ag : ∀ i, i < l → K1 i = K i ∧ M1 i = M i) (sg : ∀ K' M' l', (∀ i, i < l1 → K' i = K1 i ∧ M' i = M1 i) → Seg K' M' F (3 - dp) l1 l' → Seg K' M' (F + 1) (3 - dp) l l') (h : SqB n b q1 f nm l1 dp op K1 T1 W1 X1 G1 N1 M1 w1 v1 Rl ∨ SqG n b q1 f nm F l1 dp op K1 T1 W1 X1 G1 N1 M1 w1 v1 Rl) : SqB n b q f nm l dp op K T W X G N M w v Rl ∨ SqG n b q f nm (F + 1) l dp op K T W X G N M w v Rl := by
  rcases h with ⟨e, ⟨w', c, G, r⟩, hm2⟩ | ⟨q', l', K', T', W', X', G', N', M', a1, a2, a3, a4, a5, a6, ⟨w', v', c, Gw, D⟩, hm2⟩
  · refine .inl ⟨e, ⟨w', hr.trans c, hF.trans G, r⟩, fun m hM => ?_⟩
    obtain ⟨m1, e1, F1, D1⟩ := hm m hM
    obtain ⟨m2, e2, F2, B2⟩ := hm2 m1 D1
    exact ⟨m2, e1.trans e2, F1.trans F2, B2⟩
  · refine .inr ⟨q', l', K', T', W', X', G', N', M', fun i hi => ⟨(a1 i (by omega)).1.trans (ag i hi).1, (a1 i (by omega)).2.trans (ag i hi).2⟩, sg K' M' l' a1 a2, a3, a4, by omega, by omega, ⟨w', v', hr.trans c, hF.trans Gw, D⟩, fun m hM => ?_⟩
    obtain ⟨m1, e1, F1, D1⟩ := hm m hM
    obtain ⟨m2, e2, F2, D2⟩ := hm2 m1 D1
    exact ⟨m2, e1.trans e2, F1.trans F2, D2⟩
theorem Sq.bad {q F l dp : Nat} {op K T W X G N M : Nat → Nat} {w : zMem} {v : Value} {Rl : zMem → Option (Option Value × zMem)} {kk : Nat} (hL : LwR n b dp kk Rl) (g1 : dp = 0 → ¬ (tokAt b n q).k = 0) (g2 : ¬ dp = 0 → ¬ (tokAt b n q).x = 19) {e : Nat × Nat} (hc : ∃ w', run 39 88 16 [.ref 62, .ref 49, .ref 3, .int (nI l), v] [] w = some (some (.int (nI 0)), w') ∧ FrE w w' ∧ memI w' 63 13 = nI e.1 ∧ memI w' 63 14 = nI e.2) (hm : ∀ m, DsM m n b q f nm l l dp op K T W X G N M → ∃ m', call (kk + 11) 259 [.ref 180, .int (nI dp)] m = some (none, m') ∧ FrPd m m' ∧ BadM m' e) : SqB n b q f nm l dp op K T W X G N M w v Rl ∨ SqG n b q f nm F l dp op K T W X G N M w v Rl := by
  refine .inl ⟨e, hc, fun m hM => ?_⟩
  obtain ⟨m', c, F1, B⟩ := hm m hM
  exact ⟨m', hL m m' q hM.1 g1 g2 c, F1, B⟩
theorem seq (hI : LInv f) (hN : NmI nm f) : ∀ (F q l dp kk : Nat) (op K T W X G N M : Nat → Nat) (w : zMem) (v : Value) (Rl : zMem → Option (Option Value × zMem)), n - q ≤ F → kk + dp = 28 → DsI l dp op K M → DsC w n b q f nm l l dp op K T W X G N M → LwR n b dp kk Rl → SqB n b q f nm l dp op K T W X G N M w v Rl ∨ SqG n b q f nm (F + 1) l dp op K T W X G N M w v Rl := by
  intro F
  induction F with
  | zero =>
    intro q l dp kk op K T W X G N M w v Rl hF hkk hD hC hL
    obtain ⟨⟨p, d, s, vv, hR⟩, hX, hS, h7, h8, h9, h62, h66, hrow⟩ := id hC
    have hqn := hR.2.2.2.2.1
    have hl : l ≤ 60 := by have := hD.2.1; have := hD.2.2.1; omega
    have k0 : (tokAt b n q).k = 0 := by
      unfold tokAt tokS
      have a1 := (ranP_spec (fun j => isWs (b j)) hqn).1
      rw [if_pos (by omega)]
    by_cases z : dp = 0
    · exact .inr ⟨q, l, K, T, W, X, G, N, M, fun i _ => ⟨rfl, rfl⟩, .inl rfl, hD, .inl ⟨z, k0⟩, Nat.le_refl _, Nat.le_refl _, ⟨w, v, rfl, FrE.refl w, hC⟩, fun m hM => ⟨m, rfl, FrPd.refl m, hM⟩⟩
    · have x21 : (tokAt b n q).x = 21 := by unfold TkD.x; rw [if_neg (by omega)]
      have hx : NoSt (tokAt b n q).x := by rw [x21]; exact ⟨by decide, by decide, by decide, by decide, by decide, by decide, by decide, by decide⟩
      obtain ⟨w', c, F1, r⟩ := C_non hR hX.1 hl h62 hD.1 hx (fun y => absurd y z) (fun _ => by omega) v
      refine Sq.bad hL (fun y => absurd y z) (fun _ => by omega) ⟨w', c, F1.e, r⟩ (fun m hM => ?_)
      obtain ⟨m', d1, G1, B1⟩ := M_non (dp := dp) kk hM.1 hx
      exact ⟨m', d1, G1.p, B1⟩
  | succ F ih =>
    intro q l dp kk op K T W X G N M w v Rl hF hkk hD hC hL
    obtain ⟨⟨p, d, s, vv, hR⟩, hX, hS, h7, h8, h9, h62, h66, hrow⟩ := id hC
    have hqn := hR.2.2.2.2.1
    have h1 := hI.n1
    have dc := hD.2.1
    have ds := hD.2.2.1
    have hl : l ≤ 60 := by omega
    have hd3 := hD.1
    by_cases z : (dp = 0 ∧ (tokAt b n q).k = 0) ∨ (¬ dp = 0 ∧ (tokAt b n q).x = 19)
    · exact .inr ⟨q, l, K, T, W, X, G, N, M, fun i _ => ⟨rfl, rfl⟩, .inl rfl, hD, z, Nat.le_refl _, Nat.le_refl _, ⟨w, v, rfl, FrE.refl w, hC⟩, fun m hM => ⟨m, rfl, FrPd.refl m, hM⟩⟩
    have z1 : dp = 0 → ¬ (tokAt b n q).k = 0 := fun y u => z (.inl ⟨y, u⟩)
    have z2 : ¬ dp = 0 → ¬ (tokAt b n q).x = 19 := fun y u => z (.inr ⟨y, u⟩)
    rcases st_all (tokAt b n q).x with hx | ⟨kc, hK⟩
    · obtain ⟨w', c, F1, r⟩ := C_non hR hX.1 hl h62 hd3 hx z1 z2 v
      refine Sq.bad hL z1 z2 ⟨w', c, F1.e, r⟩ (fun m hM => ?_)
      obtain ⟨m', d1, G1, B1⟩ := M_non (dp := dp) kk hM.1 hx
      exact ⟨m', d1, G1.p, B1⟩
    have k1 := TkD.x_word (t := tokAt b n q) hK.sw.2.2.1
    have hk0 : ¬ (tokAt b n q).k = 0 := by omega
    have x19 := hK.sw.2.2.2.1
    by_cases g : stepsN K l = 30 ∨ (stepsN K l < 30 ∧ ((tokAt b n q).x = 16 ∨ (tokAt b n q).x = 18) ∧ dp = 3)
    · obtain ⟨w', c, F1, r⟩ := C_grd (l := l) hK hR hX.1 hS rfl h9 ds h62 g
      refine Sq.bad hL z1 z2 ⟨w', C_trn0 hR hX.1 hl hk0 (.inl ⟨x19, c⟩) v, F1.e, r⟩ (fun m hM => ?_)
      obtain ⟨m', d1, G1, B1⟩ := M_grd (dp := dp) kk hK hM.1 rfl hM.2.2.1 ds g
      exact ⟨m', d1, G1.p, B1⟩
    have hst : stepsN K l < 30 := by omega
    have hdp : (tokAt b n q).x = 16 ∨ (tokAt b n q).x = 18 → dp < 3 := fun y => by
      by_cases u : dp = 3
      · exact absurd (.inr ⟨hst, y, u⟩) g
      · omega
    rcases H_step hK hC hI hN hD rfl hst hdp (by omega) with ⟨e, ⟨w', c, Fw, r⟩, hm⟩ | ⟨q2, T0, W0, X0, G0, N0, hq2, ⟨w', c, Fw, hC2⟩, hm⟩
    · exact Sq.bad hL z1 z2 ⟨w', C_trn0 hR hX.1 hl hk0 (.inl ⟨x19, c⟩) v, Fw, r⟩ (fun m hM => hm m kk hM)
    have hn2 : n - q2 ≤ F := by omega
    have stl : ∀ i, i ≤ l → stepsN (fupd K l (tokAt b n q).x) i = stepsN K i := fun i hi => stepsN_cg fun j hj => fupd_ne (by omega)
    have stu : stepsN (fupd K l (tokAt b n q).x) (l + 1) = stepsN K l + 1 := by
      rw [stepsN_up (by rw [fupd_eq]; exact x19), stl l (Nat.le_refl _)]
    have hrun := C_trn1 hR hX.1 hl hk0 hC2.2.2.1 (.inl ⟨x19, c⟩) v
    -- lines are counted
    obtain ⟨⟨p2, d2, s2, v2, hR2⟩, hX2, hS2, g7, g8, g9, g62, g66, grow⟩ := id hC2
    have hC3 : DsC (setI w' 49 8 (nI (l + 1))) n b q2 f nm (l + 1) (l + 1) (dp + bN (tokAt b n q).x) (fupd op dp l) (fupd K l (tokAt b n q).x) (fupd T l T0) (fupd W l W0) (fupd X l X0) (fupd G l G0) (fupd N l N0) M := by
      refine ⟨⟨p2, d2, s2, v2, hR2.set3 (by omega) _ _⟩, hX2.set3 h1 (by omega) _ _, hS2, ?_, memI_s _ _ _ _, ?_, ?_, fun j hj => ?_, fun i hi => ?_⟩
      · rw [memI_j _ _ _ _ _ (by decide)]; exact g7
      · rw [memI_j _ _ _ _ _ (by decide)]; exact g9
      · rw [memI_a _ _ _ _ _ (by decide)]; exact g62
      · rw [memI_a _ _ _ _ _ (by decide)]; exact g66 j hj
      · rw [memI_a _ _ _ _ _ (by decide), memI_a _ _ _ _ _ (by decide), memI_a _ _ _ _ _ (by decide), memI_a _ _ _ _ _ (by decide), memI_a _ _ _ _ _ (by decide), memI_a _ _ _ _ _ (by decide), memI_a _ _ _ _ _ (by decide)]; exact grow i hi
    have Fw3 : FrE w (setI w' 49 8 (nI (l + 1))) := Fw.setI (by omega) _ _
    have ag0 : ∀ i, i < l → fupd K l (tokAt b n q).x i = K i ∧ M i = M i := fun i hi => ⟨fupd_ne (by omega), rfl⟩
    by_cases blk : (tokAt b n q).x = 16 ∨ (tokAt b n q).x = 18
    rotate_left 1
    · -- a step without lines of its own
      have b0 : bN (tokAt b n q).x = 0 := if_neg blk
      rw [b0] at hC3 hm
      have cle : ∀ i, Cls (dp + 0) (fupd op dp l) i ↔ Cls dp op i := fun i => ⟨fun h j hj => by have := h j hj; rwa [fupd_ne (by omega)] at this, fun h j hj => by rw [fupd_ne (by omega)]; exact h j hj⟩
      have hC4 : DsC (setI w' 49 8 (nI (l + 1))) n b q2 f nm (l + 1) (l + 1) dp op (fupd K l (tokAt b n q).x) (fupd T l T0) (fupd W l W0) (fupd X l X0) (fupd G l G0) (fupd N l N0) M := by
        obtain ⟨a1, a2, a3, a4, a5, a6, a7, a8, a9⟩ := hC3
        refine ⟨a1, a2, a3, a4, a5, a6, a7, fun j hj => by have := a8 j hj; rwa [fupd_ne (by omega)] at this, fun i hi => ?_⟩
        obtain ⟨r1, r2, r3, r4⟩ := a9 i hi
        exact ⟨r1, r2, r3, fun u hc => r4 u ((cle i).mpr hc)⟩
      have hD4 : DsI (l + 1) dp op (fupd K l (tokAt b n q).x) M := by
        refine ⟨hd3, by rw [stu]; omega, by rw [stu]; omega, fun j hj => by have := hD.2.2.2.1 j hj; omega, fun i hi hc => ?_⟩
        unfold nxL
        by_cases y : i = l
        · rw [y, fupd_eq, if_neg blk]; omega
        · rw [fupd_ne y]
          have := hD.2.2.2.2 i (by omega) hc
          unfold nxL at this
          omega
      refine Sq.on hrun Fw3 (by omega) (by omega) (fun m hM => ?_) ag0 (fun K' M' l' ha hs => ?_) (ih q2 (l + 1) dp kk op _ _ _ _ _ _ _ _ _ Rl hn2 hkk hD4 hC4 hL)
      · obtain ⟨m1, c1, F1, D1⟩ := hm m kk hM
        obtain ⟨e1, e2, e3, e4⟩ := D1
        have cf := M_fin0 (dp := dp) (kc := kc) (st := stepsN K l) kk hst e1.1 e3
        refine ⟨setI m1 185 (1588 + 9 * stepsN K l) (nI (stepsN (fupd K l (tokAt b n q).x) (l + 1))), hL m _ q hM.1 z1 z2 (by rw [b0] at c1; exact c1.trans cf), F1.setI (by omega) _, e1.s185 _ _, e2.agP ((FrPd.refl m1).setI (by omega) _), ?_, fun i hi hi19 => ?_⟩
        · rw [memI_a _ _ _ _ _ (by decide)]; exact e3
        · obtain ⟨y1, y2⟩ := e4 i hi hi19
          have sle : stepsN (fupd K l (tokAt b n q).x) i < stepsN K l + 1 := by
            have u1 := stepsN_up hi19
            have u2 : stepsN (fupd K l (tokAt b n q).x) (i + 1) ≤ stepsN (fupd K l (tokAt b n q).x) (l + 1) := stepsN_mono (by omega)
            omega
          have ec : cel (setI m1 185 (1588 + 9 * stepsN K l) (nI (stepsN (fupd K l (tokAt b n q).x) (l + 1)))) (stepsN (fupd K l (tokAt b n q).x) i) 0 = cel m1 (stepsN (fupd K l (tokAt b n q).x) i) 0 := memI_j _ _ _ _ _ (by show 1580 + 9 * _ + min 0 8 ≠ _; omega)
          refine ⟨?_, fun hc _ => ?_⟩
          · have ej : ∀ j, j < 8 → cel (setI m1 185 (1588 + 9 * stepsN K l) (nI (stepsN (fupd K l (tokAt b n q).x) (l + 1)))) (stepsN (fupd K l (tokAt b n q).x) i) j = cel m1 (stepsN (fupd K l (tokAt b n q).x) i) j := fun j hj => memI_j _ _ _ _ _ (by show 1580 + 9 * _ + min j 8 ≠ _; omega)
            unfold LnQ at y1 ⊢
            rw [ej 0 (by decide), ej 1 (by decide), ej 2 (by decide), ej 5 (by decide), ej 6 (by decide), ej 7 (by decide)]
            exact y1
          · by_cases y : i = l
            · subst y
              rw [stl i (Nat.le_refl _), memI_s]
              unfold nxL
              rw [fupd_eq, if_neg blk]
            · have s2 : stepsN (fupd K l (tokAt b n q).x) i < stepsN K l := by
                have u1 := stepsN_up hi19
                have u2 : stepsN (fupd K l (tokAt b n q).x) (i + 1) ≤ stepsN (fupd K l (tokAt b n q).x) l := stepsN_mono (by omega)
                rw [stl l (Nat.le_refl _)] at u2
                omega
              rw [memI_j _ _ _ _ _ (by omega)]
              exact y2 ((cle i).mpr hc) y
      · refine .inr ⟨?_, .inr ⟨?_, ?_, ?_, hs⟩⟩
        · have : l + 1 ≤ l' := by
            rcases F with _ | F
            · rcases hs with hs | ⟨hs, _⟩ <;> omega
            · rcases hs with hs | ⟨hs, _⟩ <;> omega
          omega
        · rw [(ha l (by omega)).1, fupd_eq]; exact fun y => blk (.inl y)
        · rw [(ha l (by omega)).1, fupd_eq]; exact fun y => blk (.inr y)
        · rw [(ha l (by omega)).1, fupd_eq]; exact x19
    sorry
end DK6
