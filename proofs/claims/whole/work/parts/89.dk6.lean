/-! THE PURE PART. Decades are read: line after line -/
/-- a call of readStep is a turn of the loop Rl -/
def LwR (n : Nat) (b : Nat → Nat) (dp kk : Nat) (Rl : zMem → Option (Option Value × zMem)) : Prop := ∀ m m' q, RdM m n b q → (dp = 0 → ¬ (tokAt b n q).k = 0) → (¬ dp = 0 → ¬ (tokAt b n q).x = 19) → call (kk + 11) 259 [.ref 180, .int (nI dp)] m = some (none, m') → Rl m = Rl m'
def SqB (n : Nat) (b : Nat → Nat) (q : Nat) (f : Nat → Nat) (nm : Nat → List Nat) (l dp : Nat) (op K T W X G N M : Nat → Nat) (w : zMem) (v : Value) (Rl : zMem → Option (Option Value × zMem)) : Prop := ∃ e : Nat × Nat, (∃ w', run 39 88 16 [.ref 62, .ref 49, .ref 3, .int (nI l), v] [] w = some (some (.int (nI 0)), w') ∧ FrE w w' ∧ memI w' 63 13 = nI e.1 ∧ memI w' 63 14 = nI e.2) ∧ ∀ m, DsM m n b q f nm l l dp op K T W X G N M → ∃ m', Rl m = Rl m' ∧ FrPd m m' ∧ BadM m' e
def SqG (n : Nat) (b : Nat → Nat) (q : Nat) (f : Nat → Nat) (nm : Nat → List Nat) (F l dp : Nat) (op K T W X G N M : Nat → Nat) (w : zMem) (v : Value) (Rl : zMem → Option (Option Value × zMem)) : Prop := ∃ (q' l' : Nat) (K' T' W' X' G' N' M' : Nat → Nat), (∀ i, i < l → K' i = K i ∧ M' i = M i) ∧ Seg K' M' F (3 - dp) l l' ∧ DsI l' dp op K' M' ∧ ((dp = 0 ∧ (tokAt b n q').k = 0) ∨ (¬ dp = 0 ∧ (tokAt b n q').x = 19)) ∧ q ≤ q' ∧ l ≤ l' ∧ (∃ w' v', run 39 88 16 [.ref 62, .ref 49, .ref 3, .int (nI l), v] [] w = run 39 88 16 [.ref 62, .ref 49, .ref 3, .int (nI l'), v'] [] w' ∧ FrE w w' ∧ DsC w' n b q' f nm l' l' dp op K' T' W' X' G' N' M') ∧ ∀ m, DsM m n b q f nm l l dp op K T W X G N M → ∃ m', Rl m = Rl m' ∧ FrPd m m' ∧ DsM m' n b q' f nm l' l' dp op K' T' W' X' G' N' M'
section DK6
variable {n : Nat} {b : Nat → Nat} {f : Nat → Nat} {nm : Nat → List Nat}
/-- going on behind a turn -/
theorem Sq.on {q q1 F l l1 dp : Nat} {op K T W X G N M K1 T1 W1 X1 G1 N1 M1 : Nat → Nat} {w w1 : zMem} {v v1 : Value} {Rl : zMem → Option (Option Value × zMem)} (hr : run 39 88 16 [.ref 62, .ref 49, .ref 3, .int (nI l), v] [] w = run 39 88 16 [.ref 62, .ref 49, .ref 3, .int (nI l1), v1] [] w1) (hF : FrE w w1) (hq : q ≤ q1) (hl : l ≤ l1) (hm : ∀ m, DsM m n b q f nm l l dp op K T W X G N M → ∃ m', Rl m = Rl m' ∧ FrPd m m' ∧ DsM m' n b q1 f nm l1 l1 dp op K1 T1 W1 X1 G1 N1 M1) (ag : ∀ i, i < l → K1 i = K i ∧ M1 i = M i) (sg : ∀ K' M' l', (∀ i, i < l1 → K' i = K1 i ∧ M' i = M1 i) → Seg K' M' F (3 - dp) l1 l' → Seg K' M' (F + 1) (3 - dp) l l') (h : SqB n b q1 f nm l1 dp op K1 T1 W1 X1 G1 N1 M1 w1 v1 Rl ∨ SqG n b q1 f nm F l1 dp op K1 T1 W1 X1 G1 N1 M1 w1 v1 Rl) : SqB n b q f nm l dp op K T W X G N M w v Rl ∨ SqG n b q f nm (F + 1) l dp op K T W X G N M w v Rl := by
  rcases h with ⟨e, ⟨w', c, G, r⟩, hm2⟩ | ⟨q', l', K', T', W', X', G', N', M', a1, a2, a3, a4, a5, a6, ⟨w', v', c, Gw, D⟩, hm2⟩
  · refine .inl ⟨e, ⟨w', hr.trans c, hF.trans G, r⟩, fun m hM => ?_⟩
    obtain ⟨m1, e1, F1, D1⟩ := hm m hM
    obtain ⟨m2, e2, F2, B2⟩ := hm2 m1 D1
    exact ⟨m2, e1.trans e2, F1.trans F2, B2⟩
  · refine .inr ⟨q', l', K', T', W', X', G', N', M', fun i hi => ⟨(a1 i (by omega)).1.trans (ag i hi).1, (a1 i (by omega)).2.trans (ag i hi).2⟩, sg K' M' l' a1 a2, a3, a4, by omega, by omega, ⟨w', v', hr.trans c, hF.trans Gw, D⟩, fun m hM => ?_⟩
    obtain ⟨m1, e1, F1, D1⟩ := hm m hM
    obtain ⟨m2, e2, F2, D2⟩ := hm2 m1 D1
    exact ⟨m2, e1.trans e2, F1.trans F2, D2⟩
theorem Sq.bad {q F l dp : Nat} {op K T W X G N M : Nat → Nat} {w : zMem} {v : Value} {Rl : zMem → Option (Option Value × zMem)} {kk : Nat} (hL : LwR n b dp kk Rl) (g1 : dp = 0 → ¬ (tokAt b n q).k = 0) (g2 : ¬ dp = 0 → ¬ (tokAt b n q).x = 19) {e : Nat × Nat} (hc : ∃ w', run 39 88 16 [.ref 62, .ref 49, .ref 3, .int (nI l), v] [] w = some (some (.int (nI 0)), w') ∧ FrE w w' ∧ memI w' 63 13 = nI e.1 ∧ memI w' 63 14 = nI e.2) (hm : ∀ m, DsM m n b q f nm l l dp op K T W X G N M → ∃ m', call (kk + 11) 259 [.ref 180, .int (nI dp)] m = some (none, m') ∧ FrPd m m' ∧ BadM m' e) : SqB n b q f nm l dp op K T W X G N M w v Rl ∨ SqG n b q f nm F l dp op K T W X G N M w v Rl := by
  refine .inl ⟨e, hc, fun m hM => ?_⟩
  obtain ⟨m', c, F1, B⟩ := hm m hM
  exact ⟨m', hL m m' q hM.1 g1 g2 c, F1, B⟩
theorem seq (hI : LInv f) (hN : NmI nm f) : ∀ (F q l dp kk : Nat) (op K T W X G N M : Nat → Nat) (w : zMem) (v : Value) (Rl : zMem → Option (Option Value × zMem)), n - q ≤ F → kk + dp = 28 → DsI l dp op K M → DsC w n b q f nm l l dp op K T W X G N M → LwR n b dp kk Rl → SqB n b q f nm l dp op K T W X G N M w v Rl ∨ SqG n b q f nm (F + 1) l dp op K T W X G N M w v Rl := by
  intro F
  induction F with
  | zero =>
    intro q l dp kk op K T W X G N M w v Rl hF hkk hD hC hL
    obtain ⟨⟨p, d, s, vv, hR⟩, hX, hS, h7, h8, h9, h62, h66, hrow⟩ := id hC
    have hqn := hR.2.2.2.2.1
    have hl : l ≤ 60 := by have := hD.2.1; have := hD.2.2.1; omega
    have k0 : (tokAt b n q).k = 0 := by
      unfold tokAt tokS
      have a1 := (ranP_spec (fun j => isWs (b j)) hqn).1
      rw [if_pos (by omega)]
    by_cases z : dp = 0
    · exact .inr ⟨q, l, K, T, W, X, G, N, M, fun i _ => ⟨rfl, rfl⟩, .inl rfl, hD, .inl ⟨z, k0⟩, Nat.le_refl _, Nat.le_refl _, ⟨w, v, rfl, FrE.refl w, hC⟩, fun m hM => ⟨m, rfl, FrPd.refl m, hM⟩⟩
    · have x21 : (tokAt b n q).x = 21 := by unfold TkD.x; rw [if_neg (by omega)]
      have hx : NoSt (tokAt b n q).x := by rw [x21]; exact ⟨by decide, by decide, by decide, by decide, by decide, by decide, by decide, by decide⟩
      obtain ⟨w', c, F1, r⟩ := C_non hR hX.1 hl h62 hD.1 hx (fun y => absurd y z) (fun _ => by omega) v
      refine Sq.bad hL (fun y => absurd y z) (fun _ => by omega) ⟨w', c, F1.e, r⟩ (fun m hM => ?_)
      obtain ⟨m', d1, G1, B1⟩ := M_non (dp := dp) kk hM.1 hx
      exact ⟨m', d1, G1.p, B1⟩
  | succ F ih =>
    intro q l dp kk op K T W X G N M w v Rl hF hkk hD hC hL
    obtain ⟨⟨p, d, s, vv, hR⟩, hX, hS, h7, h8, h9, h62, h66, hrow⟩ := id hC
    have hqn := hR.2.2.2.2.1
    have h1 := hI.n1
    have dc := hD.2.1
    have ds := hD.2.2.1
    have hl : l ≤ 60 := by omega
    have hd3 := hD.1
    by_cases z : (dp = 0 ∧ (tokAt b n q).k = 0) ∨ (¬ dp = 0 ∧ (tokAt b n q).x = 19)
    · exact .inr ⟨q, l, K, T, W, X, G, N, M, fun i _ => ⟨rfl, rfl⟩, .inl rfl, hD, z, Nat.le_refl _, Nat.le_refl _, ⟨w, v, rfl, FrE.refl w, hC⟩, fun m hM => ⟨m, rfl, FrPd.refl m, hM⟩⟩
    have z1 : dp = 0 → ¬ (tokAt b n q).k = 0 := fun y u => z (.inl ⟨y, u⟩)
    have z2 : ¬ dp = 0 → ¬ (tokAt b n q).x = 19 := fun y u => z (.inr ⟨y, u⟩)
    rcases st_all (tokAt b n q).x with hx | ⟨kc, hK⟩
    · obtain ⟨w', c, F1, r⟩ := C_non hR hX.1 hl h62 hd3 hx z1 z2 v
      refine Sq.bad hL z1 z2 ⟨w', c, F1.e, r⟩ (fun m hM => ?_)
      obtain ⟨m', d1, G1, B1⟩ := M_non (dp := dp) kk hM.1 hx
      exact ⟨m', d1, G1.p, B1⟩
    have k1 := TkD.x_word (t := tokAt b n q) hK.sw.2.2.1
    have hk0 : ¬ (tokAt b n q).k = 0 := by omega
    have x19 := hK.sw.2.2.2.1
    by_cases g : stepsN K l = 30 ∨ (stepsN K l < 30 ∧ ((tokAt b n q).x = 16 ∨ (tokAt b n q).x = 18) ∧ dp = 3)
    · obtain ⟨w', c, F1, r⟩ := C_grd (l := l) hK hR hX.1 hS rfl h9 ds h62 g
      refine Sq.bad hL z1 z2 ⟨w', C_trn0 hR hX.1 hl hk0 (.inl ⟨x19, c⟩) v, F1.e, r⟩ (fun m hM => ?_)
      obtain ⟨m', d1, G1, B1⟩ := M_grd (dp := dp) kk hK hM.1 rfl hM.2.2.1 ds g
      exact ⟨m', d1, G1.p, B1⟩
    have hst : stepsN K l < 30 := by omega
    have hdp : (tokAt b n q).x = 16 ∨ (tokAt b n q).x = 18 → dp < 3 := fun y => by
      by_cases u : dp = 3
      · exact absurd (.inr ⟨hst, y, u⟩) g
      · omega
    rcases H_step hK hC hI hN hD rfl hst hdp (by omega) with ⟨e, ⟨w', c, Fw, r⟩, hm⟩ | ⟨q2, T0, W0, X0, G0, N0, hq2, ⟨w', c, Fw, hC2⟩, hm⟩
    · exact Sq.bad hL z1 z2 ⟨w', C_trn0 hR hX.1 hl hk0 (.inl ⟨x19, c⟩) v, Fw, r⟩ (fun m hM => hm m kk hM)
    have hn2 : n - q2 ≤ F := by omega
    have stl : ∀ i, i ≤ l → stepsN (fupd K l (tokAt b n q).x) i = stepsN K i := fun i hi => stepsN_cg fun j hj => fupd_ne (by omega)
    have stu : stepsN (fupd K l (tokAt b n q).x) (l + 1) = stepsN K l + 1 := by
      rw [stepsN_up (by rw [fupd_eq]; exact x19), stl l (Nat.le_refl _)]
    have hrun := C_trn1 hR hX.1 hl hk0 hC2.2.2.1 (.inl ⟨x19, c⟩) v
    -- lines are counted
    obtain ⟨⟨p2, d2, s2, v2, hR2⟩, hX2, hS2, g7, g8, g9, g62, g66, grow⟩ := id hC2
    have hC3 : DsC (setI w' 49 8 (nI (l + 1))) n b q2 f nm (l + 1) (l + 1) (dp + bN (tokAt b n q).x) (fupd op dp l) (fupd K l (tokAt b n q).x) (fupd T l T0) (fupd W l W0) (fupd X l X0) (fupd G l G0) (fupd N l N0) M := by
      refine ⟨⟨p2, d2, s2, v2, hR2.set3 (by omega) _ _⟩, hX2.set3 h1 (by omega) _ _, hS2, ?_, memI_s _ _ _ _, ?_, ?_, fun j hj => ?_, fun i hi => ?_⟩
      · rw [memI_j _ _ _ _ _ (by decide)]; exact g7
      · rw [memI_j _ _ _ _ _ (by decide)]; exact g9
      · rw [memI_a _ _ _ _ _ (by decide)]; exact g62
      · rw [memI_a _ _ _ _ _ (by decide)]; exact g66 j hj
      · rw [memI_a _ _ _ _ _ (by decide), memI_a _ _ _ _ _ (by decide), memI_a _ _ _ _ _ (by decide), memI_a _ _ _ _ _ (by decide), memI_a _ _ _ _ _ (by decide), memI_a _ _ _ _ _ (by decide), memI_a _ _ _ _ _ (by decide)]; exact grow i hi
    have Fw3 : FrE w (setI w' 49 8 (nI (l + 1))) := Fw.setI (by omega) _ _
    have ag0 : ∀ i, i < l → fupd K l (tokAt b n q).x i = K i ∧ M i = M i := fun i hi => ⟨fupd_ne (by omega), rfl⟩
    by_cases blk : (tokAt b n q).x = 16 ∨ (tokAt b n q).x = 18
    rotate_left 1
    · -- a step without lines of its own
      have b0 : bN (tokAt b n q).x = 0 := if_neg blk
      rw [b0] at hC3 hm
      have cle : ∀ i, Cls (dp + 0) (fupd op dp l) i ↔ Cls dp op i := fun i => ⟨fun h j hj => by have := h j hj; rwa [fupd_ne (by omega)] at this, fun h j hj => by rw [fupd_ne (by omega)]; exact h j hj⟩
      have hC4 : DsC (setI w' 49 8 (nI (l + 1))) n b q2 f nm (l + 1) (l + 1) dp op (fupd K l (tokAt b n q).x) (fupd T l T0) (fupd W l W0) (fupd X l X0) (fupd G l G0) (fupd N l N0) M := by
        obtain ⟨a1, a2, a3, a4, a5, a6, a7, a8, a9⟩ := hC3
        refine ⟨a1, a2, a3, a4, a5, a6, a7, fun j hj => by have := a8 j hj; rwa [fupd_ne (by omega)] at this, fun i hi => ?_⟩
        obtain ⟨r1, r2, r3, r4⟩ := a9 i hi
        exact ⟨r1, r2, r3, fun u hc => r4 u ((cle i).mpr hc)⟩
      have hD4 : DsI (l + 1) dp op (fupd K l (tokAt b n q).x) M := by
        refine ⟨hd3, by rw [stu]; omega, by rw [stu]; omega, fun j hj => by have := hD.2.2.2.1 j hj; omega, fun i hi hc => ?_⟩
        unfold nxL
        by_cases y : i = l
        · rw [y, fupd_eq, if_neg blk]; omega
        · rw [fupd_ne y]
          have := hD.2.2.2.2 i (by omega) hc
          unfold nxL at this
          omega
      refine Sq.on hrun Fw3 (by omega) (by omega) (fun m hM => ?_) ag0 (fun K' M' l' ha hs => ?_) (ih q2 (l + 1) dp kk op _ _ _ _ _ _ _ _ _ Rl hn2 hkk hD4 hC4 hL)
      · obtain ⟨m1, c1, F1, D1⟩ := hm m kk hM
        obtain ⟨e1, e2, e3, e4⟩ := D1
        have cf := M_fin0 (dp := dp) (kc := kc) (st := stepsN K l) kk hst e1.1 e3
        refine ⟨setI m1 185 (1588 + 9 * stepsN K l) (nI (stepsN (fupd K l (tokAt b n q).x) (l + 1))), hL m _ q hM.1 z1 z2 (c1.trans cf), F1.setI (by omega) _, e1.s185 _ _, e2.agP ((FrPd.refl m1).setI (by omega) _), ?_, fun i hi hi19 => ?_⟩
        · rw [memI_a _ _ _ _ _ (by decide)]; exact e3
        · obtain ⟨y1, y2⟩ := e4 i hi hi19
          have sle : stepsN (fupd K l (tokAt b n q).x) i < stepsN K l + 1 := by
            have u1 := stepsN_up hi19
            have u2 : stepsN (fupd K l (tokAt b n q).x) (i + 1) ≤ stepsN (fupd K l (tokAt b n q).x) (l + 1) := stepsN_mono (by omega)
            omega
          have ec : cel (setI m1 185 (1588 + 9 * stepsN K l) (nI (stepsN (fupd K l (tokAt b n q).x) (l + 1)))) (stepsN (fupd K l (tokAt b n q).x) i) 0 = cel m1 (stepsN (fupd K l (tokAt b n q).x) i) 0 := memI_j _ _ _ _ _ (by show 1580 + 9 * _ + min 0 8 ≠ _; omega)
          refine ⟨?_, fun hc _ => ?_⟩
          · have ej : ∀ j, j < 8 → cel (setI m1 185 (1588 + 9 * stepsN K l) (nI (stepsN (fupd K l (tokAt b n q).x) (l + 1)))) (stepsN (fupd K l (tokAt b n q).x) i) j = cel m1 (stepsN (fupd K l (tokAt b n q).x) i) j := fun j hj => memI_j _ _ _ _ _ (by show 1580 + 9 * _ + min j 8 ≠ _; omega)
            unfold LnQ at y1 ⊢
            rw [ej 0 (by decide), ej 1 (by decide), ej 2 (by decide), ej 5 (by decide), ej 6 (by decide), ej 7 (by decide)]
            exact y1
          · by_cases y : i = l
            · subst y
              rw [stl i (Nat.le_refl _), memI_s]
              unfold nxL
              rw [fupd_eq, if_neg blk]
            · have s2 : stepsN (fupd K l (tokAt b n q).x) i < stepsN K l := by
                have u1 := stepsN_up hi19
                have u2 : stepsN (fupd K l (tokAt b n q).x) (i + 1) ≤ stepsN (fupd K l (tokAt b n q).x) l := stepsN_mono (by omega)
                rw [stl l (Nat.le_refl _)] at u2
                omega
              rw [memI_j _ _ _ _ _ (by omega)]
              exact y2 ((cle i).mpr hc) y
      · refine .inr ⟨?_, .inr ⟨?_, ?_, ?_, hs⟩⟩
        · have : l + 1 ≤ l' := by
            rcases F with _ | F
            · rcases hs with hs | ⟨hs, _⟩ <;> omega
            · rcases hs with hs | ⟨hs, _⟩ <;> omega
          omega
        · rw [(ha l (by omega)).1, fupd_eq]; exact fun y => blk (.inl y)
        · rw [(ha l (by omega)).1, fupd_eq]; exact fun y => blk (.inr y)
        · rw [(ha l (by omega)).1, fupd_eq]; exact x19
    -- a step with lines of its own
    have b1 : bN (tokAt b n q).x = 1 := if_pos blk
    rw [b1] at hC3 hm
    have hd2 := hdp blk
    have clE : ∀ i, Cls (dp + 1) (fupd op dp l) i ↔ Cls dp op i ∧ ¬ i = l := fun i => by
      refine ⟨fun h => ⟨fun j hj => ?_, ?_⟩, fun h j hj => ?_⟩
      · have := h j (by omega)
        rwa [fupd_ne (by omega)] at this
      · have := h dp (by omega)
        rwa [fupd_eq] at this
      · by_cases y : j = dp
        · rw [y, fupd_eq]; exact h.2
        · rw [fupd_ne y]; exact h.1 j (by omega)
    have hD3 : DsI (l + 1) (dp + 1) (fupd op dp l) (fupd K l (tokAt b n q).x) M := by
      refine ⟨by omega, by rw [stu]; omega, by rw [stu]; omega, fun j hj => ?_, fun i hi hc => ?_⟩
      · by_cases y : j = dp
        · rw [y, fupd_eq]; omega
        · rw [fupd_ne y]
          have := hD.2.2.2.1 j (by omega)
          omega
      · obtain ⟨hc1, hc2⟩ := (clE i).mp hc
        have := hD.2.2.2.2 i (by omega) hc1
        unfold nxL at this ⊢
        rw [fupd_ne hc2]
        omega
    obtain ⟨kk', rfl⟩ : ∃ kk', kk = kk' + 1 := ⟨kk - 1, by omega⟩
    have hL' : LwR n b (dp + 1) kk' (fun m => run (kk' + 1 + 11) 259 141 [.ref 180, .int (nI dp), .int (nI kc), .int (nI 1), .int (nI (1580 + 9 * stepsN K l))] [] m) := fun m m' q hM _ g2 c => by
      have y := g2 (by omega)
      have hMM := hM.1
      have ce := M_isEnd (kk' + 1 + 9) hMM hM.2.2.2.2.1 hM.tk
      rw [if_neg y] at ce
      have h12 := hM.2.2.2.2.2
      have c' : call (kk' + 1 + 10) 259 [.ref 180, .int (nI (dp + 1))] m = some (none, m') := by
        rw [show kk' + 1 + 10 = kk' + 11 by omega]; exact c
      show run (kk' + 1 + 11) 259 141 [.ref 180, .int (nI dp), .int (nI kc), .int (nI 1), .int (nI (1580 + 9 * stepsN K l))] [] m = run (kk' + 1 + 11) 259 141 [.ref 180, .int (nI dp), .int (nI kc), .int (nI 1), .int (nI (1580 + 9 * stepsN K l))] [] m'
      ((try dsimp only); rw [u259_141]; simp (disch := first | omega | exact jkc | exact vcI _ | exact vcR _) only [e259, u259_0, u259_1, u259_4, u259_5, u259_6, u259_7, u259_10, u259_11, u259_13, u259_16, u259_17, u259_20, u259_21, u259_22, u259_23, u259_26, u259_27, u259_30, u259_31, u259_34, u259_37, u259_38, u259_41, u259_43, u259_46, u259_47, u259_49, u259_50, u259_53, u259_56, u259_57, u259_60, u259_63, u259_64, u259_67, u259_68, u259_69, u259_72, u259_73, u259_75, u259_76, u259_79, u259_82, u259_83, u259_86, u259_89, u259_90, u259_93, u259_95, u259_96, u259_99, u259_100, u259_101, u259_103, u259_104, u259_105, u259_108, u259_109, u259_110, u259_113, u259_114, u259_117, u259_118, u259_121, u259_123, u259_124, u259_125, u259_126, u259_128, u259_131, u259_132, u259_133, u259_135, u259_138, u259_142, u259_145, u259_146, u259_149, u259_152, u259_153, u259_156, u259_159, u259_160, u259_161, u259_162, u259_163, u259_166, u259_169, u259_170, u259_173, u259_174, u259_175, u259_178, u259_181, u259_182, u259_183, u259_185, u259_188, u259_191, u259_192, u259_195, u259_197, u259_199, u259_200, u259_201, u259_204, u259_205, nI_clamp, inB_nI, nI_eqT, nI_eqF, nI_leT, nI_leF, nI_ltT, nI_ltF, nI_add, pk_mul, pk_div, pk_sub, mI1_eq, nI_z0, nI_z1, if_true, if_false, true_and, and_true, and_self, not_true_eq_false, not_false_eq_true, Option.bind_some, Option.toList_some, Option.toList_none, List.cons_append, List.nil_append, va_rf_some, ge_iff_le, eq_self, ↓reduceIte, Bool.false_eq_true, decide_true, decide_false, Nat.reduceLeDiff, Nat.reduceEqDiff, Nat.reduceAdd, Nat.reduceMul, Nat.reduceSub, Nat.reduceLT, Nat.le_refl, nI_l, lN_leT, lN_leF, lN_ltT, lN_ltF, lN_eqT, lN_eqF, lN_add, lN_mul, lN_sub, pk_lDiv, pk_lRem, lN_i, lgn_ge, lgn_le, lgn_gt, lgn_lt, lgn_eq, lc_le, lc_ge, lc_lt, lc_gt, false_and, and_false, false_or, or_false, true_or, or_true, llit_0, llit_1, llit_2, llit_3, llit_4, llit_5, llit_6, llit_7, llit_8, llit_9, llit_10, llit_16, llit_20, llit_27, llit_32, llit_40, llit_50, llit_60, llit_96, llit_97, llit_99, llit_127, llit_255, llit_999, llit_9999, memK_setI, memN_setI, memS_setI, memL_setI, memR_setI, memK_setL, memN_setL, memS_setL, memI_setL, memR_setL, memK_setR, memN_setR, memS_setR, memI_setR, memL_setR, memK_rowI, memN_rowI, memS_rowI, memL_rowI, memR_rowI, memK_rowL, memN_rowL, memS_rowL, memI_rowL, memR_rowL, memI_s, memI_a, memI_j, memL_s, memL_a, memL_j, memR_s, memR_a, memI_rs, memI_ra, memL_rs, memL_ra, lit_0, lit_1, lit_2, lit_3, lit_4, lit_5, lit_6, lit_7, lit_8, lit_9, lit_10, lit_11, lit_12, lit_13, lit_16, lit_17, lit_18, lit_19, lit_20, lit_21, lit_24, lit_26, lit_30, lit_32, lit_38, lit_40, lit_44, lit_48, lit_50, lit_52, lit_56, lit_57, lit_59, lit_60, lit_61, lit_62, lit_63, lit_65, lit_97, lit_98, lit_99, lit_100, lit_101, lit_103, lit_104, lit_105, lit_107, lit_108, lit_110, lit_111, lit_112, lit_114, lit_115, lit_116, lit_117, lit_119, lit_121, lit_122, lit_127, lit_128, lit_240, lit_255, lit_300, lit_361, lit_370, lit_421, lit_900, lit_999, lit_1480, lit_1492, lit_1512, lit_1518, lit_1536, lit_1580, lit_1850, lit_2000, lit_2971, lit_9999, lit_10000, lit_10909, lit_65536, lit_252645135, lit_858993459, lit_1431655765, hMM.1, hMM.2.1, hMM.2.2.1, hMM.2.2.2.1, hMM.2.2.2.2.1, hMM.2.2.2.2.2.1, hMM.2.2.2.2.2.2.1, hMM.2.2.2.2.2.2.2.1, hMM.2.2.2.2.2.2.2.2.1, hMM.2.2.2.2.2.2.2.2.2.1, hMM.2.2.2.2.2.2.2.2.2.2.1, hMM.2.2.2.2.2.2.2.2.2.2.2.1, hMM.2.2.2.2.2.2.2.2.2.2.2.2.1, hMM.2.2.2.2.2.2.2.2.2.2.2.2.2.1, hMM.2.2.2.2.2.2.2.2.2.2.2.2.2.2.1, hMM.2.2.2.2.2.2.2.2.2.2.2.2.2.2.2.1, hMM.2.2.2.2.2.2.2.2.2.2.2.2.2.2.2.2.1, hMM.2.2.2.2.2.2.2.2.2.2.2.2.2.2.2.2.2.1, hMM.2.2.2.2.2.2.2.2.2.2.2.2.2.2.2.2.2.2.1, hMM.2.2.2.2.2.2.2.2.2.2.2.2.2.2.2.2.2.2.2.1, hMM.2.2.2.2.2.2.2.2.2.2.2.2.2.2.2.2.2.2.2.2.1, hMM.2.2.2.2.2.2.2.2.2.2.2.2.2.2.2.2.2.2.2.2.2.1, hMM.2.2.2.2.2.2.2.2.2.2.2.2.2.2.2.2.2.2.2.2.2.2.1, hMM.2.2.2.2.2.2.2.2.2.2.2.2.2.2.2.2.2.2.2.2.2.2.2.1, hMM.2.2.2.2.2.2.2.2.2.2.2.2.2.2.2.2.2.2.2.2.2.2.2.2, h12, ce, c'])
    have hmx : ∀ m, DsM m n b q f nm l l dp op K T W X G N M → ∃ m', call (kk' + 1 + 11) 259 [.ref 180, .int (nI dp)] m = run (kk' + 1 + 11) 259 141 [.ref 180, .int (nI dp), .int (nI kc), .int (nI 1), .int (nI (1580 + 9 * stepsN K l))] [] m' ∧ FrPd m m' ∧ DsM m' n b q2 f nm (l + 1) (l + 1) (dp + 1) (fupd op dp l) (fupd K l (tokAt b n q).x) (fupd T l T0) (fupd W l W0) (fupd X l X0) (fupd G l G0) (fupd N l N0) M := fun m hM => by
      obtain ⟨m1, c1, F1, e1, e2, e3, e4⟩ := hm m (kk' + 1) hM
      refine ⟨m1, c1, F1, e1, e2, e3, fun i hi hi19 => ⟨(e4 i hi hi19).1, fun hc _ => (e4 i hi hi19).2 hc ((clE i).mp hc).2⟩⟩
    rcases ih q2 (l + 1) (dp + 1) kk' (fupd op dp l) _ _ _ _ _ _ _ (setI w' 49 8 (nI (l + 1))) (.int (nI 1)) _ hn2 (by omega) hD3 hC3 hL' with ⟨e, ⟨w2, c2, G2, r2⟩, hm2⟩ | ⟨q3, l3, K', T', W', X', G', N', M', ag, sg, hD', stp, hq3, hl3, ⟨w3, v3, c3, G3, hC'⟩, hm3⟩
    · refine Sq.bad hL z1 z2 ⟨w2, hrun.trans c2, Fw3.trans G2, r2⟩ (fun m hM => ?_)
      obtain ⟨m1, c1, F1, D1⟩ := hmx m hM
      obtain ⟨m2, e2, F2, B2⟩ := hm2 m1 D1
      obtain ⟨u, c4⟩ := M_finB (dp := dp) (kc := kc) (kk' + 1) hst B2
      exact ⟨_, c1.trans (e2.trans c4), (F1.trans F2).setI (by omega) _, B2.s185 _ _⟩
    have y19 : (tokAt b n q3).x = 19 := by
      rcases stp with ⟨y, _⟩ | ⟨_, y⟩
      · omega
      · exact y
    obtain ⟨⟨p3, d3, s3, v3', hR3⟩, hX3, hS3, t7, t8, t9, t62, t66, trow⟩ := id hC'
    have dc' := hD'.2.1
    have ds' := hD'.2.2.1
    have k3 := TkD.x_word (t := tokAt b n q3) (by rw [y19]; decide)
    have hk3 : ¬ (tokAt b n q3).k = 0 := by omega
    obtain ⟨w4, F4, R4, u62, u66, u49, u50, u56, uo, cR⟩ := C_rend (l := l3) (dp := dp) (l0 := l) hR3 hX3.1 hS3 (by omega) y19 t62 hd2 (by rw [t66 dp (by omega), fupd_eq]) (by omega)
    have T3 := hR3.tk
    have a1 := T3.1
    have a2 := T3.2.2.1
    have T4 := R4.tk
    have a3 := T4.1
    have a4 := T4.2.2.1
    by_cases cl : (tokAt b n (tokAt b n q3).n).k = 3 ∧ (tokAt b n (tokAt b n q3).n).v = 59
    rotate_left 1
    · obtain ⟨w5, c5, F5, r5⟩ := C_takeClose0 34 R4 cl
      refine Sq.bad hL z1 z2 ⟨w5, hrun.trans (c3.trans (C_trn0 hR3 hX3.1 (by omega) hk3 (.inr ⟨y19, cR 0 w5 (by decide) c5⟩) v3)), ((Fw3.trans G3).trans F4).trans F5.e, r5⟩ (fun m hM => ?_)
      obtain ⟨m1, c1, F1, D1⟩ := hmx m hM
      obtain ⟨m2, e2, F2, D2⟩ := hm3 m1 D1
      obtain ⟨m5, G5, B5, c6⟩ := (M_finE (dp := dp) (kc := kc) (st := stepsN K l) (kk' + 1) hst D2.1 y19).2 cl
      exact ⟨m5, c1.trans (e2.trans c6), (F1.trans F2).trans G5, B5⟩
    obtain ⟨w5, c5, F5, R5⟩ := C_takeClose1 34 R4 cl.1 cl.2
    have hrun2 := C_trn1 hR3 hX3.1 (show l3 ≤ 60 by omega) hk3 ((hS3.ag F4.1).ag F5.1) (.inr ⟨y19, cR 1 w5 (by decide) c5⟩) v3
    have g5 : ∀ x, ¬ x = 63 → ∀ j, memI w5 x j = memI w4 x j := fun x hx j => (F5.2 x hx j).1
    have X5 : DkX w5 f nm := by
      have X4 : DkX w4 f nm := ⟨hX3.1.ag F4.1, hX3.2.1.ag F4.1, by rw [LandR_ag h1 (fun x _ _ j => (F4.2 x (by omega) (by omega) (by omega) (by omega) j).1)]; exact hX3.2.2.1, ⟨fun d hd => by rw [(F4.2 7 (by omega) (by omega) (by omega) (by omega) d).2]; exact hX3.2.2.2.1 d hd, fun p hp => by rw [(F4.2 13 (by omega) (by omega) (by omega) (by omega) p).2]; exact hX3.2.2.2.2 p hp⟩⟩
      exact X4.fru h1 F5
    have stl3 : ∀ i, i ≤ l3 → stepsN (fupd K' l3 19) i = stepsN K' i := fun i hi => stepsN_cg fun j hj => fupd_ne (by omega)
    have stu3 : stepsN (fupd K' l3 19) (l3 + 1) = stepsN K' l3 := by
      rw [stepsN_eq (by rw [fupd_eq]), stl3 l3 (Nat.le_refl _)]
    have Kl : K' l = (tokAt b n q).x := by rw [(ag l (by omega)).1, fupd_eq]
    have stK : ∀ i, i ≤ l → stepsN K' i = stepsN K i := fun i hi => (stepsN_cg fun j hj => (ag j (by omega)).1).trans (stl i hi)
    have M1 : ∀ i, ¬ i = l → ¬ i = l3 → fupd (fupd M' l3 l) l l3 i = M' i := fun i y1 y2 => by rw [fupd_ne y1, fupd_ne y2]
    have Ml : fupd (fupd M' l3 l) l l3 l = l3 := fupd_eq _ _ _
    have Ml3 : fupd (fupd M' l3 l) l l3 l3 = l := by rw [fupd_ne (by omega), fupd_eq]
    have nx1 : ∀ i, ¬ i = l → ¬ i = l3 → nxL (fupd K' l3 19) (fupd (fupd M' l3 l) l l3) i = nxL K' M' i := fun i y1 y2 => by
      unfold nxL
      rw [fupd_ne y2, M1 i y1 y2]
    have nxl : nxL (fupd K' l3 19) (fupd (fupd M' l3 l) l l3) l = l3 + 1 := by
      unfold nxL
      rw [fupd_ne (by omega), Kl, if_pos blk, Ml]
    have hC5 : DsC (setI w5 49 8 (nI (l3 + 1))) n b (tokAt b n (tokAt b n q3).n).n f nm (l3 + 1) (l3 + 1) dp op (fupd K' l3 19) T' W' X' G' N' (fupd (fupd M' l3 l) l l3) := by
      refine ⟨⟨_, _, _, _, R5.set3 (by omega) _ _⟩, X5.set3 h1 (by omega) _ _, (hS3.ag F4.1).ag F5.1, ?_, memI_s _ _ _ _, ?_, ?_, fun j hj => ?_, fun i hi => ?_⟩
      · rw [memI_j _ _ _ _ _ (by decide), g5 49 (by decide), u49]; exact t7
      · rw [memI_j _ _ _ _ _ (by decide), g5 49 (by decide), u49, stu3]; exact t9
      · rw [memI_a _ _ _ _ _ (by decide), g5 62 (by decide)]; exact u62
      · rw [memI_a _ _ _ _ _ (by decide), g5 66 (by decide), u66, t66 j (by omega), fupd_ne (by omega)]
      · rw [memI_a _ _ _ _ _ (by decide), memI_a _ _ _ _ _ (by decide), memI_a _ _ _ _ _ (by decide), memI_a _ _ _ _ _ (by decide), memI_a _ _ _ _ _ (by decide), memI_a _ _ _ _ _ (by decide), memI_a _ _ _ _ _ (by decide), g5 50 (by decide), g5 51 (by decide), g5 52 (by decide), g5 53 (by decide), g5 54 (by decide), g5 55 (by decide), g5 56 (by decide), u50, u56, uo 51 (by decide) (by decide), uo 52 (by decide) (by decide), uo 53 (by decide) (by decide), uo 54 (by decide) (by decide), uo 55 (by decide) (by decide)]
        by_cases y : i = l3
        · subst y
          rw [fupd_eq, Ml3, if_pos rfl, if_neg (by omega), if_pos rfl]
          exact ⟨rfl, fun y => absurd y (by decide), fun y => absurd rfl y, fun _ _ => rfl⟩
        · rw [fupd_ne y, if_neg y]
          obtain ⟨r1, r2, r3, r4⟩ := trow i (by omega)
          refine ⟨r1, r2, r3, fun z hc => ?_⟩
          by_cases y2 : i = l
          · rw [if_pos y2, y2, Ml]
          · rw [if_neg y2, if_neg y, M1 i y2 y]
            exact r4 z ((clE i).mpr ⟨hc, y2⟩)
    have hD5 : DsI (l3 + 1) dp op (fupd K' l3 19) (fupd (fupd M' l3 l) l l3) := by
      refine ⟨hd3, by rw [stu3]; omega, by rw [stu3]; exact ds', fun j hj => by have := hD.2.2.2.1 j hj; omega, fun i hi hc => ?_⟩
      by_cases y : i = l3
      · unfold nxL
        rw [y, fupd_eq, if_neg (by decide)]
        exact Nat.le_refl _
      · by_cases y2 : i = l
        · rw [y2, nxl]; exact Nat.le_refl _
        · rw [nx1 i y2 y]
          have := hD'.2.2.2.2 i (by omega) ((clE i).mpr ⟨hc, y2⟩)
          omega
    refine Sq.on (hrun.trans (c3.trans hrun2)) (((Fw3.trans G3).trans (F4.trans F5.e)).setI (by omega) _ _) (by omega) (by omega) (fun m hM => ?_) (fun i hi => ⟨by rw [fupd_ne (by omega), (ag i (by omega)).1, fupd_ne (by omega)], by rw [M1 i (by omega) (by omega)]; exact (ag i (by omega)).2⟩) (fun Ks Ms l' ha hs => ?_) (ih _ (l3 + 1) dp (kk' + 1) op _ _ _ _ _ _ _ _ _ Rl (by omega) hkk hD5 hC5 hL)
    · obtain ⟨m1, c1, F1, D1⟩ := hmx m hM
      obtain ⟨m2, e2, F2, D2⟩ := hm3 m1 D1
      obtain ⟨mE, GE, SE, c6⟩ := (M_finE (dp := dp) (kc := kc) (st := stepsN K l) (kk' + 1) hst D2.1 y19).1 cl
      obtain ⟨-, f2, f3, f4⟩ := D2
      rw [f3] at c6
      refine ⟨setI mE 185 (1588 + 9 * stepsN K l) (nI (stepsN K' l3)), hL m _ q hM.1 z1 z2 (c1.trans (e2.trans c6)), ((F1.trans F2).trans GE.p).setI (by omega) _, SE.s185 _ _, (f2.agP GE.p).agP ((FrPd.refl mE).setI (by omega) _), ?_, fun i hi hi19 => ?_⟩
      · rw [memI_a _ _ _ _ _ (by decide), GE.2.2.1 25 (by decide), f3, stu3]
      · have y : ¬ i = l3 := fun y => hi19 (by rw [y, fupd_eq])
        rw [fupd_ne y] at hi19 ⊢
        rw [stl3 i (by omega)]
        obtain ⟨y1, y2⟩ := f4 i (by omega) hi19
        refine ⟨?_, fun hc _ => ?_⟩
        · have ej : ∀ j, j < 8 → cel (setI mE 185 (1588 + 9 * stepsN K l) (nI (stepsN K' l3))) (stepsN K' i) j = cel m2 (stepsN K' i) j := fun j hj => (memI_j _ _ _ _ _ (by show 1580 + 9 * _ + min j 8 ≠ _; omega)).trans (GE.2.1 185 (by decide) _).1
          unfold LnQ at y1 ⊢
          rw [ej 0 (by decide), ej 1 (by decide), ej 2 (by decide), ej 5 (by decide), ej 6 (by decide), ej 7 (by decide)]
          exact y1
        · by_cases yl : i = l
          · rw [yl, stK l (Nat.le_refl _), memI_s, nxl, stu3]
          · have hc' := (clE i).mpr ⟨hc, yl⟩
            have sne : ¬ stepsN K' i = stepsN K l := by
              rw [← stK l (Nat.le_refl _)]
              by_cases lt : i < l
              · have u1 := stepsN_up hi19
                have u2 : stepsN K' (i + 1) ≤ stepsN K' l := stepsN_mono (by omega)
                omega
              · have u1 : stepsN K' (l + 1) = stepsN K' l + 1 := stepsN_up (by rw [Kl]; exact x19)
                have u2 : stepsN K' (l + 1) ≤ stepsN K' i := stepsN_mono (by omega)
                omega
            rw [memI_j _ _ _ _ _ (by omega), (GE.2.1 185 (by decide) _).1, nx1 i yl y, stl3 _ (hD'.2.2.2.2 i (by omega) hc')]
            exact y2 hc' y
    · have hle : l3 + 1 ≤ l' := by
        rcases hs with hs | ⟨hs, _⟩ <;> omega
      have hKl : Ks l = (tokAt b n q).x := by rw [(ha l (by omega)).1, fupd_ne (by omega), Kl]
      have hMl : Ms l = l3 := by rw [(ha l (by omega)).2, Ml]
      refine .inr ⟨by omega, .inl ⟨by rw [hKl]; exact blk, by omega, by rw [hMl]; omega, by rw [hMl]; omega, ?_, ?_, ?_, by rw [hMl]; exact hs⟩⟩
      · rw [hMl, (ha l3 (by omega)).1, fupd_eq]
      · rw [hMl, (ha l3 (by omega)).2, Ml3]
      · rw [hMl, show 3 - dp - 1 = 3 - (dp + 1) by omega]
        exact Seg.cg _ _ _ _ (fun i h1 h2 => ⟨by rw [(ha i (by omega)).1, fupd_ne (by omega)], by rw [(ha i (by omega)).2, M1 i (by omega) (by omega)]⟩) sg
end DK6
