/-! THE PURE PART. Lives: what a script does -/
/-- a life under way: its numbers, its steps, whether it is over, whether steps were left -/
abbrev XSt : Type := LSt × Nat × Bool × Nat
abbrev XSt.s (x : XSt) : LSt := x.1
abbrev XSt.st (x : XSt) : Nat := x.2.1
abbrev XSt.ov (x : XSt) : Bool := x.2.2.1
abbrev XSt.lf (x : XSt) : Nat := x.2.2.2
def repX (F : XSt → XSt) : Nat → XSt → XSt
  | 0, x => x
  | n + 1, x => if x.ov = true then x else repX F n (F x)
def upX (x : XSt) : XSt := ⟨x.s, x.st + 1, x.ov, x.lf⟩
def oneX (K T W X G N M : Nat → Nat) (E : Nat → Nat → XSt → XSt) (l : Nat) (x : XSt) : XSt :=
  if x.st = 300 then ⟨x.s, x.st, true, 1⟩
  else if K l = 20 then ⟨x.s, x.st + 1, true, x.lf⟩
  else if K l = 16 then (if holdB T W X G N l x.s.1 = true then E (l + 1) (M l) (upX x) else upX x)
  else if K l = 18 then repX (E (l + 1) (M l)) (N l) (upX x)
  else ⟨misF (effL K W X N l x.s), x.st + 1, x.ov, x.lf⟩
def exS (K T W X G N M : Nat → Nat) : Nat → Nat → Nat → XSt → XSt
  | 0, _, _, x => x
  | k + 1, l, e, x => if e ≤ l ∨ x.ov = true then x else exS K T W X G N M k (nxL K M l) e (oneX K T W X G N M (exS K T W X G N M k) l x)
section LF6
variable {K T W X G N M : Nat → Nat}
theorem exS_ov (k l e : Nat) {x : XSt} (h : x.ov = true) : exS K T W X G N M k l e x = x := by
  cases k with
  | zero => rfl
  | succ k => exact if_pos (.inr h)
theorem exS_end (k : Nat) {l e : Nat} (x : XSt) (h : e ≤ l) : exS K T W X G N M k l e x = x := by
  cases k with
  | zero => rfl
  | succ k => exact if_pos (.inl h)
theorem exS_go (k : Nat) {l e : Nat} {x : XSt} (h : l < e) (h2 : ¬ x.ov = true) : exS K T W X G N M (k + 1) l e x = exS K T W X G N M k (nxL K M l) e (oneX K T W X G N M (exS K T W X G N M k) l x) := if_neg (by rintro (q | q); exact absurd q (by omega); exact h2 q)
theorem repX_ov (F : XSt → XSt) (n : Nat) {x : XSt} (h : x.ov = true) : repX F n x = x := by
  cases n with
  | zero => rfl
  | succ n => exact if_pos h
theorem repX_go (F : XSt → XSt) (n : Nat) {x : XSt} (h : ¬ x.ov = true) : repX F (n + 1) x = repX F n (F x) := if_neg h
theorem repX_ind {P : XSt → Prop} {F : XSt → XSt} (hF : ∀ x, P x → P (F x)) : ∀ (n : Nat) (x : XSt), P x → P (repX F n x)
  | 0, _, h => h
  | n + 1, x, h => by
    unfold repX
    by_cases e : x.ov = true
    · rw [if_pos e]; exact h
    · rw [if_neg e]; exact repX_ind hF n _ (hF x h)
theorem stepsN_up {l : Nat} (h : ¬ K l = 19) : stepsN K (l + 1) = stepsN K l + 1 := by
  show stepsN K l + (if K l = 19 then 0 else 1) = _
  rw [if_neg h]
theorem stepsN_eq {l : Nat} (h : K l = 19) : stepsN K (l + 1) = stepsN K l := by
  show stepsN K l + (if K l = 19 then 0 else 1) = _
  rw [if_pos h]
  rfl
theorem stepsN_mono {l e : Nat} (h : l ≤ e) : stepsN K l ≤ stepsN K e := by
  induction h with
  | refl => exact Nat.le_refl _
  | step _ ih => exact Nat.le_trans ih (Nat.le_add_right _ _)
/-- a segment that isn't at its end -/
theorem Seg.cut {k d l e : Nat} (h : Seg K M (k + 1) d l e) (hl : ¬ l = e) : l < e ∧ ¬ K l = 19 ∧ nxL K M l ≤ e ∧ l < nxL K M l ∧ Seg K M k d (nxL K M l) e ∧ (K l = 16 ∨ K l = 18 → 1 ≤ d ∧ l < M l ∧ M l < e ∧ K (M l) = 19 ∧ M (M l) = l ∧ Seg K M k (d - 1) (l + 1) (M l)) := by
  rcases h with h | ⟨h, ⟨q, q1, q2, q3, q4, q5, q6, q7⟩ | ⟨q1, q2, q3, q4⟩⟩
  · exact absurd h hl
  · have e1 : nxL K M l = M l + 1 := if_pos q
    rw [e1]
    exact ⟨h, by omega, by omega, by omega, q7, fun _ => ⟨q1, q2, q3, q4, q5, q6⟩⟩
  · have e1 : nxL K M l = l + 1 := if_neg (by omega)
    rw [e1]
    exact ⟨h, q3, by omega, by omega, q4, fun q => by omega⟩
/-- what is kept -/
def XI (f0 f1 P : Nat) (x : XSt) : Prop := InvS x.s ∧ x.s.1 0 = f0 ∧ x.s.1 1 = f1 ∧ x.st ≤ 300 ∧ sumN (fun p => x.s.1 (44 + p)) f1 = P + x.s.2.2.2.2.2
theorem eStep_pd {s : LSt} {p d : Nat} (h1 : s.1 1 ≤ 6) (hp : p < s.1 1) : sumN (fun i => (eStep s p d).1.1 (44 + i)) (s.1 1) = sumN (fun i => s.1 (44 + i)) (s.1 1) ∧ (eStep s p d).1.2.2.2.2.2 = s.2.2.2.2.2 := by
  unfold eStep
  by_cases e : canB s.1 p d = true
  · rw [if_pos e]
    exact ⟨sumN_congr fun i hi => stF_o (by omega) (by omega), rfl⟩
  · rw [if_neg e]
    exact ⟨rfl, rfl⟩
theorem eShr_pd {s : LSt} {p d : Nat} (h1 : s.1 1 ≤ 6) : sumN (fun i => (eShr s p d).1.1 (44 + i)) (s.1 1) = sumN (fun i => s.1 (44 + i)) (s.1 1) ∧ (eShr s p d).1.2.2.2.2.2 = s.2.2.2.2.2 := by
  unfold eShr
  by_cases e : nearB s.1 p d = true
  · rw [if_pos e]
    exact ⟨sumN_congr fun i hi => fupd_ne (by omega), rfl⟩
  · rw [if_neg e]
    exact ⟨rfl, rfl⟩
theorem effL_pd {l P : Nat} {s : LSt} (hI : InvS s) (hB : LnB (s.1 0) (s.1 1) K W X N l) (h : sumN (fun p => s.1 (44 + p)) (s.1 1) = P + s.2.2.2.2.2) : sumN (fun p => (misF (effL K W X N l s)).1 (44 + p)) (s.1 1) = P + (misF (effL K W X N l s)).2.2.2.2.2 := by
  have h1 := hI.1.n1
  have h0 := hI.1.n0
  show sumN (fun p => (effL K W X N l s).1.1 (44 + p)) (s.1 1) = P + (effL K W X N l s).1.2.2.2.2.2
  unfold effL
  rcases hB with ⟨e, b1, b2⟩ | ⟨e, b1, b2⟩ | ⟨e, b1⟩ | ⟨e, b1, b2⟩ | e
  · rw [if_pos e]
    have q := eStep_pd (d := X l) h1 b1
    rw [q.1, q.2]; exact h
  · rw [if_neg (by omega), if_pos e]
    have q := eShr_pd (p := W l) (d := X l) h1
    rw [q.1, q.2]; exact h
  · rw [if_neg (by omega), if_neg (by omega), if_pos e]
    unfold eYr
    by_cases e2 : s.1 4 + N l ≤ 9999
    · rw [if_pos e2]
      have q := yearG_sum (f := s.1) h1 (N l) (s.1 1) (Nat.le_refl _)
      show sumN (fun p => yearG s.1 (fun _ => N l) (N l) (44 + p)) (s.1 1) = P + (s.2.2.2.2.2 + sumN (fun p => (yP s.1 p (N l)).2) (s.1 1))
      rw [q, h]
      omega
    · rw [if_neg e2]; exact h
  · rw [if_neg (by omega), if_neg (by omega), if_neg (by omega), if_pos e]
    unfold eRt
    by_cases e2 : s.1 (5 + X l) = N l
    · rw [if_pos e2]; exact h
    · rw [if_neg e2]
      exact (sumN_congr fun i hi => fupd_ne (by omega)).trans h
  · rw [if_neg (by omega), if_neg (by omega), if_neg (by omega), if_neg (by omega)]
    unfold eAny
    by_cases e2 : s.1 1 = 0 ∨ s.1 0 = 0
    · rw [if_pos e2]; exact h
    · rw [if_neg e2]
      have m1 := Nat.mod_lt (dnx s.2.1 / 8) (show 0 < s.1 1 by omega)
      by_cases e3 : dnx (dnx (dnx s.2.1)) / 8 % 16 < s.1 2
      · rw [if_pos e3]
        have q := eStep_pd (s := (s.1, dnx (dnx (dnx s.2.1)), s.2.2)) (d := dnx (dnx s.2.1) / 8 % s.1 0) h1 m1
        exact (q.1.trans h).trans (congrArg (P + ·) q.2.symm)
      · rw [if_neg e3]
        have q := eShr_pd (s := (s.1, dnx (dnx (dnx s.2.1)), s.2.2)) (p := dnx s.2.1 / 8 % s.1 1) (d := dnx (dnx s.2.1) / 8 % s.1 0) h1
        exact (q.1.trans h).trans (congrArg (P + ·) q.2.symm)
theorem effL_mi {l : Nat} {s : LSt} : (effL K W X N l s).1.2.2.1 = s.2.2.1 := by
  unfold effL eAny eStep eShr eYr eRt
  repeat' split
  all_goals rfl
theorem XI.up {f0 f1 P : Nat} {x : XSt} (h : XI f0 f1 P x) (h3 : ¬ x.st = 300) : XI f0 f1 P (upX x) := ⟨h.1, h.2.1, h.2.2.1, by have := h.2.2.2.1; show x.st + 1 ≤ 300; omega, h.2.2.2.2⟩
theorem XI.eff {f0 f1 P l : Nat} {x : XSt} (h : XI f0 f1 P x) (h3 : ¬ x.st = 300) (hB : LnB f0 f1 K W X N l) : XI f0 f1 P ⟨misF (effL K W X N l x.s), x.st + 1, x.ov, x.lf⟩ := by
  obtain ⟨h1, e0, e1, h4, h5⟩ := h
  subst e0
  subst e1
  have q := effL_inv h1 hB
  exact ⟨q.1, q.2.1, q.2.2, by show x.st + 1 ≤ 300; omega, effL_pd h1 hB h5⟩
/-- the lines of a script are in their bounds -/
def LnsB (f0 f1 n : Nat) (K W X N : Nat → Nat) : Prop := ∀ l, l < n → ¬ K l = 16 → ¬ K l = 18 → ¬ K l = 19 → ¬ K l = 20 → LnB f0 f1 K W X N l
theorem oneX_inv {f0 f1 P n l : Nat} {E : Nat → Nat → XSt → XSt} {x : XSt} (hB : LnsB f0 f1 n K W X N) (h : XI f0 f1 P x) (hl : l < n) (h19 : ¬ K l = 19) (hE : K l = 16 ∨ K l = 18 → ∀ x, XI f0 f1 P x → XI f0 f1 P (E (l + 1) (M l) x)) : XI f0 f1 P (oneX K T W X G N M E l x) := by
  unfold oneX
  by_cases e1 : x.st = 300
  · rw [if_pos e1]
    exact ⟨h.1, h.2.1, h.2.2.1, h.2.2.2.1, h.2.2.2.2⟩
  rw [if_neg e1]
  by_cases e2 : K l = 20
  · rw [if_pos e2]
    exact ⟨h.1, h.2.1, h.2.2.1, (h.up e1).2.2.2.1, h.2.2.2.2⟩
  rw [if_neg e2]
  by_cases e3 : K l = 16
  · rw [if_pos e3]
    by_cases e4 : holdB T W X G N l x.s.1 = true
    · rw [if_pos e4]; exact hE (.inl e3) _ (h.up e1)
    · rw [if_neg e4]; exact h.up e1
  rw [if_neg e3]
  by_cases e4 : K l = 18
  · rw [if_pos e4]
    exact repX_ind (hE (.inr e4)) _ _ (h.up e1)
  rw [if_neg e4]
  exact h.eff e1 (hB l hl e3 e4 h19 e2)
theorem exS_inv {f0 f1 P n : Nat} (hB : LnsB f0 f1 n K W X N) : ∀ (k d l e : Nat) (x : XSt), Seg K M k d l e → e ≤ n → XI f0 f1 P x → XI f0 f1 P (exS K T W X G N M k l e x)
  | 0, _, _, _, _, _, _, h => h
  | k + 1, d, l, e, x, hs, he, h => by
    by_cases q : l = e
    · rw [exS_end _ _ (by omega)]; exact h
    by_cases q2 : x.ov = true
    · rw [exS_ov _ _ _ q2]; exact h
    obtain ⟨c1, c2, c3, c4, c5, c6⟩ := hs.cut q
    rw [exS_go k c1 q2]
    exact exS_inv hB k d _ e _ c5 he (oneX_inv hB h (by omega) c2 (fun q x hx => exS_inv hB k (d - 1) (l + 1) (M l) x (c6 q).2.2.2.2.2 (by have := (c6 q).2.2.1; omega) hx))
end LF6
