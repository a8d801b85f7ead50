/-! THE PURE PART. Texts: tokens -/
def runF (P : Nat → Bool) (n : Nat) : Nat → Nat → Nat
  | 0, p => p
  | k + 1, p => if p < n ∧ P p = true then runF P n k (p + 1) else p
theorem runF_chain {β : Type} (R : Nat → β) {P : Nat → Bool} {n lo : Nat} (h : ∀ i, lo ≤ i → i < n → (∀ j, lo ≤ j → j ≤ i → P j = true) → R i = R (i + 1)) : ∀ k p, lo ≤ p → (∀ j, lo ≤ j → j < p → P j = true) → R p = R (runF P n k p)
  | 0, p, _, _ => rfl
  | k + 1, p, hl, hp => by
    unfold runF
    by_cases c : p < n ∧ P p = true
    · rw [if_pos c]
      have h2 : ∀ j, lo ≤ j → j ≤ p → P j = true := fun j h1 h2 => by
        by_cases e : j = p
        · rw [e]; exact c.2
        · exact hp j h1 (by omega)
      exact (h p hl c.1 h2).trans (runF_chain R h k (p + 1) (by omega) (fun j h1 h3 => h2 j h1 (by omega)))
    · rw [if_neg c]
theorem runF_spec {P : Nat → Bool} {n : Nat} : ∀ k p, n ≤ p + k → p ≤ n → p ≤ runF P n k p ∧ runF P n k p ≤ n ∧ (runF P n k p < n → P (runF P n k p) = false) ∧ ∀ j, p ≤ j → j < runF P n k p → P j = true
  | 0, p, h1, h2 => ⟨Nat.le_refl _, h2, fun q => by unfold runF at q; omega, fun j h3 h4 => by unfold runF at h4; omega⟩
  | k + 1, p, h1, h2 => by
    unfold runF
    by_cases c : p < n ∧ P p = true
    · rw [if_pos c]
      obtain ⟨a1, a2, a3, a4⟩ := runF_spec (P := P) (n := n) k (p + 1) (by omega) (by omega)
      refine ⟨by omega, a2, a3, fun j h3 h4 => ?_⟩
      by_cases e : j = p
      · rw [e]; exact c.2
      · exact a4 j (by omega) h4
    · rw [if_neg c]
      refine ⟨Nat.le_refl _, h2, fun q => ?_, fun j h3 h4 => by omega⟩
      cases hq : P p with
      | true => exact absurd ⟨q, hq⟩ c
      | false => rfl
def ranP (P : Nat → Bool) (n p : Nat) : Nat := runF P n n p
theorem ranP_spec (P : Nat → Bool) {n p : Nat} (h : p ≤ n) : p ≤ ranP P n p ∧ ranP P n p ≤ n ∧ (ranP P n p < n → P (ranP P n p) = false) ∧ ∀ j, p ≤ j → j < ranP P n p → P j = true := runF_spec n p (by omega) h
theorem ranP_chain {β : Type} (R : Nat → β) {P : Nat → Bool} {n p : Nat} (h : ∀ i, p ≤ i → i < n → (∀ j, p ≤ j → j ≤ i → P j = true) → R i = R (i + 1)) : R p = R (ranP P n p) := runF_chain R h n p (Nat.le_refl _) (fun j h1 h2 => by omega)
theorem ranP_gt {P : Nat → Bool} {n p : Nat} (h : p < n) (hp : P p = true) : p < ranP P n p := by
  obtain ⟨a1, a2, a3, a4⟩ := ranP_spec P (Nat.le_of_lt h)
  by_cases e : ranP P n p = p
  · rw [e] at a3
    have := a3 h
    rw [hp] at this
    exact absurd this (by decide)
  · omega
def isWs (c : Nat) : Bool := decide (c = 10 ∨ c = 32)
def isLt (c : Nat) : Bool := decide (97 ≤ c ∧ c ≤ 122)
def isDg (c : Nat) : Bool := decide (48 ≤ c ∧ c ≤ 57)
def isSg (c : Nat) : Bool := decide (c = 59 ∨ c = 60 ∨ c = 62 ∨ c = 61)
def F27 (l : List Nat) : Nat := l.foldl (fun s c => 27 * s + c) 0
def F32 (l : List Nat) : Nat := l.foldl (fun s c => 32 * s + c) 0
def lets (b : Nat → Nat) (s : Nat) : Nat → List Nat
  | 0 => []
  | k + 1 => lets b s k ++ [b (s + k) - 96]
def numF (b : Nat → Nat) (s : Nat) : Nat → Nat
  | 0 => 0
  | k + 1 => 10 * numF b s k + (b (s + k) - 48)
def ltrs (l : List Nat) : Prop := ∀ c ∈ l, 1 ≤ c ∧ c ≤ 26
theorem F27_snoc (l : List Nat) (c : Nat) : F27 (l ++ [c]) = 27 * F27 l + c := by
  unfold F27
  rw [List.foldl_append]
  rfl
theorem F27_inj : ∀ (k : Nat) (l l' : List Nat), l.length ≤ k → ltrs l → ltrs l' → F27 l = F27 l' → l = l'
  | 0, l, l', h, _, h2, e => by
    have hl : l = [] := List.eq_nil_of_length_eq_zero (Nat.le_zero.mp h)
    subst hl
    rcases List.eq_nil_or_concat l' with rfl | ⟨q, c, rfl⟩
    · rfl
    · rw [List.concat_eq_append] at h2 e
      have := (h2 c (List.mem_append_right _ (List.mem_singleton.mpr rfl))).1
      rw [F27_snoc] at e
      have e0 : F27 [] = 0 := rfl
      omega
  | k + 1, l, l', h, h1, h2, e => by
    rcases List.eq_nil_or_concat l' with rfl | ⟨q, c, rfl⟩
    · rcases List.eq_nil_or_concat l with rfl | ⟨q, c, rfl⟩
      · rfl
      · rw [List.concat_eq_append] at h1 e
        have := (h1 c (List.mem_append_right _ (List.mem_singleton.mpr rfl))).1
        rw [F27_snoc] at e
        have e0 : F27 [] = 0 := rfl
        omega
    · rw [List.concat_eq_append] at h2 e ⊢
      have hc := h2 c (List.mem_append_right _ (List.mem_singleton.mpr rfl))
      rcases List.eq_nil_or_concat l with rfl | ⟨r, d, rfl⟩
      · rw [F27_snoc] at e
        have e0 : F27 [] = 0 := rfl
        omega
      · rw [List.concat_eq_append] at h1 e h ⊢
        have hd := h1 d (List.mem_append_right _ (List.mem_singleton.mpr rfl))
        rw [F27_snoc, F27_snoc] at e
        rw [List.length_append] at h
        have e1 : [d].length = 1 := rfl
        rw [F27_inj k r q (by omega) (fun x hx => h1 x (List.mem_append_left _ hx)) (fun x hx => h2 x (List.mem_append_left _ hx)) (by omega), show d = c by omega]
theorem F27_lt : ∀ (k : Nat) (l : List Nat), l.length ≤ k → ltrs l → F27 l < 27 ^ k
  | 0, l, h, _ => by
    have hl : l = [] := List.eq_nil_of_length_eq_zero (Nat.le_zero.mp h)
    subst hl
    exact Nat.one_pos
  | k + 1, l, h, h1 => by
    rcases List.eq_nil_or_concat l with rfl | ⟨r, d, rfl⟩
    · exact Nat.pow_pos (by decide)
    · rw [List.concat_eq_append] at h1 h ⊢
      have hd := h1 d (List.mem_append_right _ (List.mem_singleton.mpr rfl))
      rw [List.length_append] at h
      have e1 : [d].length = 1 := rfl
      have q := F27_lt k r (by omega) (fun x hx => h1 x (List.mem_append_left _ hx))
      rw [F27_snoc, Nat.pow_succ]
      omega
theorem F27_8 {l : List Nat} (h : l.length ≤ 8) (h1 : ltrs l) : F27 l < 282429536481 := F27_lt 8 l h h1
theorem F32_snoc (l : List Nat) (c : Nat) : F32 (l ++ [c]) = 32 * F32 l + c := by
  unfold F32
  rw [List.foldl_append]
  rfl
theorem F32_inj : ∀ (k : Nat) (l l' : List Nat), l.length ≤ k → ltrs l → ltrs l' → F32 l = F32 l' → l = l'
  | 0, l, l', h, _, h2, e => by
    have hl : l = [] := List.eq_nil_of_length_eq_zero (Nat.le_zero.mp h)
    subst hl
    rcases List.eq_nil_or_concat l' with rfl | ⟨q, c, rfl⟩
    · rfl
    · rw [List.concat_eq_append] at h2 e
      have := (h2 c (List.mem_append_right _ (List.mem_singleton.mpr rfl))).1
      rw [F32_snoc] at e
      have e0 : F32 [] = 0 := rfl
      omega
  | k + 1, l, l', h, h1, h2, e => by
    rcases List.eq_nil_or_concat l' with rfl | ⟨q, c, rfl⟩
    · rcases List.eq_nil_or_concat l with rfl | ⟨q, c, rfl⟩
      · rfl
      · rw [List.concat_eq_append] at h1 e
        have := (h1 c (List.mem_append_right _ (List.mem_singleton.mpr rfl))).1
        rw [F32_snoc] at e
        have e0 : F32 [] = 0 := rfl
        omega
    · rw [List.concat_eq_append] at h2 e ⊢
      have hc := h2 c (List.mem_append_right _ (List.mem_singleton.mpr rfl))
      rcases List.eq_nil_or_concat l with rfl | ⟨r, d, rfl⟩
      · rw [F32_snoc] at e
        have e0 : F32 [] = 0 := rfl
        omega
      · rw [List.concat_eq_append] at h1 e h ⊢
        have hd := h1 d (List.mem_append_right _ (List.mem_singleton.mpr rfl))
        rw [F32_snoc, F32_snoc] at e
        rw [List.length_append] at h
        have e1 : [d].length = 1 := rfl
        rw [F32_inj k r q (by omega) (fun x hx => h1 x (List.mem_append_left _ hx)) (fun x hx => h2 x (List.mem_append_left _ hx)) (by omega), show d = c by omega]
theorem F32_lt : ∀ (k : Nat) (l : List Nat), l.length ≤ k → ltrs l → F32 l < 32 ^ k
  | 0, l, h, _ => by
    have hl : l = [] := List.eq_nil_of_length_eq_zero (Nat.le_zero.mp h)
    subst hl
    exact Nat.one_pos
  | k + 1, l, h, h1 => by
    rcases List.eq_nil_or_concat l with rfl | ⟨r, d, rfl⟩
    · exact Nat.pow_pos (by decide)
    · rw [List.concat_eq_append] at h1 h ⊢
      have hd := h1 d (List.mem_append_right _ (List.mem_singleton.mpr rfl))
      rw [List.length_append] at h
      have e1 : [d].length = 1 := rfl
      have q := F32_lt k r (by omega) (fun x hx => h1 x (List.mem_append_left _ hx))
      rw [F32_snoc, Nat.pow_succ]
      omega
theorem F32_8 {l : List Nat} (h : l.length ≤ 8) (h1 : ltrs l) : F32 l < 1099511627776 := F32_lt 8 l h h1
theorem F27_pos {l : List Nat} (h : 1 ≤ l.length) (h1 : ltrs l) : 1 ≤ F27 l := by
  rcases List.eq_nil_or_concat l with rfl | ⟨r, d, rfl⟩
  · exact absurd h (by decide)
  · rw [List.concat_eq_append] at h1 ⊢
    have hd := h1 d (List.mem_append_right _ (List.mem_singleton.mpr rfl))
    rw [F27_snoc]
    omega
theorem lets_len (b : Nat → Nat) (s : Nat) : ∀ k, (lets b s k).length = k
  | 0 => rfl
  | k + 1 => by
    show (lets b s k ++ [b (s + k) - 96]).length = k + 1
    rw [List.length_append, lets_len b s k]
    rfl
theorem lets_ltrs {b : Nat → Nat} {s : Nat} : ∀ k, (∀ j, j < k → isLt (b (s + j)) = true) → ltrs (lets b s k)
  | 0, _ => fun c hc => absurd hc List.not_mem_nil
  | k + 1, h => fun c hc => by
    rcases List.mem_append.mp hc with q | q
    · exact lets_ltrs k (fun j hj => h j (by omega)) c q
    · have e := List.mem_singleton.mp q
      have g := of_decide_eq_true (h k (by omega))
      omega
theorem numF_le {b : Nat → Nat} {s : Nat} : ∀ k, (∀ j, j < k → isDg (b (s + j)) = true) → numF b s k + 1 ≤ 10 ^ k
  | 0, _ => Nat.le_refl 1
  | k + 1, h => by
    have g := of_decide_eq_true (h k (by omega))
    have q := numF_le k (fun j hj => h j (by omega))
    show 10 * numF b s k + (b (s + k) - 48) + 1 ≤ 10 ^ (k + 1)
    rw [Nat.pow_succ]
    omega
/-- a token: kind (0 end, 1 word, 2 number, 3 sign, 4 none), start, what is behind it, letters, value -/
abbrev TkD : Type := Nat × Nat × Nat × List Nat × Nat
abbrev TkD.k (x : TkD) : Nat := x.1
abbrev TkD.s (x : TkD) : Nat := x.2.1
abbrev TkD.n (x : TkD) : Nat := x.2.2.1
abbrev TkD.w (x : TkD) : List Nat := x.2.2.2.1
abbrev TkD.v (x : TkD) : Nat := x.2.2.2.2
def tokS (b : Nat → Nat) (n s : Nat) : TkD :=
  if n ≤ s then (0, s, s, [], 0)
  else if isLt (b s) = true then (1, s, ranP (fun j => isLt (b j)) n s, lets b s (ranP (fun j => isLt (b j)) n s - s), 0)
  else if isDg (b s) = true then (if 4 < ranP (fun j => isDg (b j)) n s - s then 4 else 2, s, ranP (fun j => isDg (b j)) n s, [], numF b s (min (ranP (fun j => isDg (b j)) n s - s) 4))
  else if isSg (b s) = true then (3, s, s + 1, [], b s)
  else (4, s, s, [], 0)
def tokAt (b : Nat → Nat) (n p : Nat) : TkD := tokS b n (ranP (fun j => isWs (b j)) n p)
/-- what a token is like -/
def TkI (n p : Nat) (t : TkD) : Prop := p ≤ t.s ∧ t.s ≤ n ∧ t.s ≤ t.n ∧ t.n ≤ n ∧ t.k ≤ 4 ∧ (t.k = 1 ∨ t.k = 2 ∨ t.k = 3 → t.s < t.n) ∧ (t.k = 0 → t.s = n) ∧ ltrs t.w ∧ (t.k = 1 → 1 ≤ t.w.length ∧ t.w.length ≤ n) ∧ t.v ≤ 9999 ∧ (t.k = 3 → t.v = 59 ∨ t.v = 60 ∨ t.v = 61 ∨ t.v = 62)
theorem TkI.of {n p k s e v : Nat} {w : List Nat} (h1 : p ≤ s) (h2 : s ≤ n) (h3 : s ≤ e) (h4 : e ≤ n) (h5 : k ≤ 4) (h6 : k = 1 ∨ k = 2 ∨ k = 3 → s < e) (h7 : k = 0 → s = n) (h8 : ltrs w) (h9 : k = 1 → 1 ≤ w.length ∧ w.length ≤ n) (h10 : v ≤ 9999) (h11 : k = 3 → v = 59 ∨ v = 60 ∨ v = 61 ∨ v = 62) : TkI n p (k, s, e, w, v) := ⟨h1, h2, h3, h4, h5, h6, h7, h8, h9, h10, h11⟩
theorem tokS_spec {b : Nat → Nat} {n p s : Nat} (hp : p ≤ s) (hs : s ≤ n) : TkI n p (tokS b n s) := by
  unfold tokS
  by_cases c0 : n ≤ s
  · rw [if_pos c0]
    exact TkI.of hp hs (Nat.le_refl _) hs (by decide) (fun q => by omega) (fun _ => by omega) (fun c hc => absurd hc List.not_mem_nil) (fun q => absurd q (by decide)) (by decide) (fun q => absurd q (by decide))
  rw [if_neg c0]
  by_cases c1 : isLt (b s) = true
  · rw [if_pos c1]
    obtain ⟨a1, a2, a3, a4⟩ := ranP_spec (fun j => isLt (b j)) hs
    have a5 := ranP_gt (P := fun j => isLt (b j)) (show s < n by omega) c1
    generalize ranP (fun j => isLt (b j)) n s = e at a1 a2 a3 a4 a5
    refine TkI.of hp hs a1 a2 (by decide) (fun _ => a5) (fun q => absurd q (by decide)) (lets_ltrs _ (fun j hj => a4 (s + j) (by omega) (by omega))) (fun _ => ?_) (by decide) (fun q => absurd q (by decide))
    rw [lets_len]
    omega
  rw [if_neg c1]
  by_cases c2 : isDg (b s) = true
  · rw [if_pos c2]
    obtain ⟨a1, a2, a3, a4⟩ := ranP_spec (fun j => isDg (b j)) hs
    have a5 := ranP_gt (P := fun j => isDg (b j)) (show s < n by omega) c2
    generalize ranP (fun j => isDg (b j)) n s = e at a1 a2 a3 a4 a5
    have hv := numF_le (b := b) (s := s) (min (e - s) 4) (fun j hj => a4 (s + j) (by omega) (by omega))
    have h4 : 10 ^ min (e - s) 4 ≤ 10 ^ 4 := Nat.pow_le_pow_right (by decide) (Nat.min_le_right _ _)
    refine TkI.of hp hs a1 a2 ?_ (fun _ => a5) (fun q => ?_) (fun c hc => absurd hc List.not_mem_nil) (fun q => ?_) ?_ (fun q => ?_)
    · split <;> decide
    · split at q <;> omega
    · split at q <;> omega
    · omega
    · split at q <;> omega
  rw [if_neg c2]
  by_cases c3 : isSg (b s) = true
  · rw [if_pos c3]
    have g := of_decide_eq_true c3
    exact TkI.of hp hs (Nat.le_succ _) (by omega) (by decide) (fun _ => Nat.lt_succ_self _) (fun q => absurd q (by decide)) (fun c hc => absurd hc List.not_mem_nil) (fun q => absurd q (by decide)) (by omega) (fun _ => by omega)
  rw [if_neg c3]
  exact TkI.of hp hs (Nat.le_refl _) hs (by decide) (fun q => by omega) (fun q => absurd q (by decide)) (fun c hc => absurd hc List.not_mem_nil) (fun q => absurd q (by decide)) (by decide) (fun q => absurd q (by decide))
theorem tokAt_spec (b : Nat → Nat) {n p : Nat} (hp : p ≤ n) : TkI n p (tokAt b n p) := by
  obtain ⟨a1, a2, _⟩ := ranP_spec (fun j => isWs (b j)) hp
  exact tokS_spec a1 a2
/-- the words that are kept -/
def kwL : List (List Nat) := [[15, 4, 4, 19], [1, 12, 12, 15, 23], [4, 5, 5, 4], [18, 1, 20, 5], [8, 1, 18, 4], [3, 15, 19, 20], [16, 1, 25, 5, 18], [8, 15, 21, 19, 5], [16, 21, 18, 19, 5], [23, 1, 7, 5], [14, 5, 1, 18], [4, 15, 14, 5], [19, 20, 5, 16], [19, 8, 18, 9, 14, 11], [25, 5, 1, 18], [1, 14, 25], [23, 8, 5, 14], [15, 23, 5, 19], [12, 15, 15, 16], [5, 14, 4], [19, 20, 15, 16]]
def kwF (l : List Nat) (j : Nat) : Bool := decide (¬ kwL.getD j [] = l)
def wix (l : List Nat) : Nat := ranP (kwF l) 21 0
theorem kw_ltrs : ∀ j, j < 21 → ∀ c ∈ kwL.getD j [], 1 ≤ c ∧ c ≤ 26 := by decide
theorem kw_len : ∀ j, j < 21 → 3 ≤ (kwL.getD j []).length ∧ (kwL.getD j []).length ≤ 6 := by decide
theorem kw_27 : ∀ j, j < 21 → zCodes.getD j 0 = F27 (kwL.getD j []) := by decide
theorem kw_ne : ∀ i, i < 21 → ∀ j, j < i → ¬ kwL.getD j [] = kwL.getD i [] := by decide
theorem wix_le (l : List Nat) : wix l ≤ 21 := (ranP_spec (kwF l) (Nat.zero_le 21)).2.1
theorem wix_eq {l : List Nat} (h : wix l < 21) : kwL.getD (wix l) [] = l := by
  have q := (ranP_spec (kwF l) (Nat.zero_le 21)).2.2.1 h
  have q2 : decide (¬ kwL.getD (wix l) [] = l) = false := q
  exact Decidable.not_not.mp (of_decide_eq_false q2)
theorem wix_kw {j : Nat} (hj : j < 21) : wix (kwL.getD j []) = j := by
  have h := wix_eq (l := kwL.getD j [])
  have hw := (ranP_spec (kwF (kwL.getD j [])) (Nat.zero_le 21)).2.2.2
  have hle := wix_le (kwL.getD j [])
  by_cases e : wix (kwL.getD j []) = j
  · exact e
  · by_cases e2 : wix (kwL.getD j []) < j
    · exact absurd (h (by omega)) (kw_ne j hj _ e2)
    · have q : decide (¬ kwL.getD j [] = kwL.getD j []) = true := hw j (Nat.zero_le _) (show j < wix (kwL.getD j []) by omega)
      exact absurd rfl (of_decide_eq_true q)
theorem wix_iff {l : List Nat} {j : Nat} (hj : j < 21) : wix l = j ↔ l = kwL.getD j [] := ⟨fun h => by
  have q := wix_eq (l := l) (by omega)
  rw [h] at q
  exact q.symm, fun h => by rw [h]; exact wix_kw hj⟩
theorem wix_long {l : List Nat} (h : 8 < l.length) : wix l = 21 := by
  have hle := wix_le l
  by_cases e : wix l < 21
  · have q := wix_eq e
    have g := (kw_len _ e).2
    rw [q] at g
    omega
  · omega
theorem wix_27 {l : List Nat} (h1 : ltrs l) {j : Nat} (hj : j < 21) : (zCodes.getD j 0 = F27 l) ↔ wix l = j := by
  rw [kw_27 j hj, wix_iff hj]
  exact ⟨fun h => (F27_inj _ _ _ (Nat.le_refl _) (kw_ltrs j hj) h1 h).symm, fun h => by rw [h]⟩
theorem wix_32 {l : List Nat} (h1 : ltrs l) {j : Nat} (hj : j < 21) : (F32 l = F32 (kwL.getD j [])) ↔ wix l = j := by
  rw [wix_iff hj]
  exact ⟨fun h => (F32_inj _ _ _ (Nat.le_refl _) h1 (kw_ltrs j hj) h), fun h => by rw [h]⟩
/-- which word a token is: 21 if none that is kept -/
def TkD.x (t : TkD) : Nat := if t.k = 1 then wix t.w else 21
/-- whether it is a name -/
def TkD.nm (t : TkD) : Bool := decide (t.k = 1 ∧ t.w.length ≤ 8 ∧ wix t.w = 21)
theorem TkD.x_le (t : TkD) : t.x ≤ 21 := by
  unfold TkD.x
  by_cases e : t.k = 1
  · rw [if_pos e]; exact wix_le _
  · rw [if_neg e]; exact Nat.le_refl _
theorem TkD.x_word {t : TkD} (h : t.x < 21) : t.k = 1 := by
  unfold TkD.x at h
  by_cases e : t.k = 1
  · exact e
  · rw [if_neg e] at h; omega
theorem TkD.nm_x {t : TkD} (h : t.nm = true) : t.k = 1 ∧ t.w.length ≤ 8 ∧ t.x = 21 := by
  have g := of_decide_eq_true h
  exact ⟨g.1, g.2.1, by unfold TkD.x; rw [if_pos g.1]; exact g.2.2⟩
