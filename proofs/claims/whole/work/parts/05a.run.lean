/-! WHAT A RUN COMES TO: run and call, without a count of steps; their equations -/
theorem zRun_up : ∀ (n d y pc : Nat) (lv : zLV) (st : List Value) (m : zMem) (x : Option Value × zMem), zRun n d y pc lv st m = some x → zRun (n + 1) d y pc lv st m = some x
  | 0, _, _, _, _, _, _, _, h => by cases h
  | n + 1, d, y, pc, lv, st, m, x, h => by
    rw [zRun] at h ⊢
    cases hi : zIns y pc with
    | none => simp only [hi] at h; cases h
    | some q =>
      obtain ⟨i, ln⟩ := q
      simp only [hi] at h ⊢
      cases hf : zFin y i st with
      | some r => simp only [hf] at h ⊢; exact h
      | none =>
        simp only [hf] at h ⊢
        cases hc : zCall y i st m with
        | some q =>
          obtain ⟨z, as, rest⟩ := q
          simp only [hc] at h ⊢
          cases d with
          | zero => cases h
          | succ d' =>
            dsimp only at h ⊢
            cases hr : zRun n d' z 0 (lvE (zML z) as) [] m with
            | none => simp only [hr] at h; cases h
            | some q =>
              obtain ⟨r1, m1⟩ := q
              rw [zRun_up n d' z 0 (lvE (zML z) as) [] m (r1, m1) hr]
              simp only [hr] at h
              exact zRun_up n _ y (pc + 3) lv (r1.toList ++ rest) m1 x h
        | none =>
          simp only [hc] at h ⊢
          cases hs : zStep d y pc i lv st m with
          | none => simp only [hs] at h; cases h
          | some q =>
            obtain ⟨pc', lv', st', m'⟩ := q
            simp only [hs] at h ⊢
            exact zRun_up n d y pc' lv' st' m' x h
theorem zRun_ge {n k d y pc : Nat} {lv : zLV} {st : List Value} {m : zMem} {x : Option Value × zMem} (h : zRun n d y pc lv st m = some x) (hk : n ≤ k) : zRun k d y pc lv st m = some x := by
  induction hk with
  | refl => exact h
  | step _ ih => exact zRun_up _ _ _ _ _ _ _ _ ih
noncomputable def run (d y pc : Nat) (lv : zLV) (st : List Value) (m : zMem) : Option (Option Value × zMem) :=
  @dite _ (∃ (x : Option Value × zMem) (n : Nat), zRun n d y pc lv st m = some x) (Classical.propDecidable _) (fun h => some h.choose) (fun _ => none)
theorem run_iff {d y pc : Nat} {lv : zLV} {st : List Value} {m : zMem} {x : Option Value × zMem} : run d y pc lv st m = some x ↔ ∃ n, zRun n d y pc lv st m = some x := by
  unfold run
  by_cases h : ∃ (x : Option Value × zMem) (n : Nat), zRun n d y pc lv st m = some x
  · rw [dif_pos h]
    obtain ⟨n, hn⟩ := h.choose_spec
    constructor
    · intro e
      cases e
      exact ⟨n, hn⟩
    · intro ⟨k, hk⟩
      have h1 := zRun_ge hn (Nat.le_max_left n k)
      have h2 := zRun_ge hk (Nat.le_max_right n k)
      rw [h1] at h2
      exact h2
  · rw [dif_neg h]
    constructor
    · intro e
      cases e
    · intro ⟨k, hk⟩
      exact absurd ⟨x, k, hk⟩ h
noncomputable def call (d z : Nat) (as : List Value) (m : zMem) : Option (Option Value × zMem) := run d z 0 (lvE (zML z) as) [] m
theorem opt_ext {α : Type} {a b : Option α} (h : ∀ x, a = some x ↔ b = some x) : a = b := by
  cases a with
  | none =>
    cases b with
    | none => rfl
    | some y => exact absurd ((h y).mpr rfl) (by intro q; cases q)
  | some y => exact ((h y).mp rfl).symm
theorem run_step {d y pc k : Nat} {i : Instr} {lv : zLV} {st : List Value} {m : zMem} {pc' : Nat} {lv' : zLV} {st' : List Value} {m' : zMem} (hi : zIns y pc = some (i, k)) (hf : zFin y i st = none) (hc : zCall y i st m = none) (hs : zStep d y pc i lv st m = some (pc', lv', st', m')) : run d y pc lv st m = run d y pc' lv' st' m' := by
  apply opt_ext
  intro x
  rw [run_iff, run_iff]
  constructor
  · intro ⟨n, hn⟩
    cases n with
    | zero => cases hn
    | succ n =>
      rw [zRun] at hn
      simp only [hi, hf, hc, hs] at hn
      exact ⟨n, hn⟩
  · intro ⟨n, hn⟩
    refine ⟨n + 1, ?_⟩
    rw [zRun]
    simp only [hi, hf, hc, hs]
    exact hn
theorem run_stuck {d y pc k : Nat} {i : Instr} {lv : zLV} {st : List Value} {m : zMem} (hi : zIns y pc = some (i, k)) (hf : zFin y i st = none) (hc : zCall y i st m = none) (hs : zStep d y pc i lv st m = none) : run d y pc lv st m = none := by
  apply opt_ext
  intro x
  rw [run_iff]
  constructor
  · intro ⟨n, hn⟩
    cases n with
    | zero => cases hn
    | succ n =>
      rw [zRun] at hn
      simp only [hi, hf, hc, hs] at hn
      cases hn
  · intro e
    cases e
theorem run_ret {d y pc k : Nat} {i : Instr} {lv : zLV} {st : List Value} {m : zMem} {r : Option Value} (hi : zIns y pc = some (i, k)) (hf : zFin y i st = some r) : run d y pc lv st m = some (r, m) := by
  rw [run_iff]
  refine ⟨1, ?_⟩
  rw [zRun]
  simp only [hi, hf]
theorem run_call {d y pc k z : Nat} {i : Instr} {lv : zLV} {st as rest : List Value} {m : zMem} (hi : zIns y pc = some (i, k)) (hf : zFin y i st = none) (hc : zCall y i st m = some (z, as, rest)) : run (d + 1) y pc lv st m = (call d z as m).bind (fun x => run (d + 1) y (pc + 3) lv (x.1.toList ++ rest) x.2) := by
  apply opt_ext
  intro x
  rw [run_iff, Option.bind_eq_some_iff]
  constructor
  · intro ⟨n, hn⟩
    cases n with
    | zero => cases hn
    | succ n =>
      rw [zRun] at hn
      simp only [hi, hf, hc] at hn
      cases hr : zRun n d z 0 (lvE (zML z) as) [] m with
      | none => simp only [hr] at hn; cases hn
      | some q =>
        simp only [hr] at hn
        exact ⟨q, run_iff.mpr ⟨n, hr⟩, run_iff.mpr ⟨n, hn⟩⟩
  · intro ⟨q, h1, h2⟩
    obtain ⟨a, ha⟩ := run_iff.mp h1
    obtain ⟨b, hb⟩ := run_iff.mp h2
    refine ⟨max a b + 1, ?_⟩
    rw [zRun]
    simp only [hi, hf, hc, zRun_ge ha (Nat.le_max_left a b)]
    exact zRun_ge hb (Nat.le_max_right a b)
