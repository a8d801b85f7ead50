/-! WHAT A RUN COMES TO: new cells, constructors -/
section RNC
variable {d y pc k : Nat} {lv : zLV} {st : List Value} {m : zMem}
theorem rn_new {ix c : Nat} (hi : zIns y pc = some (.new ix, k)) (hn : zNew.lookup (zMc y, ix) = some c) (hc : c < 13) : run d y pc lv st m = run d y (pc + 3) lv (.ref (memN m) :: st) (mkCell m (100 + c) (zN c)) := run_step hi rfl rfl (by dsimp only [zStep]; rw [hn]; dsimp only; rw [if_pos hc])
theorem rn_newarr {t : Jvm.ClassFile.ArrayType} {n : Int32} (hi : zIns y pc = some (.newarray t, k)) (h : zATag t ≠ 0 ∧ ¬ n < 0 ∧ n.toNatClampNeg ≤ 100000) : run d y pc lv (.int n :: st) m = run d y (pc + 2) lv (.ref (memN m) :: st) (mkCell m (zATag t) n.toNatClampNeg) := run_step hi rfl rfl (by dsimp only [zStep]; rw [if_pos h])
theorem rn_anew {ix c : Nat} {n : Int32} (hi : zIns y pc = some (.anewarray ix, k)) (hn : zNew.lookup (zMc y, ix) = some c) (h : (c = 10 ∨ c = 3) ∧ ¬ n < 0 ∧ n.toNatClampNeg ≤ 100000) : run d y pc lv (.int n :: st) m = run d y (pc + 3) lv (.ref (memN m) :: st) (mkCell m (if c = 10 then 5 else 6) n.toNatClampNeg) := run_step hi rfl rfl (by dsimp only [zStep]; rw [hn]; dsimp only; rw [if_pos h])
theorem rn_multi {ix : Nat} {a b : Int32} (hi : zIns y pc = some (.multianewarray ix 2, k)) (h : (2 : Nat) = 2 ∧ zNew.lookup (zMc y, ix) = some 99 ∧ ¬ a < 0 ∧ ¬ b < 0 ∧ a.toNatClampNeg ≤ 1000 ∧ b.toNatClampNeg ≤ 1000) : run d y pc lv (.int b :: .int a :: st) m = run d y (pc + 4) lv (.ref (memN m) :: st) (mkGrid m a.toNatClampNeg b.toNatClampNeg) := run_step hi rfl rfl (by dsimp only [zStep]; rw [if_pos h])
theorem rn_super {ix a : Nat} (hi : zIns y pc = some (.invokespecial ix, k)) (hc : zCal.lookup (zMc y, ix) = some (4, 0)) (h8 : (st.map fun v => v.category).sum ≤ 8) : run (d + 1) y pc lv (.ref a :: st) m = run (d + 1) y (pc + 3) lv st m := run_step hi rfl (by dsimp only [zCall]; rw [hc]; rfl) (by dsimp only [zStep]; rw [if_pos ⟨hc, Nat.le_add_left 1 d, h8⟩])
theorem rn_ctor {kd ix z a : Nat} (hi : zIns y pc = some (.invokespecial ix, k)) (hc : zCal.lookup (zMc y, ix) = some (kd, z)) (hk : kd = 2 ∨ kd = 8) (hn : zNp z = 0) (h8 : (st.map fun v => v.category).sum ≤ 8) (hm : 1 ≤ zML z) (h : (memK m a).1 = 100 + zMc z) : run (d + 1) y pc lv (.ref a :: st) m = (call d z [.ref a] m).bind (fun x => run (d + 1) y (pc + 3) lv (x.1.toList ++ st) x.2) := by
  refine run_call hi rfl ?_
  dsimp only [zCall]
  rw [hc]
  dsimp only
  rw [hn, if_pos ⟨hk, Nat.zero_le _⟩]
  exact if_pos ⟨h, h8, hm⟩
theorem rn_aastore {a b : Nat} {j : Int32} (hi : zIns y pc = some (.aastore, k)) (h : (((memK m a).1 = 5 ∧ (memK m b).1 = 110) ∨ ((memK m a).1 = 6 ∧ (memK m b).1 = 103)) ∧ inB j (memK m a).2 = true) : run d y pc lv (.ref b :: .int j :: .ref a :: st) m = run d y (pc + 1) lv st (setR m a j.toNatClampNeg (some b)) := run_step hi rfl rfl (if_pos h)
end RNC
