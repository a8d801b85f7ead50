/-- what is called is a contract -/
theorem call_met (l : Launch) (G : zG) {d z : Nat} {as : List Value} {m m1 : zMem} {r : Option Value} (hz : zMth z) (hcat : (as.map fun v => v.category).sum ≤ zML z) (h : call d z as m = some (r, m1)) :
    Met l (zNm z) (zWs z) { frames := d, cells := memN m1 - memN m, slots := memS m1 - memS m, locals := 40 * d } (zPc G as m) (zQc G r m1) (memN m1 - memN m) (memS m1 - memS m) (fun q => G.1 ≤ q) := by
  obtain ⟨n, hn⟩ := run_iff.mp h
  exact zMet (zRun_ok l G n) hz hcat hn
