theorem nz_e {y : Int64} (h : (!decide (y = 0)) = true) : ¬ y = 0 := by
  simpa using h
theorem ne_i {x c : Int32} (h : ¬ x = c) {n : Int} (hc : c.toInt = n) : ¬ x.toInt = n := fun q => h (Int32.toInt_inj.mp (q.trans hc.symm))
