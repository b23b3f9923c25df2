theorem nw_K2 {M M1 : Mem} {a kd n : Nat} (ea : a = mT M) (e1 : M1 = nw M kd n) : mK M1 a = kd := by
  rw [e1, ea]; exact nw_K
theorem mna_K2 {M M1 : Mem} {a : Nat} (ea : a = mT M) (e1 : M1 = mna M) : mK M1 a = 25 := by
  rw [e1, ea]; exact mna_K
