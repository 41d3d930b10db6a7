/-! A help of the walks: the places of a row of rules -/
theorem vx_fz24 {k : Nat} (h : k < 31) : vx_fz 24 k = true := by
  have e : Nat.blt k 31 = true := Nat.ble_eq_true_of_le h
  unfold vx_fz
  rw [e]
  rfl
