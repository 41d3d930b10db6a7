/-! the reference's fields: the heaviest of these checks -/
set_option maxRecDepth 100000 in
theorem ve_ckc_b : ve_ckc 9 = true := by decide +kernel
