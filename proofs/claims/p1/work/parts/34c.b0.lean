/-! a box of the reference's burst, checked -/
set_option maxRecDepth 1000000 in
theorem zbr_0_0 : zbr zV0 0 0 0 = true := by decide +kernel
