/-! a box of the reference's burst, checked -/
set_option maxRecDepth 1000000 in
theorem zbr_1_2 : zbr zV1 1 3 2 = true := by decide +kernel
