/-! kinds of calls, checked -/
set_option maxRecDepth 1000000 in
theorem zk_12_13 : zkc 12 12 [(2, 0, 3), (3, 1, 3), (4, 1, 1)] = true := by decide +kernel
