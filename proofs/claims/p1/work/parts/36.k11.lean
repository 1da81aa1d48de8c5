/-! kinds of calls, checked -/
set_option maxRecDepth 1000000 in
theorem zk_12_12 : zkc 12 12 [(2, 0, 3), (3, 1, 3), (4, 0, 0)] = true := by decide +kernel
