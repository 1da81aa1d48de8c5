/-! kinds of calls, checked -/
set_option maxRecDepth 1000000 in
theorem zk_12_9 : zkc 12 12 [(2, 0, 3), (3, 0, 0), (4, 3, 3)] = true := by decide +kernel
