/-! kinds of calls, checked -/
set_option maxRecDepth 1000000 in
theorem zk_31_1 : zkc 31 31 [(3, 0, 0)] = true := by decide +kernel
