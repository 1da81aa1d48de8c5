/-! kinds of calls, checked -/
set_option maxRecDepth 1000000 in
theorem zk_12_10 : zkc 12 12 [(2, 0, 3), (3, 1, 3), (4, (-2147483648), (-1))] = true := by decide +kernel
set_option maxRecDepth 1000000 in
theorem zk_12_11 : zkc 12 12 [(2, 0, 3), (3, 1, 3), (4, 4, 2147483647)] = true := by decide +kernel
