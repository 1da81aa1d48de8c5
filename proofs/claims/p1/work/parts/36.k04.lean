/-! kinds of calls, checked -/
set_option maxRecDepth 1000000 in
theorem zk_9_4 : zkc 9 9 [(2, 0, 0), (4, 2, 2)] = true := by decide +kernel
set_option maxRecDepth 1000000 in
theorem zk_9_5 : zkc 9 9 [(2, 0, 0), (4, 3, 3)] = true := by decide +kernel
set_option maxRecDepth 1000000 in
theorem zk_9_6 : zkc 9 9 [(2, 0, 0), (4, 4, 2147483647)] = true := by decide +kernel
set_option maxRecDepth 1000000 in
theorem zk_9_7 : zkc 9 9 [(2, 1, 1), (4, (-2147483648), (-1))] = true := by decide +kernel
set_option maxRecDepth 1000000 in
theorem zk_9_8 : zkc 9 9 [(2, 1, 1), (4, 0, 0)] = true := by decide +kernel
set_option maxRecDepth 1000000 in
theorem zk_9_9 : zkc 9 9 [(2, 1, 1), (4, 1, 1)] = true := by decide +kernel
set_option maxRecDepth 1000000 in
theorem zk_9_10 : zkc 9 9 [(2, 1, 1), (4, 2, 2)] = true := by decide +kernel
set_option maxRecDepth 1000000 in
theorem zk_9_11 : zkc 9 9 [(2, 1, 1), (4, 3, 3)] = true := by decide +kernel
set_option maxRecDepth 1000000 in
theorem zk_9_12 : zkc 9 9 [(2, 1, 1), (4, 4, 2147483647)] = true := by decide +kernel
set_option maxRecDepth 1000000 in
theorem zk_9_13 : zkc 9 9 [(2, 2, 2), (4, (-2147483648), (-1))] = true := by decide +kernel
set_option maxRecDepth 1000000 in
theorem zk_9_14 : zkc 9 9 [(2, 2, 2), (4, 0, 0)] = true := by decide +kernel
set_option maxRecDepth 1000000 in
theorem zk_9_15 : zkc 9 9 [(2, 2, 2), (4, 1, 1)] = true := by decide +kernel
