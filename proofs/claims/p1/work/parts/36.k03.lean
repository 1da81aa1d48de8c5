/-! kinds of calls, checked -/
set_option maxRecDepth 1000000 in
theorem zk_8_15 : zkc 8 8 [(2, 2, 2), (4, 1, 1)] = true := by decide +kernel
set_option maxRecDepth 1000000 in
theorem zk_8_16 : zkc 8 8 [(2, 2, 2), (4, 2, 2)] = true := by decide +kernel
set_option maxRecDepth 1000000 in
theorem zk_8_17 : zkc 8 8 [(2, 2, 2), (4, 3, 3)] = true := by decide +kernel
set_option maxRecDepth 1000000 in
theorem zk_8_18 : zkc 8 8 [(2, 2, 2), (4, 4, 2147483647)] = true := by decide +kernel
set_option maxRecDepth 1000000 in
theorem zk_8_19 : zkc 8 8 [(2, 3, 3), (4, (-2147483648), (-1))] = true := by decide +kernel
set_option maxRecDepth 1000000 in
theorem zk_8_20 : zkc 8 8 [(2, 3, 3), (4, 0, 0)] = true := by decide +kernel
set_option maxRecDepth 1000000 in
theorem zk_8_21 : zkc 8 8 [(2, 3, 3), (4, 1, 1)] = true := by decide +kernel
set_option maxRecDepth 1000000 in
theorem zk_8_22 : zkc 8 8 [(2, 3, 3), (4, 2, 2)] = true := by decide +kernel
set_option maxRecDepth 1000000 in
theorem zk_8_23 : zkc 8 8 [(2, 3, 3), (4, 3, 3)] = true := by decide +kernel
set_option maxRecDepth 1000000 in
theorem zk_8_24 : zkc 8 8 [(2, 3, 3), (4, 4, 2147483647)] = true := by decide +kernel
set_option maxRecDepth 1000000 in
theorem zk_8_25 : zkc 8 8 [(2, 4, 2147483647)] = true := by decide +kernel
set_option maxRecDepth 1000000 in
theorem zk_9_0 : zkc 9 9 [(2, (-2147483648), (-1))] = true := by decide +kernel
set_option maxRecDepth 1000000 in
theorem zk_9_1 : zkc 9 9 [(2, 0, 0), (4, (-2147483648), (-1))] = true := by decide +kernel
set_option maxRecDepth 1000000 in
theorem zk_9_2 : zkc 9 9 [(2, 0, 0), (4, 0, 0)] = true := by decide +kernel
set_option maxRecDepth 1000000 in
theorem zk_9_3 : zkc 9 9 [(2, 0, 0), (4, 1, 1)] = true := by decide +kernel
