/-! kinds of calls, checked -/
set_option maxRecDepth 1000000 in
theorem zk_6_14 : zkc 6 6 [(2, 2, 2), (4, 0, 0)] = true := by decide +kernel
set_option maxRecDepth 1000000 in
theorem zk_6_15 : zkc 6 6 [(2, 2, 2), (4, 1, 1)] = true := by decide +kernel
set_option maxRecDepth 1000000 in
theorem zk_6_16 : zkc 6 6 [(2, 2, 2), (4, 2, 2)] = true := by decide +kernel
set_option maxRecDepth 1000000 in
theorem zk_6_17 : zkc 6 6 [(2, 2, 2), (4, 3, 3)] = true := by decide +kernel
set_option maxRecDepth 1000000 in
theorem zk_6_18 : zkc 6 6 [(2, 2, 2), (4, 4, 2147483647)] = true := by decide +kernel
set_option maxRecDepth 1000000 in
theorem zk_6_19 : zkc 6 6 [(2, 3, 3), (4, (-2147483648), (-1))] = true := by decide +kernel
set_option maxRecDepth 1000000 in
theorem zk_6_20 : zkc 6 6 [(2, 3, 3), (4, 0, 0)] = true := by decide +kernel
set_option maxRecDepth 1000000 in
theorem zk_6_21 : zkc 6 6 [(2, 3, 3), (4, 1, 1)] = true := by decide +kernel
set_option maxRecDepth 1000000 in
theorem zk_6_22 : zkc 6 6 [(2, 3, 3), (4, 2, 2)] = true := by decide +kernel
set_option maxRecDepth 1000000 in
theorem zk_6_23 : zkc 6 6 [(2, 3, 3), (4, 3, 3)] = true := by decide +kernel
set_option maxRecDepth 1000000 in
theorem zk_6_24 : zkc 6 6 [(2, 3, 3), (4, 4, 2147483647)] = true := by decide +kernel
set_option maxRecDepth 1000000 in
theorem zk_6_25 : zkc 6 6 [(2, 4, 2147483647)] = true := by decide +kernel
set_option maxRecDepth 1000000 in
theorem zk_7_0 : zkc 7 7 [(2, (-2147483648), (-1))] = true := by decide +kernel
set_option maxRecDepth 1000000 in
theorem zk_7_1 : zkc 7 7 [(2, 0, 0)] = true := by decide +kernel
set_option maxRecDepth 1000000 in
theorem zk_7_2 : zkc 7 7 [(2, 1, 1)] = true := by decide +kernel
set_option maxRecDepth 1000000 in
theorem zk_7_3 : zkc 7 7 [(2, 2, 2)] = true := by decide +kernel
set_option maxRecDepth 1000000 in
theorem zk_7_4 : zkc 7 7 [(2, 3, 3)] = true := by decide +kernel
set_option maxRecDepth 1000000 in
theorem zk_7_5 : zkc 7 7 [(2, 4, 4)] = true := by decide +kernel
set_option maxRecDepth 1000000 in
theorem zk_7_6 : zkc 7 7 [(2, 5, 5)] = true := by decide +kernel
set_option maxRecDepth 1000000 in
theorem zk_7_7 : zkc 7 7 [(2, 6, 6)] = true := by decide +kernel
set_option maxRecDepth 1000000 in
theorem zk_7_8 : zkc 7 7 [(2, 7, 2147483647)] = true := by decide +kernel
set_option maxRecDepth 1000000 in
theorem zk_8_0 : zkc 8 8 [(2, (-2147483648), (-1))] = true := by decide +kernel
set_option maxRecDepth 1000000 in
theorem zk_8_1 : zkc 8 8 [(2, 0, 0), (4, (-2147483648), (-1))] = true := by decide +kernel
