/-! kinds of calls, checked -/
set_option maxRecDepth 1000000 in
theorem zk_9_16 : zkc 9 9 [(2, 2, 2), (4, 2, 2)] = true := by decide +kernel
set_option maxRecDepth 1000000 in
theorem zk_9_17 : zkc 9 9 [(2, 2, 2), (4, 3, 3)] = true := by decide +kernel
set_option maxRecDepth 1000000 in
theorem zk_9_18 : zkc 9 9 [(2, 2, 2), (4, 4, 2147483647)] = true := by decide +kernel
set_option maxRecDepth 1000000 in
theorem zk_9_19 : zkc 9 9 [(2, 3, 3), (4, (-2147483648), (-1))] = true := by decide +kernel
set_option maxRecDepth 1000000 in
theorem zk_9_20 : zkc 9 9 [(2, 3, 3), (4, 0, 0)] = true := by decide +kernel
set_option maxRecDepth 1000000 in
theorem zk_9_21 : zkc 9 9 [(2, 3, 3), (4, 1, 1)] = true := by decide +kernel
set_option maxRecDepth 1000000 in
theorem zk_9_22 : zkc 9 9 [(2, 3, 3), (4, 2, 2)] = true := by decide +kernel
set_option maxRecDepth 1000000 in
theorem zk_9_23 : zkc 9 9 [(2, 3, 3), (4, 3, 3)] = true := by decide +kernel
set_option maxRecDepth 1000000 in
theorem zk_9_24 : zkc 9 9 [(2, 3, 3), (4, 4, 2147483647)] = true := by decide +kernel
set_option maxRecDepth 1000000 in
theorem zk_9_25 : zkc 9 9 [(2, 4, 2147483647)] = true := by decide +kernel
set_option maxRecDepth 1000000 in
theorem zk_10_0 : zkc 10 10 [(2, (-2147483648), (-1))] = true := by decide +kernel
set_option maxRecDepth 1000000 in
theorem zk_10_1 : zkc 10 10 [(2, 0, 0)] = true := by decide +kernel
set_option maxRecDepth 1000000 in
theorem zk_10_2 : zkc 10 10 [(2, 1, 1)] = true := by decide +kernel
set_option maxRecDepth 1000000 in
theorem zk_10_3 : zkc 10 10 [(2, 2, 2)] = true := by decide +kernel
set_option maxRecDepth 1000000 in
theorem zk_10_4 : zkc 10 10 [(2, 3, 3)] = true := by decide +kernel
set_option maxRecDepth 1000000 in
theorem zk_10_5 : zkc 10 10 [(2, 4, 2147483647)] = true := by decide +kernel
set_option maxRecDepth 1000000 in
theorem zk_11_0 : zkc 11 11 [(2, (-2147483648), (-1))] = true := by decide +kernel
set_option maxRecDepth 1000000 in
theorem zk_11_1 : zkc 11 11 [(2, 0, 0)] = true := by decide +kernel
set_option maxRecDepth 1000000 in
theorem zk_11_2 : zkc 11 11 [(2, 1, 1)] = true := by decide +kernel
set_option maxRecDepth 1000000 in
theorem zk_11_3 : zkc 11 11 [(2, 2, 2)] = true := by decide +kernel
set_option maxRecDepth 1000000 in
theorem zk_11_4 : zkc 11 11 [(2, 3, 3)] = true := by decide +kernel
set_option maxRecDepth 1000000 in
theorem zk_11_5 : zkc 11 11 [(2, 4, 2147483647)] = true := by decide +kernel
set_option maxRecDepth 1000000 in
theorem zk_13_0 : zkc 13 13 [] = true := by decide +kernel
