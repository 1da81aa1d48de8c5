/-! kinds of calls, checked -/
set_option maxRecDepth 1000000 in
theorem zk_0_0 : zkc 0 0 [] = true := by decide +kernel
set_option maxRecDepth 1000000 in
theorem zk_1_0 : zkc 1 1 [] = true := by decide +kernel
set_option maxRecDepth 1000000 in
theorem zk_2_0 : zkc 2 2 [] = true := by decide +kernel
set_option maxRecDepth 1000000 in
theorem zk_3_0 : zkc 3 3 [] = true := by decide +kernel
set_option maxRecDepth 1000000 in
theorem zk_4_0 : zkc 4 4 [] = true := by decide +kernel
set_option maxRecDepth 1000000 in
theorem zk_5_0 : zkc 5 5 [] = true := by decide +kernel
set_option maxRecDepth 1000000 in
theorem zk_6_0 : zkc 6 6 [(2, (-2147483648), (-1))] = true := by decide +kernel
set_option maxRecDepth 1000000 in
theorem zk_6_1 : zkc 6 6 [(2, 0, 0), (4, (-2147483648), (-1))] = true := by decide +kernel
set_option maxRecDepth 1000000 in
theorem zk_6_2 : zkc 6 6 [(2, 0, 0), (4, 0, 0)] = true := by decide +kernel
set_option maxRecDepth 1000000 in
theorem zk_6_3 : zkc 6 6 [(2, 0, 0), (4, 1, 1)] = true := by decide +kernel
set_option maxRecDepth 1000000 in
theorem zk_6_4 : zkc 6 6 [(2, 0, 0), (4, 2, 2)] = true := by decide +kernel
set_option maxRecDepth 1000000 in
theorem zk_6_5 : zkc 6 6 [(2, 0, 0), (4, 3, 3)] = true := by decide +kernel
set_option maxRecDepth 1000000 in
theorem zk_6_6 : zkc 6 6 [(2, 0, 0), (4, 4, 2147483647)] = true := by decide +kernel
set_option maxRecDepth 1000000 in
theorem zk_6_7 : zkc 6 6 [(2, 1, 1), (4, (-2147483648), (-1))] = true := by decide +kernel
set_option maxRecDepth 1000000 in
theorem zk_6_8 : zkc 6 6 [(2, 1, 1), (4, 0, 0)] = true := by decide +kernel
set_option maxRecDepth 1000000 in
theorem zk_6_9 : zkc 6 6 [(2, 1, 1), (4, 1, 1)] = true := by decide +kernel
set_option maxRecDepth 1000000 in
theorem zk_6_10 : zkc 6 6 [(2, 1, 1), (4, 2, 2)] = true := by decide +kernel
set_option maxRecDepth 1000000 in
theorem zk_6_11 : zkc 6 6 [(2, 1, 1), (4, 3, 3)] = true := by decide +kernel
set_option maxRecDepth 1000000 in
theorem zk_6_12 : zkc 6 6 [(2, 1, 1), (4, 4, 2147483647)] = true := by decide +kernel
set_option maxRecDepth 1000000 in
theorem zk_6_13 : zkc 6 6 [(2, 2, 2), (4, (-2147483648), (-1))] = true := by decide +kernel
