/-! kinds of calls, checked -/
set_option maxRecDepth 1000000 in
theorem zk_14_0 : zkc 14 14 [] = true := by decide +kernel
set_option maxRecDepth 1000000 in
theorem zk_15_0 : zkc 15 15 [] = true := by decide +kernel
set_option maxRecDepth 1000000 in
theorem zk_16_0 : zkc 16 16 [] = true := by decide +kernel
set_option maxRecDepth 1000000 in
theorem zk_17_0 : zkc 17 17 [(2, (-2147483648), (-1))] = true := by decide +kernel
set_option maxRecDepth 1000000 in
theorem zk_17_1 : zkc 17 17 [(2, 0, 0)] = true := by decide +kernel
set_option maxRecDepth 1000000 in
theorem zk_17_2 : zkc 17 17 [(2, 1, 1)] = true := by decide +kernel
set_option maxRecDepth 1000000 in
theorem zk_17_3 : zkc 17 17 [(2, 2, 2)] = true := by decide +kernel
set_option maxRecDepth 1000000 in
theorem zk_17_4 : zkc 17 17 [(2, 3, 2147483647)] = true := by decide +kernel
set_option maxRecDepth 1000000 in
theorem zk_18_0 : zkc 18 18 [(2, (-2147483648), (-1))] = true := by decide +kernel
set_option maxRecDepth 1000000 in
theorem zk_18_1 : zkc 18 18 [(2, 0, 0)] = true := by decide +kernel
set_option maxRecDepth 1000000 in
theorem zk_18_2 : zkc 18 18 [(2, 1, 1)] = true := by decide +kernel
set_option maxRecDepth 1000000 in
theorem zk_18_3 : zkc 18 18 [(2, 2, 2)] = true := by decide +kernel
set_option maxRecDepth 1000000 in
theorem zk_18_4 : zkc 18 18 [(2, 3, 3)] = true := by decide +kernel
set_option maxRecDepth 1000000 in
theorem zk_18_5 : zkc 18 18 [(2, 4, 2147483647)] = true := by decide +kernel
set_option maxRecDepth 1000000 in
theorem zk_19_0 : zkc 19 19 [] = true := by decide +kernel
set_option maxRecDepth 1000000 in
theorem zk_20_0 : zkc 20 20 [(2, (-2147483648), (-1))] = true := by decide +kernel
set_option maxRecDepth 1000000 in
theorem zk_20_1 : zkc 20 20 [(2, 0, 0)] = true := by decide +kernel
