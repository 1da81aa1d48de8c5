/-! kinds of calls, checked -/
set_option maxRecDepth 1000000 in
theorem zk_20_2 : zkc 20 20 [(2, 1, 1)] = true := by decide +kernel
set_option maxRecDepth 1000000 in
theorem zk_20_3 : zkc 20 20 [(2, 2, 2)] = true := by decide +kernel
set_option maxRecDepth 1000000 in
theorem zk_20_4 : zkc 20 20 [(2, 3, 3)] = true := by decide +kernel
set_option maxRecDepth 1000000 in
theorem zk_20_5 : zkc 20 20 [(2, 4, 2147483647)] = true := by decide +kernel
set_option maxRecDepth 1000000 in
theorem zk_21_0 : zkc 21 21 [(2, (-2147483648), (-1))] = true := by decide +kernel
set_option maxRecDepth 1000000 in
theorem zk_21_1 : zkc 21 21 [(2, 0, 0), (4, (-2147483648), (-1))] = true := by decide +kernel
set_option maxRecDepth 1000000 in
theorem zk_21_2 : zkc 21 21 [(2, 0, 0), (4, 0, 0)] = true := by decide +kernel
set_option maxRecDepth 1000000 in
theorem zk_21_3 : zkc 21 21 [(2, 0, 0), (4, 1, 1)] = true := by decide +kernel
set_option maxRecDepth 1000000 in
theorem zk_21_4 : zkc 21 21 [(2, 0, 0), (4, 2, 2)] = true := by decide +kernel
set_option maxRecDepth 1000000 in
theorem zk_21_5 : zkc 21 21 [(2, 0, 0), (4, 3, 3)] = true := by decide +kernel
set_option maxRecDepth 1000000 in
theorem zk_21_6 : zkc 21 21 [(2, 0, 0), (4, 4, 2147483647)] = true := by decide +kernel
set_option maxRecDepth 1000000 in
theorem zk_21_7 : zkc 21 21 [(2, 1, 1), (4, (-2147483648), (-1))] = true := by decide +kernel
set_option maxRecDepth 1000000 in
theorem zk_21_8 : zkc 21 21 [(2, 1, 1), (4, 0, 0)] = true := by decide +kernel
set_option maxRecDepth 1000000 in
theorem zk_21_9 : zkc 21 21 [(2, 1, 1), (4, 1, 1)] = true := by decide +kernel
set_option maxRecDepth 1000000 in
theorem zk_21_10 : zkc 21 21 [(2, 1, 1), (4, 2, 2)] = true := by decide +kernel
set_option maxRecDepth 1000000 in
theorem zk_21_11 : zkc 21 21 [(2, 1, 1), (4, 3, 3)] = true := by decide +kernel
set_option maxRecDepth 1000000 in
theorem zk_21_12 : zkc 21 21 [(2, 1, 1), (4, 4, 2147483647)] = true := by decide +kernel
set_option maxRecDepth 1000000 in
theorem zk_21_13 : zkc 21 21 [(2, 2, 2), (4, (-2147483648), (-1))] = true := by decide +kernel
set_option maxRecDepth 1000000 in
theorem zk_21_14 : zkc 21 21 [(2, 2, 2), (4, 0, 0)] = true := by decide +kernel
set_option maxRecDepth 1000000 in
theorem zk_21_15 : zkc 21 21 [(2, 2, 2), (4, 1, 1)] = true := by decide +kernel
set_option maxRecDepth 1000000 in
theorem zk_21_16 : zkc 21 21 [(2, 2, 2), (4, 2, 2)] = true := by decide +kernel
set_option maxRecDepth 1000000 in
theorem zk_21_17 : zkc 21 21 [(2, 2, 2), (4, 3, 3)] = true := by decide +kernel
set_option maxRecDepth 1000000 in
theorem zk_21_18 : zkc 21 21 [(2, 2, 2), (4, 4, 2147483647)] = true := by decide +kernel
set_option maxRecDepth 1000000 in
theorem zk_21_19 : zkc 21 21 [(2, 3, 3), (4, (-2147483648), (-1))] = true := by decide +kernel
set_option maxRecDepth 1000000 in
theorem zk_21_20 : zkc 21 21 [(2, 3, 3), (4, 0, 0)] = true := by decide +kernel
set_option maxRecDepth 1000000 in
theorem zk_21_21 : zkc 21 21 [(2, 3, 3), (4, 1, 1)] = true := by decide +kernel
set_option maxRecDepth 1000000 in
theorem zk_21_22 : zkc 21 21 [(2, 3, 3), (4, 2, 2)] = true := by decide +kernel
set_option maxRecDepth 1000000 in
theorem zk_21_23 : zkc 21 21 [(2, 3, 3), (4, 3, 3)] = true := by decide +kernel
set_option maxRecDepth 1000000 in
theorem zk_21_24 : zkc 21 21 [(2, 3, 3), (4, 4, 2147483647)] = true := by decide +kernel
set_option maxRecDepth 1000000 in
theorem zk_21_25 : zkc 21 21 [(2, 4, 2147483647)] = true := by decide +kernel
set_option maxRecDepth 1000000 in
theorem zk_22_0 : zkc 22 22 [] = true := by decide +kernel
set_option maxRecDepth 1000000 in
theorem zk_23_0 : zkc 23 23 [(2, (-2147483648), (-1))] = true := by decide +kernel
set_option maxRecDepth 1000000 in
theorem zk_23_1 : zkc 23 23 [(2, 0, 0), (4, (-2147483648), (-1))] = true := by decide +kernel
set_option maxRecDepth 1000000 in
theorem zk_23_2 : zkc 23 23 [(2, 0, 0), (4, 0, 0)] = true := by decide +kernel
set_option maxRecDepth 1000000 in
theorem zk_23_3 : zkc 23 23 [(2, 0, 0), (4, 1, 1)] = true := by decide +kernel
set_option maxRecDepth 1000000 in
theorem zk_23_4 : zkc 23 23 [(2, 0, 0), (4, 2, 2)] = true := by decide +kernel
set_option maxRecDepth 1000000 in
theorem zk_23_5 : zkc 23 23 [(2, 0, 0), (4, 3, 3)] = true := by decide +kernel
set_option maxRecDepth 1000000 in
theorem zk_23_6 : zkc 23 23 [(2, 0, 0), (4, 4, 2147483647)] = true := by decide +kernel
set_option maxRecDepth 1000000 in
theorem zk_23_7 : zkc 23 23 [(2, 1, 1), (4, (-2147483648), (-1))] = true := by decide +kernel
set_option maxRecDepth 1000000 in
theorem zk_23_8 : zkc 23 23 [(2, 1, 1), (4, 0, 0)] = true := by decide +kernel
set_option maxRecDepth 1000000 in
theorem zk_23_9 : zkc 23 23 [(2, 1, 1), (4, 1, 1)] = true := by decide +kernel
set_option maxRecDepth 1000000 in
theorem zk_23_10 : zkc 23 23 [(2, 1, 1), (4, 2, 2)] = true := by decide +kernel
set_option maxRecDepth 1000000 in
theorem zk_23_11 : zkc 23 23 [(2, 1, 1), (4, 3, 3)] = true := by decide +kernel
set_option maxRecDepth 1000000 in
theorem zk_23_12 : zkc 23 23 [(2, 1, 1), (4, 4, 2147483647)] = true := by decide +kernel
set_option maxRecDepth 1000000 in
theorem zk_23_13 : zkc 23 23 [(2, 2, 2), (4, (-2147483648), (-1))] = true := by decide +kernel
set_option maxRecDepth 1000000 in
theorem zk_23_14 : zkc 23 23 [(2, 2, 2), (4, 0, 0)] = true := by decide +kernel
set_option maxRecDepth 1000000 in
theorem zk_23_15 : zkc 23 23 [(2, 2, 2), (4, 1, 1)] = true := by decide +kernel
set_option maxRecDepth 1000000 in
theorem zk_23_16 : zkc 23 23 [(2, 2, 2), (4, 2, 2)] = true := by decide +kernel
set_option maxRecDepth 1000000 in
theorem zk_23_17 : zkc 23 23 [(2, 2, 2), (4, 3, 3)] = true := by decide +kernel
set_option maxRecDepth 1000000 in
theorem zk_23_18 : zkc 23 23 [(2, 2, 2), (4, 4, 2147483647)] = true := by decide +kernel
