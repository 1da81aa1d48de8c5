/-! kinds of calls, checked -/
set_option maxRecDepth 1000000 in
theorem zk_23_19 : zkc 23 23 [(2, 3, 3), (4, (-2147483648), (-1))] = true := by decide +kernel
set_option maxRecDepth 1000000 in
theorem zk_23_20 : zkc 23 23 [(2, 3, 3), (4, 0, 0)] = true := by decide +kernel
set_option maxRecDepth 1000000 in
theorem zk_23_21 : zkc 23 23 [(2, 3, 3), (4, 1, 1)] = true := by decide +kernel
set_option maxRecDepth 1000000 in
theorem zk_23_22 : zkc 23 23 [(2, 3, 3), (4, 2, 2)] = true := by decide +kernel
set_option maxRecDepth 1000000 in
theorem zk_23_23 : zkc 23 23 [(2, 3, 3), (4, 3, 3)] = true := by decide +kernel
set_option maxRecDepth 1000000 in
theorem zk_23_24 : zkc 23 23 [(2, 3, 3), (4, 4, 2147483647)] = true := by decide +kernel
set_option maxRecDepth 1000000 in
theorem zk_23_25 : zkc 23 23 [(2, 4, 2147483647)] = true := by decide +kernel
set_option maxRecDepth 1000000 in
theorem zk_24_0 : zkc 24 24 [] = true := by decide +kernel
set_option maxRecDepth 1000000 in
theorem zk_25_0 : zkc 25 25 [] = true := by decide +kernel
set_option maxRecDepth 1000000 in
theorem zk_26_0 : zkc 26 26 [] = true := by decide +kernel
set_option maxRecDepth 1000000 in
theorem zk_27_0 : zkc 27 27 [(2, (-2147483648), (-1))] = true := by decide +kernel
set_option maxRecDepth 1000000 in
theorem zk_27_1 : zkc 27 27 [(2, 0, 0), (4, (-2147483648), (-1))] = true := by decide +kernel
set_option maxRecDepth 1000000 in
theorem zk_27_2 : zkc 27 27 [(2, 0, 0), (4, 0, 0), (5, (-2147483648), (-1))] = true := by decide +kernel
set_option maxRecDepth 1000000 in
theorem zk_27_3 : zkc 27 27 [(2, 0, 0), (4, 0, 0), (5, 0, 0)] = true := by decide +kernel
set_option maxRecDepth 1000000 in
theorem zk_27_4 : zkc 27 27 [(2, 0, 0), (4, 0, 0), (5, 1, 1)] = true := by decide +kernel
set_option maxRecDepth 1000000 in
theorem zk_27_5 : zkc 27 27 [(2, 0, 0), (4, 0, 0), (5, 2, 2)] = true := by decide +kernel
set_option maxRecDepth 1000000 in
theorem zk_27_6 : zkc 27 27 [(2, 0, 0), (4, 0, 0), (5, 3, 2147483647)] = true := by decide +kernel
set_option maxRecDepth 1000000 in
theorem zk_27_7 : zkc 27 27 [(2, 0, 0), (4, 1, 1), (5, (-2147483648), (-1))] = true := by decide +kernel
set_option maxRecDepth 1000000 in
theorem zk_27_8 : zkc 27 27 [(2, 0, 0), (4, 1, 1), (5, 0, 0)] = true := by decide +kernel
set_option maxRecDepth 1000000 in
theorem zk_27_9 : zkc 27 27 [(2, 0, 0), (4, 1, 1), (5, 1, 1)] = true := by decide +kernel
set_option maxRecDepth 1000000 in
theorem zk_27_10 : zkc 27 27 [(2, 0, 0), (4, 1, 1), (5, 2, 2)] = true := by decide +kernel
set_option maxRecDepth 1000000 in
theorem zk_27_11 : zkc 27 27 [(2, 0, 0), (4, 1, 1), (5, 3, 2147483647)] = true := by decide +kernel
set_option maxRecDepth 1000000 in
theorem zk_27_12 : zkc 27 27 [(2, 0, 0), (4, 2, 2), (5, (-2147483648), (-1))] = true := by decide +kernel
set_option maxRecDepth 1000000 in
theorem zk_27_13 : zkc 27 27 [(2, 0, 0), (4, 2, 2), (5, 0, 0)] = true := by decide +kernel
set_option maxRecDepth 1000000 in
theorem zk_27_14 : zkc 27 27 [(2, 0, 0), (4, 2, 2), (5, 1, 1)] = true := by decide +kernel
set_option maxRecDepth 1000000 in
theorem zk_27_15 : zkc 27 27 [(2, 0, 0), (4, 2, 2), (5, 2, 2)] = true := by decide +kernel
set_option maxRecDepth 1000000 in
theorem zk_27_16 : zkc 27 27 [(2, 0, 0), (4, 2, 2), (5, 3, 2147483647)] = true := by decide +kernel
set_option maxRecDepth 1000000 in
theorem zk_27_17 : zkc 27 27 [(2, 0, 0), (4, 3, 3), (5, (-2147483648), (-1))] = true := by decide +kernel
