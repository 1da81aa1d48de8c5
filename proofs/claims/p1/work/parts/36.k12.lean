/-! kinds of calls, checked -/
set_option maxRecDepth 1000000 in
theorem zk_27_80 : zkc 27 27 [(2, 3, 3), (4, 2, 2), (5, 1, 1)] = true := by decide +kernel
set_option maxRecDepth 1000000 in
theorem zk_27_81 : zkc 27 27 [(2, 3, 3), (4, 2, 2), (5, 2, 2)] = true := by decide +kernel
set_option maxRecDepth 1000000 in
theorem zk_27_82 : zkc 27 27 [(2, 3, 3), (4, 2, 2), (5, 3, 2147483647)] = true := by decide +kernel
set_option maxRecDepth 1000000 in
theorem zk_27_83 : zkc 27 27 [(2, 3, 3), (4, 3, 3), (5, (-2147483648), (-1))] = true := by decide +kernel
set_option maxRecDepth 1000000 in
theorem zk_27_84 : zkc 27 27 [(2, 3, 3), (4, 3, 3), (5, 0, 0)] = true := by decide +kernel
set_option maxRecDepth 1000000 in
theorem zk_27_85 : zkc 27 27 [(2, 3, 3), (4, 3, 3), (5, 1, 1)] = true := by decide +kernel
set_option maxRecDepth 1000000 in
theorem zk_27_86 : zkc 27 27 [(2, 3, 3), (4, 3, 3), (5, 2, 2)] = true := by decide +kernel
set_option maxRecDepth 1000000 in
theorem zk_27_87 : zkc 27 27 [(2, 3, 3), (4, 3, 3), (5, 3, 2147483647)] = true := by decide +kernel
set_option maxRecDepth 1000000 in
theorem zk_27_88 : zkc 27 27 [(2, 3, 3), (4, 4, 2147483647)] = true := by decide +kernel
set_option maxRecDepth 1000000 in
theorem zk_27_89 : zkc 27 27 [(2, 4, 2147483647)] = true := by decide +kernel
set_option maxRecDepth 1000000 in
theorem zk_28_0 : zkc 28 28 [] = true := by decide +kernel
set_option maxRecDepth 1000000 in
theorem zk_29_0 : zkc 29 29 [(2, (-2147483648), 0)] = true := by decide +kernel
set_option maxRecDepth 1000000 in
theorem zk_29_1 : zkc 29 29 [(2, 1, 1000), (3, (-2147483648), (-1))] = true := by decide +kernel
set_option maxRecDepth 1000000 in
theorem zk_29_2 : zkc 29 29 [(2, 1, 1000), (3, 0, 0)] = true := by decide +kernel
set_option maxRecDepth 1000000 in
theorem zk_29_3 : zkc 29 29 [(2, 1, 1000), (3, 1, 1)] = true := by decide +kernel
set_option maxRecDepth 1000000 in
theorem zk_29_4 : zkc 29 29 [(2, 1, 1000), (3, 2, 2147483647)] = true := by decide +kernel
set_option maxRecDepth 1000000 in
theorem zk_29_5 : zkc 29 29 [(2, 1001, 2147483647)] = true := by decide +kernel
set_option maxRecDepth 1000000 in
theorem zk_30_0 : zkc 30 30 [] = true := by decide +kernel
set_option maxRecDepth 1000000 in
theorem zk_31_0 : zkc 31 31 [(3, (-2147483648), (-1))] = true := by decide +kernel
