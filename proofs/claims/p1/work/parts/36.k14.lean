/-! kinds of calls, checked -/
set_option maxRecDepth 1000000 in
theorem zk_31_2 : zkc 31 31 [(3, 1, 1)] = true := by decide +kernel
set_option maxRecDepth 1000000 in
theorem zk_31_3 : zkc 31 31 [(3, 2, 2147483647)] = true := by decide +kernel
set_option maxRecDepth 1000000 in
theorem zk_32_0 : zkc 32 32 [] = true := by decide +kernel
set_option maxRecDepth 1000000 in
theorem zk_33_0 : zkc 33 33 [] = true := by decide +kernel
set_option maxRecDepth 1000000 in
theorem zk_34_0 : zkc 34 34 [(2, (-2147483648), (-1))] = true := by decide +kernel
set_option maxRecDepth 1000000 in
theorem zk_34_1 : zkc 34 34 [(2, 0, 0)] = true := by decide +kernel
set_option maxRecDepth 1000000 in
theorem zk_34_2 : zkc 34 34 [(2, 1, 1)] = true := by decide +kernel
set_option maxRecDepth 1000000 in
theorem zk_34_3 : zkc 34 34 [(2, 2, 2)] = true := by decide +kernel
set_option maxRecDepth 1000000 in
theorem zk_34_4 : zkc 34 34 [(2, 3, 3)] = true := by decide +kernel
set_option maxRecDepth 1000000 in
theorem zk_34_5 : zkc 34 34 [(2, 4, 2147483647)] = true := by decide +kernel
