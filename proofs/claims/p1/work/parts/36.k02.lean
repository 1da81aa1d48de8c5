/-! kinds of calls, checked -/
set_option maxRecDepth 1000000 in
theorem zk_8_2 : zkc 8 8 [(2, 0, 0), (4, 0, 0)] = true := by decide +kernel
set_option maxRecDepth 1000000 in
theorem zk_8_3 : zkc 8 8 [(2, 0, 0), (4, 1, 1)] = true := by decide +kernel
set_option maxRecDepth 1000000 in
theorem zk_8_4 : zkc 8 8 [(2, 0, 0), (4, 2, 2)] = true := by decide +kernel
set_option maxRecDepth 1000000 in
theorem zk_8_5 : zkc 8 8 [(2, 0, 0), (4, 3, 3)] = true := by decide +kernel
set_option maxRecDepth 1000000 in
theorem zk_8_6 : zkc 8 8 [(2, 0, 0), (4, 4, 2147483647)] = true := by decide +kernel
set_option maxRecDepth 1000000 in
theorem zk_8_7 : zkc 8 8 [(2, 1, 1), (4, (-2147483648), (-1))] = true := by decide +kernel
set_option maxRecDepth 1000000 in
theorem zk_8_8 : zkc 8 8 [(2, 1, 1), (4, 0, 0)] = true := by decide +kernel
set_option maxRecDepth 1000000 in
theorem zk_8_9 : zkc 8 8 [(2, 1, 1), (4, 1, 1)] = true := by decide +kernel
set_option maxRecDepth 1000000 in
theorem zk_8_10 : zkc 8 8 [(2, 1, 1), (4, 2, 2)] = true := by decide +kernel
set_option maxRecDepth 1000000 in
theorem zk_8_11 : zkc 8 8 [(2, 1, 1), (4, 3, 3)] = true := by decide +kernel
set_option maxRecDepth 1000000 in
theorem zk_8_12 : zkc 8 8 [(2, 1, 1), (4, 4, 2147483647)] = true := by decide +kernel
set_option maxRecDepth 1000000 in
theorem zk_8_13 : zkc 8 8 [(2, 2, 2), (4, (-2147483648), (-1))] = true := by decide +kernel
set_option maxRecDepth 1000000 in
theorem zk_8_14 : zkc 8 8 [(2, 2, 2), (4, 0, 0)] = true := by decide +kernel
