/-! burst as a kind of calls, checked -/
set_option maxRecDepth 1000000 in
theorem zq_0 : zkq 12 12 [(2, (-2147483648), (-1))] = true := by decide +kernel
set_option maxRecDepth 1000000 in
theorem zq_1 : zkq 12 12 [(2, 4, 2147483647)] = true := by decide +kernel
set_option maxRecDepth 1000000 in
theorem zq_2 : zkq 12 12 [(2, 0, 3), (3, (-2147483648), (-1))] = true := by decide +kernel
set_option maxRecDepth 1000000 in
theorem zq_3 : zkq 12 12 [(2, 0, 3), (3, 4, 2147483647)] = true := by decide +kernel
set_option maxRecDepth 1000000 in
theorem zq_4 : zkq 12 12 [(2, 0, 3), (3, 0, 0), (4, (-2147483648), (-1))] = true := by decide +kernel
set_option maxRecDepth 1000000 in
theorem zq_5 : zkq 12 12 [(2, 0, 3), (3, 0, 0), (4, 4, 2147483647)] = true := by decide +kernel
set_option maxRecDepth 1000000 in
theorem zq_6 : zkq 12 12 [(2, 0, 3), (3, 0, 0), (4, 0, 0), (5, (-2147483648), 0)] = true := by decide +kernel
set_option maxRecDepth 1000000 in
theorem zq_7 : zkq 12 12 [(2, 0, 3), (3, 0, 0), (4, 0, 0), (5, 1, 50)] = true := by decide +kernel
set_option maxRecDepth 1000000 in
theorem zq_8 : zkq 12 12 [(2, 0, 3), (3, 0, 0), (4, 0, 0), (5, 51, 2147483647)] = true := by decide +kernel
set_option maxRecDepth 1000000 in
theorem zq_9 : zkq 12 12 [(2, 0, 3), (3, 0, 0), (4, 1, 1), (5, (-2147483648), 0)] = true := by decide +kernel
set_option maxRecDepth 1000000 in
theorem zq_10 : zkq 12 12 [(2, 0, 3), (3, 0, 0), (4, 1, 1), (5, 1, 50)] = true := by decide +kernel
set_option maxRecDepth 1000000 in
theorem zq_11 : zkq 12 12 [(2, 0, 3), (3, 0, 0), (4, 1, 1), (5, 51, 2147483647)] = true := by decide +kernel
set_option maxRecDepth 1000000 in
theorem zq_12 : zkq 12 12 [(2, 0, 3), (3, 0, 0), (4, 2, 2), (5, (-2147483648), 0)] = true := by decide +kernel
set_option maxRecDepth 1000000 in
theorem zq_13 : zkq 12 12 [(2, 0, 3), (3, 0, 0), (4, 2, 2), (5, 1, 50)] = true := by decide +kernel
set_option maxRecDepth 1000000 in
theorem zq_14 : zkq 12 12 [(2, 0, 3), (3, 0, 0), (4, 2, 2), (5, 51, 2147483647)] = true := by decide +kernel
set_option maxRecDepth 1000000 in
theorem zq_15 : zkq 12 12 [(2, 0, 3), (3, 0, 0), (4, 3, 3), (5, (-2147483648), 0)] = true := by decide +kernel
set_option maxRecDepth 1000000 in
theorem zq_16 : zkq 12 12 [(2, 0, 3), (3, 0, 0), (4, 3, 3), (5, 1, 50)] = true := by decide +kernel
set_option maxRecDepth 1000000 in
theorem zq_17 : zkq 12 12 [(2, 0, 3), (3, 0, 0), (4, 3, 3), (5, 51, 2147483647)] = true := by decide +kernel
set_option maxRecDepth 1000000 in
theorem zq_18 : zkq 12 12 [(2, 0, 3), (3, 1, 3), (4, (-2147483648), (-1))] = true := by decide +kernel
set_option maxRecDepth 1000000 in
theorem zq_19 : zkq 12 12 [(2, 0, 3), (3, 1, 3), (4, 4, 2147483647)] = true := by decide +kernel
set_option maxRecDepth 1000000 in
theorem zq_20 : zkq 12 12 [(2, 0, 3), (3, 1, 3), (4, 0, 0), (5, (-2147483648), 0)] = true := by decide +kernel
set_option maxRecDepth 1000000 in
theorem zq_21 : zkq 12 12 [(2, 0, 3), (3, 1, 3), (4, 0, 0), (5, 1, 50)] = true := by decide +kernel
set_option maxRecDepth 1000000 in
theorem zq_22 : zkq 12 12 [(2, 0, 3), (3, 1, 3), (4, 0, 0), (5, 51, 2147483647)] = true := by decide +kernel
set_option maxRecDepth 1000000 in
theorem zq_23 : zkq 12 12 [(2, 0, 3), (3, 1, 3), (4, 1, 1), (5, (-2147483648), 0)] = true := by decide +kernel
