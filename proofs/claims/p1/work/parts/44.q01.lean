/-! burst as a kind of calls, checked -/
set_option maxRecDepth 1000000 in
theorem zq_24 : zkq 12 12 [(2, 0, 3), (3, 1, 3), (4, 1, 1), (5, 1, 50)] = true := by decide +kernel
set_option maxRecDepth 1000000 in
theorem zq_25 : zkq 12 12 [(2, 0, 3), (3, 1, 3), (4, 1, 1), (5, 51, 2147483647)] = true := by decide +kernel
set_option maxRecDepth 1000000 in
theorem zq_26 : zkq 12 12 [(2, 0, 3), (3, 1, 3), (4, 2, 2), (5, (-2147483648), 0)] = true := by decide +kernel
set_option maxRecDepth 1000000 in
theorem zq_27 : zkq 12 12 [(2, 0, 3), (3, 1, 3), (4, 2, 2), (5, 1, 50)] = true := by decide +kernel
set_option maxRecDepth 1000000 in
theorem zq_28 : zkq 12 12 [(2, 0, 3), (3, 1, 3), (4, 2, 2), (5, 51, 2147483647)] = true := by decide +kernel
set_option maxRecDepth 1000000 in
theorem zq_29 : zkq 12 12 [(2, 0, 3), (3, 1, 3), (4, 3, 3), (5, (-2147483648), 0)] = true := by decide +kernel
set_option maxRecDepth 1000000 in
theorem zq_30 : zkq 12 12 [(2, 0, 3), (3, 1, 3), (4, 3, 3), (5, 1, 50)] = true := by decide +kernel
set_option maxRecDepth 1000000 in
theorem zq_31 : zkq 12 12 [(2, 0, 3), (3, 1, 3), (4, 3, 3), (5, 51, 2147483647)] = true := by decide +kernel
