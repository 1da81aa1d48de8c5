/-! kinds of calls, checked -/
set_option maxRecDepth 1000000 in
theorem zk_27_18 : zkc 27 27 [(2, 0, 0), (4, 3, 3), (5, 0, 0)] = true := by decide +kernel
set_option maxRecDepth 1000000 in
theorem zk_27_19 : zkc 27 27 [(2, 0, 0), (4, 3, 3), (5, 1, 1)] = true := by decide +kernel
set_option maxRecDepth 1000000 in
theorem zk_27_20 : zkc 27 27 [(2, 0, 0), (4, 3, 3), (5, 2, 2)] = true := by decide +kernel
set_option maxRecDepth 1000000 in
theorem zk_27_21 : zkc 27 27 [(2, 0, 0), (4, 3, 3), (5, 3, 2147483647)] = true := by decide +kernel
set_option maxRecDepth 1000000 in
theorem zk_27_22 : zkc 27 27 [(2, 0, 0), (4, 4, 2147483647)] = true := by decide +kernel
set_option maxRecDepth 1000000 in
theorem zk_27_23 : zkc 27 27 [(2, 1, 1), (4, (-2147483648), (-1))] = true := by decide +kernel
set_option maxRecDepth 1000000 in
theorem zk_27_24 : zkc 27 27 [(2, 1, 1), (4, 0, 0), (5, (-2147483648), (-1))] = true := by decide +kernel
set_option maxRecDepth 1000000 in
theorem zk_27_25 : zkc 27 27 [(2, 1, 1), (4, 0, 0), (5, 0, 0)] = true := by decide +kernel
set_option maxRecDepth 1000000 in
theorem zk_27_26 : zkc 27 27 [(2, 1, 1), (4, 0, 0), (5, 1, 1)] = true := by decide +kernel
set_option maxRecDepth 1000000 in
theorem zk_27_27 : zkc 27 27 [(2, 1, 1), (4, 0, 0), (5, 2, 2)] = true := by decide +kernel
set_option maxRecDepth 1000000 in
theorem zk_27_28 : zkc 27 27 [(2, 1, 1), (4, 0, 0), (5, 3, 2147483647)] = true := by decide +kernel
set_option maxRecDepth 1000000 in
theorem zk_27_29 : zkc 27 27 [(2, 1, 1), (4, 1, 1), (5, (-2147483648), (-1))] = true := by decide +kernel
set_option maxRecDepth 1000000 in
theorem zk_27_30 : zkc 27 27 [(2, 1, 1), (4, 1, 1), (5, 0, 0)] = true := by decide +kernel
set_option maxRecDepth 1000000 in
theorem zk_27_31 : zkc 27 27 [(2, 1, 1), (4, 1, 1), (5, 1, 1)] = true := by decide +kernel
set_option maxRecDepth 1000000 in
theorem zk_27_32 : zkc 27 27 [(2, 1, 1), (4, 1, 1), (5, 2, 2)] = true := by decide +kernel
set_option maxRecDepth 1000000 in
theorem zk_27_33 : zkc 27 27 [(2, 1, 1), (4, 1, 1), (5, 3, 2147483647)] = true := by decide +kernel
set_option maxRecDepth 1000000 in
theorem zk_27_34 : zkc 27 27 [(2, 1, 1), (4, 2, 2), (5, (-2147483648), (-1))] = true := by decide +kernel
set_option maxRecDepth 1000000 in
theorem zk_27_35 : zkc 27 27 [(2, 1, 1), (4, 2, 2), (5, 0, 0)] = true := by decide +kernel
set_option maxRecDepth 1000000 in
theorem zk_27_36 : zkc 27 27 [(2, 1, 1), (4, 2, 2), (5, 1, 1)] = true := by decide +kernel
set_option maxRecDepth 1000000 in
theorem zk_27_37 : zkc 27 27 [(2, 1, 1), (4, 2, 2), (5, 2, 2)] = true := by decide +kernel
