/-! kinds of calls, checked -/
set_option maxRecDepth 1000000 in
theorem zk_27_38 : zkc 27 27 [(2, 1, 1), (4, 2, 2), (5, 3, 2147483647)] = true := by decide +kernel
set_option maxRecDepth 1000000 in
theorem zk_27_39 : zkc 27 27 [(2, 1, 1), (4, 3, 3), (5, (-2147483648), (-1))] = true := by decide +kernel
set_option maxRecDepth 1000000 in
theorem zk_27_40 : zkc 27 27 [(2, 1, 1), (4, 3, 3), (5, 0, 0)] = true := by decide +kernel
set_option maxRecDepth 1000000 in
theorem zk_27_41 : zkc 27 27 [(2, 1, 1), (4, 3, 3), (5, 1, 1)] = true := by decide +kernel
set_option maxRecDepth 1000000 in
theorem zk_27_42 : zkc 27 27 [(2, 1, 1), (4, 3, 3), (5, 2, 2)] = true := by decide +kernel
set_option maxRecDepth 1000000 in
theorem zk_27_43 : zkc 27 27 [(2, 1, 1), (4, 3, 3), (5, 3, 2147483647)] = true := by decide +kernel
set_option maxRecDepth 1000000 in
theorem zk_27_44 : zkc 27 27 [(2, 1, 1), (4, 4, 2147483647)] = true := by decide +kernel
set_option maxRecDepth 1000000 in
theorem zk_27_45 : zkc 27 27 [(2, 2, 2), (4, (-2147483648), (-1))] = true := by decide +kernel
set_option maxRecDepth 1000000 in
theorem zk_27_46 : zkc 27 27 [(2, 2, 2), (4, 0, 0), (5, (-2147483648), (-1))] = true := by decide +kernel
set_option maxRecDepth 1000000 in
theorem zk_27_47 : zkc 27 27 [(2, 2, 2), (4, 0, 0), (5, 0, 0)] = true := by decide +kernel
set_option maxRecDepth 1000000 in
theorem zk_27_48 : zkc 27 27 [(2, 2, 2), (4, 0, 0), (5, 1, 1)] = true := by decide +kernel
set_option maxRecDepth 1000000 in
theorem zk_27_49 : zkc 27 27 [(2, 2, 2), (4, 0, 0), (5, 2, 2)] = true := by decide +kernel
set_option maxRecDepth 1000000 in
theorem zk_27_50 : zkc 27 27 [(2, 2, 2), (4, 0, 0), (5, 3, 2147483647)] = true := by decide +kernel
set_option maxRecDepth 1000000 in
theorem zk_27_51 : zkc 27 27 [(2, 2, 2), (4, 1, 1), (5, (-2147483648), (-1))] = true := by decide +kernel
set_option maxRecDepth 1000000 in
theorem zk_27_52 : zkc 27 27 [(2, 2, 2), (4, 1, 1), (5, 0, 0)] = true := by decide +kernel
set_option maxRecDepth 1000000 in
theorem zk_27_53 : zkc 27 27 [(2, 2, 2), (4, 1, 1), (5, 1, 1)] = true := by decide +kernel
set_option maxRecDepth 1000000 in
theorem zk_27_54 : zkc 27 27 [(2, 2, 2), (4, 1, 1), (5, 2, 2)] = true := by decide +kernel
set_option maxRecDepth 1000000 in
theorem zk_27_55 : zkc 27 27 [(2, 2, 2), (4, 1, 1), (5, 3, 2147483647)] = true := by decide +kernel
set_option maxRecDepth 1000000 in
theorem zk_27_56 : zkc 27 27 [(2, 2, 2), (4, 2, 2), (5, (-2147483648), (-1))] = true := by decide +kernel
set_option maxRecDepth 1000000 in
theorem zk_27_57 : zkc 27 27 [(2, 2, 2), (4, 2, 2), (5, 0, 0)] = true := by decide +kernel
set_option maxRecDepth 1000000 in
theorem zk_27_58 : zkc 27 27 [(2, 2, 2), (4, 2, 2), (5, 1, 1)] = true := by decide +kernel
