/-! kinds of calls, checked -/
set_option maxRecDepth 1000000 in
theorem zk_27_59 : zkc 27 27 [(2, 2, 2), (4, 2, 2), (5, 2, 2)] = true := by decide +kernel
set_option maxRecDepth 1000000 in
theorem zk_27_60 : zkc 27 27 [(2, 2, 2), (4, 2, 2), (5, 3, 2147483647)] = true := by decide +kernel
set_option maxRecDepth 1000000 in
theorem zk_27_61 : zkc 27 27 [(2, 2, 2), (4, 3, 3), (5, (-2147483648), (-1))] = true := by decide +kernel
set_option maxRecDepth 1000000 in
theorem zk_27_62 : zkc 27 27 [(2, 2, 2), (4, 3, 3), (5, 0, 0)] = true := by decide +kernel
set_option maxRecDepth 1000000 in
theorem zk_27_63 : zkc 27 27 [(2, 2, 2), (4, 3, 3), (5, 1, 1)] = true := by decide +kernel
set_option maxRecDepth 1000000 in
theorem zk_27_64 : zkc 27 27 [(2, 2, 2), (4, 3, 3), (5, 2, 2)] = true := by decide +kernel
set_option maxRecDepth 1000000 in
theorem zk_27_65 : zkc 27 27 [(2, 2, 2), (4, 3, 3), (5, 3, 2147483647)] = true := by decide +kernel
set_option maxRecDepth 1000000 in
theorem zk_27_66 : zkc 27 27 [(2, 2, 2), (4, 4, 2147483647)] = true := by decide +kernel
set_option maxRecDepth 1000000 in
theorem zk_27_67 : zkc 27 27 [(2, 3, 3), (4, (-2147483648), (-1))] = true := by decide +kernel
set_option maxRecDepth 1000000 in
theorem zk_27_68 : zkc 27 27 [(2, 3, 3), (4, 0, 0), (5, (-2147483648), (-1))] = true := by decide +kernel
set_option maxRecDepth 1000000 in
theorem zk_27_69 : zkc 27 27 [(2, 3, 3), (4, 0, 0), (5, 0, 0)] = true := by decide +kernel
set_option maxRecDepth 1000000 in
theorem zk_27_70 : zkc 27 27 [(2, 3, 3), (4, 0, 0), (5, 1, 1)] = true := by decide +kernel
set_option maxRecDepth 1000000 in
theorem zk_27_71 : zkc 27 27 [(2, 3, 3), (4, 0, 0), (5, 2, 2)] = true := by decide +kernel
set_option maxRecDepth 1000000 in
theorem zk_27_72 : zkc 27 27 [(2, 3, 3), (4, 0, 0), (5, 3, 2147483647)] = true := by decide +kernel
set_option maxRecDepth 1000000 in
theorem zk_27_73 : zkc 27 27 [(2, 3, 3), (4, 1, 1), (5, (-2147483648), (-1))] = true := by decide +kernel
set_option maxRecDepth 1000000 in
theorem zk_27_74 : zkc 27 27 [(2, 3, 3), (4, 1, 1), (5, 0, 0)] = true := by decide +kernel
set_option maxRecDepth 1000000 in
theorem zk_27_75 : zkc 27 27 [(2, 3, 3), (4, 1, 1), (5, 1, 1)] = true := by decide +kernel
set_option maxRecDepth 1000000 in
theorem zk_27_76 : zkc 27 27 [(2, 3, 3), (4, 1, 1), (5, 2, 2)] = true := by decide +kernel
set_option maxRecDepth 1000000 in
theorem zk_27_77 : zkc 27 27 [(2, 3, 3), (4, 1, 1), (5, 3, 2147483647)] = true := by decide +kernel
set_option maxRecDepth 1000000 in
theorem zk_27_78 : zkc 27 27 [(2, 3, 3), (4, 2, 2), (5, (-2147483648), (-1))] = true := by decide +kernel
set_option maxRecDepth 1000000 in
theorem zk_27_79 : zkc 27 27 [(2, 3, 3), (4, 2, 2), (5, 0, 0)] = true := by decide +kernel
