/-! kinds of calls, checked -/
set_option maxRecDepth 1000000 in
theorem zk_35_0 : zkc 35 35 [] = true := by decide +kernel
set_option maxRecDepth 1000000 in
theorem zk_36_0 : zkc 36 36 [] = true := by decide +kernel
set_option maxRecDepth 1000000 in
theorem zk_37_0 : zkc (-2147483648) (-1) [] = true := by decide +kernel
set_option maxRecDepth 1000000 in
theorem zk_38_0 : zkc 37 2147483647 [] = true := by decide +kernel
