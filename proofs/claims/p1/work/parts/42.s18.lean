/-! stages of the bursts, checked -/
set_option maxRecDepth 1000000 in
theorem ztc_0_0_0 : zbs 133 zm_133 zc3 zV0 (zbt 36 7 17) zSc_0_0_0 (some zSc_0_0_1) = true := by decide +kernel
set_option maxRecDepth 1000000 in
theorem ztc_0_0_1 : zbs 133 zm_133 zc3 zV0 (zbt 36 7 34) zSc_0_0_1 (some zSc_0_0_2) = true := by decide +kernel
