/-! stages of the bursts, checked -/
set_option maxRecDepth 1000000 in
theorem ztc_1_3_0 : zbs 133 zm_133 zc3 zV1 (zbt 36 7 13) zSc_1_3_0 (some zSc_1_3_1) = true := by decide +kernel
set_option maxRecDepth 1000000 in
theorem ztc_1_3_1 : zbs 133 zm_133 zc3 zV1 (zbt 36 7 26) zSc_1_3_1 (some zSc_1_3_2) = true := by decide +kernel
