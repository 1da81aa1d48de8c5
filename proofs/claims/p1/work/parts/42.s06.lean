/-! stages of the bursts, checked -/
set_option maxRecDepth 1000000 in
theorem ztr_0_3_0 : zbs 232 zm_232 zw3 zV0 (zbt 69 6 13) zSr_0_3_0 (some zSr_0_3_1) = true := by decide +kernel
set_option maxRecDepth 1000000 in
theorem ztr_0_3_1 : zbs 232 zm_232 zw3 zV0 (zbt 69 6 26) zSr_0_3_1 (some zSr_0_3_2) = true := by decide +kernel
