/-! stages of the bursts, checked -/
set_option maxRecDepth 1000000 in
theorem ztr_1_2_0 : zbs 232 zm_232 zw3 zV1 (zbt 69 6 10) zSr_1_2_0 (some zSr_1_2_1) = true := by decide +kernel
set_option maxRecDepth 1000000 in
theorem ztr_1_2_1 : zbs 232 zm_232 zw3 zV1 (zbt 69 6 20) zSr_1_2_1 (some zSr_1_2_2) = true := by decide +kernel
