/-! stages of the bursts, checked -/
set_option maxRecDepth 1000000 in
theorem ztr_1_0_2 : zbs 232 zm_232 zw3 zV1 (zbt 69 6 30) zSr_1_0_2 (some zSr_1_0_3) = true := by decide +kernel
set_option maxRecDepth 1000000 in
theorem ztr_1_0_3 : zbs 232 zm_232 zw3 zV1 (zbt 69 6 40) zSr_1_0_3 (some zSr_1_0_4) = true := by decide +kernel
