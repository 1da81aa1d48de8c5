/-! stages of the bursts, checked -/
set_option maxRecDepth 1000000 in
theorem ztr_1_3_1 : zbs 232 zm_232 zw3 zV1 (zbt 69 6 20) zSr_1_3_1 (some zSr_1_3_2) = true := by decide +kernel
set_option maxRecDepth 1000000 in
theorem ztr_1_3_2 : zbs 232 zm_232 zw3 zV1 (zbt 69 6 30) zSr_1_3_2 (some zSr_1_3_3) = true := by decide +kernel
