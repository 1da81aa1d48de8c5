/-! stages of the bursts, checked -/
set_option maxRecDepth 1000000 in
theorem ztr_1_3_3 : zbs 232 zm_232 zw3 zV1 (zbt 69 6 40) zSr_1_3_3 (some zSr_1_3_4) = true := by decide +kernel
set_option maxRecDepth 1000000 in
theorem ztr_1_3_4 : zbs 232 zm_232 zw3 zV1 (fun _ _ => false) zSr_1_3_4 none = true := by decide +kernel
