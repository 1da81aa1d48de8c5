/-! stages of the bursts, checked -/
set_option maxRecDepth 1000000 in
theorem ztr_0_0_2 : zbs 232 zm_232 zw3 zV0 (zbt 69 6 39) zSr_0_0_2 (some zSr_0_0_3) = true := by decide +kernel
set_option maxRecDepth 1000000 in
theorem ztr_0_0_3 : zbs 232 zm_232 zw3 zV0 (fun _ _ => false) zSr_0_0_3 none = true := by decide +kernel
