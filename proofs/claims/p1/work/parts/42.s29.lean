/-! stages of the bursts, checked -/
set_option maxRecDepth 1000000 in
theorem ztc_1_2_2 : zbs 133 zm_133 zc3 zV1 (zbt 36 7 39) zSc_1_2_2 (some zSc_1_2_3) = true := by decide +kernel
set_option maxRecDepth 1000000 in
theorem ztc_1_2_3 : zbs 133 zm_133 zc3 zV1 (fun _ _ => false) zSc_1_2_3 none = true := by decide +kernel
