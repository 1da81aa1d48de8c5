/-! stages of the bursts, checked -/
set_option maxRecDepth 1000000 in
theorem ztc_0_3_1 : zbs 133 zm_133 zc3 zV0 (zbt 36 7 34) zSc_0_3_1 (some zSc_0_3_2) = true := by decide +kernel
set_option maxRecDepth 1000000 in
theorem ztc_0_3_2 : zbs 133 zm_133 zc3 zV0 (fun _ _ => false) zSc_0_3_2 none = true := by decide +kernel
