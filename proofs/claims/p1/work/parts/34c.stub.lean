theorem zbr_0_0 : zbr zV0 0 0 0 = true := by sorry
theorem zbr_0_1 : zbr zV0 0 0 1 = true := by sorry
theorem zbr_0_2 : zbr zV0 0 0 2 = true := by sorry
theorem zbr_0_3 : zbr zV0 0 0 3 = true := by sorry
theorem zbr_1_0 : zbr zV1 1 3 0 = true := by sorry
theorem zbr_1_1 : zbr zV1 1 3 1 = true := by sorry
theorem zbr_1_2 : zbr zV1 1 3 2 = true := by sorry
theorem zbr_1_3 : zbr zV1 1 3 3 = true := by sorry
