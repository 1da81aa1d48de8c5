/-! calls of the law, kind by kind -/
theorem yLk_0 {f : Nat → Option (Nat × Nat × (Nat → Value))} (hf : yFf f) : yLKd f 204 := ⟨[yC39, yC40, yC298], [270, 111, 112, 47, 155, 227, 162, 163], ⟨yC39_ok hf, yC40_ok hf, yC298_ok hf, trivial⟩, by decide +kernel⟩
