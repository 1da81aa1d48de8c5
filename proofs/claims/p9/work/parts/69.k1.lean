/-! calls of the law, kind by kind -/
theorem yLk_1 {f : Nat → Option (Nat × Nat × (Nat → Value))} (hf : yFf f) : yLKd f 256 := ⟨[yC2, yC172], [], ⟨yC2_ok hf, yC172_ok hf, trivial⟩, by decide +kernel⟩
theorem yLk_2 {f : Nat → Option (Nat × Nat × (Nat → Value))} (hf : yFf f) : yLKd f 329 := ⟨[yC68, yC214], [271], ⟨yC68_ok hf, yC214_ok hf, trivial⟩, by decide +kernel⟩
theorem yLk_3 {f : Nat → Option (Nat × Nat × (Nat → Value))} (hf : yFf f) : yLKd f 357 := ⟨[yC107, yC296], [272], ⟨yC107_ok hf, yC296_ok hf, trivial⟩, by decide +kernel⟩
theorem yLk_4 {f : Nat → Option (Nat × Nat × (Nat → Value))} (hf : yFf f) : yLKd f 385 := ⟨[yC3, yC297], [], ⟨yC3_ok hf, yC297_ok hf, trivial⟩, by decide +kernel⟩
theorem yLk_5 {f : Nat → Option (Nat × Nat × (Nat → Value))} (hf : yFf f) : yLKd f 398 := ⟨[yC143, yC331], [273], ⟨yC143_ok hf, yC331_ok hf, trivial⟩, by decide +kernel⟩
theorem yLk_6 {f : Nat → Option (Nat × Nat × (Nat → Value))} (hf : yFf f) : yLKd f 438 := ⟨[yC144, yC326], [274], ⟨yC144_ok hf, yC326_ok hf, trivial⟩, by decide +kernel⟩
