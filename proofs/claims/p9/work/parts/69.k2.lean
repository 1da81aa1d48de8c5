/-! calls of the law, kind by kind -/
theorem yLk_8 {f : Nat → Option (Nat × Nat × (Nat → Value))} (hf : yFf f) : yLKd f 558 := ⟨[yC146, yC304], [276], ⟨yC146_ok hf, yC304_ok hf, trivial⟩, by decide +kernel⟩
theorem yLk_9 {f : Nat → Option (Nat × Nat × (Nat → Value))} (hf : yFf f) : yLKd f 610 := ⟨[yC147, yC305], [277], ⟨yC147_ok hf, yC305_ok hf, trivial⟩, by decide +kernel⟩
theorem yLk_10 {f : Nat → Option (Nat × Nat × (Nat → Value))} (hf : yFf f) : yLKd f 674 := ⟨[yC148, yC309], [278], ⟨yC148_ok hf, yC309_ok hf, trivial⟩, by decide +kernel⟩
theorem yLk_11 {f : Nat → Option (Nat × Nat × (Nat → Value))} (hf : yFf f) : yLKd f 714 := ⟨[yC149, yC310], [279], ⟨yC149_ok hf, yC310_ok hf, trivial⟩, by decide +kernel⟩
theorem yLk_12 {f : Nat → Option (Nat × Nat × (Nat → Value))} (hf : yFf f) : yLKd f 742 := ⟨[yC150, yC306], [280], ⟨yC150_ok hf, yC306_ok hf, trivial⟩, by decide +kernel⟩
theorem yLk_13 {f : Nat → Option (Nat × Nat × (Nat → Value))} (hf : yFf f) : yLKd f 806 := ⟨[yC151, yC307], [281], ⟨yC151_ok hf, yC307_ok hf, trivial⟩, by decide +kernel⟩
