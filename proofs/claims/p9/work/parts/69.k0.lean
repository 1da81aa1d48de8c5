/-! calls of the law, kind by kind -/
theorem yLk_0 {f : Nat → Option (Nat × Nat × (Nat → Value))} (hf : yFf f) : yLKd f 204 := ⟨[yC41, yC299], [270], ⟨yC41_ok hf, yC299_ok hf, trivial⟩, by decide +kernel⟩
