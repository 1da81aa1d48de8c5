/-! calls of the law, kind by kind -/
theorem yLk_20 {f : Nat → Option (Nat × Nat × (Nat → Value))} (hf : yFf f) : yLKd f 1014 := ⟨[yC159, yC317], [288], ⟨yC159_ok hf, yC317_ok hf, trivial⟩, by decide +kernel⟩
theorem yLk_21 {f : Nat → Option (Nat × Nat × (Nat → Value))} (hf : yFf f) : yLKd f 1042 := ⟨[yC160, yC318], [289], ⟨yC160_ok hf, yC318_ok hf, trivial⟩, by decide +kernel⟩
theorem yLk_22 {f : Nat → Option (Nat × Nat × (Nat → Value))} (hf : yFf f) : yLKd f 1094 := ⟨[yC161, yC319], [290], ⟨yC161_ok hf, yC319_ok hf, trivial⟩, by decide +kernel⟩
theorem yLk_23 {f : Nat → Option (Nat × Nat × (Nat → Value))} (hf : yFf f) : yLKd f 1146 := ⟨[yC162, yC320], [291], ⟨yC162_ok hf, yC320_ok hf, trivial⟩, by decide +kernel⟩
theorem yLk_24 {f : Nat → Option (Nat × Nat × (Nat → Value))} (hf : yFf f) : yLKd f 1198 := ⟨[yC4, yC321], [], ⟨yC4_ok hf, yC321_ok hf, trivial⟩, by decide +kernel⟩
theorem yLk_25 {f : Nat → Option (Nat × Nat × (Nat → Value))} (hf : yFf f) : yLKd f 1223 := ⟨[yC163, yC322], [292], ⟨yC163_ok hf, yC322_ok hf, trivial⟩, by decide +kernel⟩
