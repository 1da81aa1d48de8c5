/-! calls of the law, kind by kind -/
theorem yLk_26 {f : Nat → Option (Nat × Nat × (Nat → Value))} (hf : yFf f) : yLKd f 1263 := ⟨[yC164, yC323], [293], ⟨yC164_ok hf, yC323_ok hf, trivial⟩, by decide +kernel⟩
theorem yLk_27 {f : Nat → Option (Nat × Nat × (Nat → Value))} (hf : yFf f) : yLKd f 1303 := ⟨[yC165, yC327], [294], ⟨yC165_ok hf, yC327_ok hf, trivial⟩, by decide +kernel⟩
theorem yLk_28 {f : Nat → Option (Nat × Nat × (Nat → Value))} (hf : yFf f) : yLKd f 1367 := ⟨[yC15, yC328], [], ⟨yC15_ok hf, yC328_ok hf, trivial⟩, by decide +kernel⟩
theorem yLk_29 {f : Nat → Option (Nat × Nat × (Nat → Value))} (hf : yFf f) : yLKd f 1380 := ⟨[yC167, yC329], [295], ⟨yC167_ok hf, yC329_ok hf, trivial⟩, by decide +kernel⟩
theorem yLk_30 {f : Nat → Option (Nat × Nat × (Nat → Value))} (hf : yFf f) : yLKd f 1420 := ⟨[yC168, yC333], [296], ⟨yC168_ok hf, yC333_ok hf, trivial⟩, by decide +kernel⟩
theorem yLk_31 {f : Nat → Option (Nat × Nat × (Nat → Value))} (hf : yFf f) : yLKd f 1484 := ⟨[yC169, yC334], [297], ⟨yC169_ok hf, yC334_ok hf, trivial⟩, by decide +kernel⟩
