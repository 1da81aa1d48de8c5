/-! calls of the law, kind by kind -/
theorem yLk_14 {f : Nat → Option (Nat × Nat × (Nat → Value))} (hf : yFf f) : yLKd f 834 := ⟨[yC152, yC308], [282], ⟨yC152_ok hf, yC308_ok hf, trivial⟩, by decide +kernel⟩
theorem yLk_15 {f : Nat → Option (Nat × Nat × (Nat → Value))} (hf : yFf f) : yLKd f 850 := ⟨[yC154, yC312], [283], ⟨yC154_ok hf, yC312_ok hf, trivial⟩, by decide +kernel⟩
theorem yLk_16 {f : Nat → Option (Nat × Nat × (Nat → Value))} (hf : yFf f) : yLKd f 878 := ⟨[yC155, yC313], [284], ⟨yC155_ok hf, yC313_ok hf, trivial⟩, by decide +kernel⟩
theorem yLk_17 {f : Nat → Option (Nat × Nat × (Nat → Value))} (hf : yFf f) : yLKd f 906 := ⟨[yC156, yC314], [285], ⟨yC156_ok hf, yC314_ok hf, trivial⟩, by decide +kernel⟩
theorem yLk_18 {f : Nat → Option (Nat × Nat × (Nat → Value))} (hf : yFf f) : yLKd f 934 := ⟨[yC157, yC315], [286], ⟨yC157_ok hf, yC315_ok hf, trivial⟩, by decide +kernel⟩
theorem yLk_19 {f : Nat → Option (Nat × Nat × (Nat → Value))} (hf : yFf f) : yLKd f 974 := ⟨[yC158, yC316], [287], ⟨yC158_ok hf, yC316_ok hf, trivial⟩, by decide +kernel⟩
