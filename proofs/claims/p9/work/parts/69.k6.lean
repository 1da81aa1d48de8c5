/-! calls of the law, kind by kind -/
theorem yLk_32 {f : Nat → Option (Nat × Nat × (Nat → Value))} (hf : yFf f) : yLKd f 1524 := ⟨[yC170, yEN], [298], ⟨yC170_ok hf, yEN_ok hf, trivial⟩, by decide +kernel⟩
theorem yLk_33 {f : Nat → Option (Nat × Nat × (Nat → Value))} (hf : yFf f) : yLKd f 1552 := ⟨[yC17, yC336], [], ⟨yC17_ok hf, yC336_ok hf, trivial⟩, by decide +kernel⟩
theorem yLk_34 {f : Nat → Option (Nat × Nat × (Nat → Value))} (hf : yFf f) : yLKd f 1565 := ⟨[yC171, yC337], [299], ⟨yC171_ok hf, yC337_ok hf, trivial⟩, by decide +kernel⟩
theorem yLk_35 {f : Nat → Option (Nat × Nat × (Nat → Value))} (hf : yFf f) : yLKd f 1605 := ⟨[yC19, yC338], [], ⟨yC19_ok hf, yC338_ok hf, trivial⟩, by decide +kernel⟩
theorem yLk_36 {f : Nat → Option (Nat × Nat × (Nat → Value))} (hf : yFf f) : yLKd f 1618 := ⟨[yC20, yC339], [], ⟨yC20_ok hf, yC339_ok hf, trivial⟩, by decide +kernel⟩
theorem yLk_d {f : Nat → Option (Nat × Nat × (Nat → Value))} (hf : yFf f) : yLKd f 1643 := ⟨[], [], trivial, by decide +kernel⟩
