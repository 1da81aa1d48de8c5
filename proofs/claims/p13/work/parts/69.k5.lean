/-! calls of the law, kind by kind -/
theorem yLk_32 {f : Nat → Option (Nat × Nat × (Nat → Value))} (hf : yFf f) {L : Nat} (hL : yFL f L) : yLKs f L 1524 := yLK_of hf hL (T := [yC170, yEN]) (il := [298]) ⟨yC170_ok hf, yEN_ok hf, trivial⟩ (by decide +kernel)
theorem yLk_33 {f : Nat → Option (Nat × Nat × (Nat → Value))} (hf : yFf f) {L : Nat} (hL : yFL f L) : yLKs f L 1552 := yLK_of hf hL (T := [yC17, yC336]) (il := []) ⟨yC17_ok hf, yC336_ok hf, trivial⟩ (by decide +kernel)
theorem yLk_34 {f : Nat → Option (Nat × Nat × (Nat → Value))} (hf : yFf f) {L : Nat} (hL : yFL f L) : yLKs f L 1565 := yLK_of hf hL (T := [yC171, yC337]) (il := [299]) ⟨yC171_ok hf, yC337_ok hf, trivial⟩ (by decide +kernel)
theorem yLk_35 {f : Nat → Option (Nat × Nat × (Nat → Value))} (hf : yFf f) {L : Nat} (hL : yFL f L) : yLKs f L 1605 := yLK_of hf hL (T := [yC19, yC338]) (il := []) ⟨yC19_ok hf, yC338_ok hf, trivial⟩ (by decide +kernel)
theorem yLk_36 {f : Nat → Option (Nat × Nat × (Nat → Value))} (hf : yFf f) {L : Nat} (hL : yFL f L) : yLKs f L 1618 := yLK_of hf hL (T := [yC20, yC339]) (il := []) ⟨yC20_ok hf, yC339_ok hf, trivial⟩ (by decide +kernel)
theorem yLk_d {f : Nat → Option (Nat × Nat × (Nat → Value))} (hf : yFf f) {L : Nat} (hL : yFL f L) : yLKs f L 1643 := yLK_of hf hL (T := []) (il := []) trivial (by decide +kernel)
