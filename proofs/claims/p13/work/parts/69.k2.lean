/-! calls of the law, kind by kind -/
theorem yLk_12 {f : Nat → Option (Nat × Nat × (Nat → Value))} (hf : yFf f) {L : Nat} (hL : yFL f L) : yLKs f L 742 := yLK_of hf hL (T := [yC150, yC306]) (il := [280]) ⟨yC150_ok hf, yC306_ok hf, trivial⟩ (by decide +kernel)
theorem yLk_13 {f : Nat → Option (Nat × Nat × (Nat → Value))} (hf : yFf f) {L : Nat} (hL : yFL f L) : yLKs f L 806 := yLK_of hf hL (T := [yC151, yC307]) (il := [281]) ⟨yC151_ok hf, yC307_ok hf, trivial⟩ (by decide +kernel)
theorem yLk_14 {f : Nat → Option (Nat × Nat × (Nat → Value))} (hf : yFf f) {L : Nat} (hL : yFL f L) : yLKs f L 834 := yLK_of hf hL (T := [yC152, yC308]) (il := [282]) ⟨yC152_ok hf, yC308_ok hf, trivial⟩ (by decide +kernel)
theorem yLk_15 {f : Nat → Option (Nat × Nat × (Nat → Value))} (hf : yFf f) {L : Nat} (hL : yFL f L) : yLKs f L 850 := yLK_of hf hL (T := [yC154, yC312]) (il := [283]) ⟨yC154_ok hf, yC312_ok hf, trivial⟩ (by decide +kernel)
theorem yLk_16 {f : Nat → Option (Nat × Nat × (Nat → Value))} (hf : yFf f) {L : Nat} (hL : yFL f L) : yLKs f L 878 := yLK_of hf hL (T := [yC155, yC313]) (il := [284]) ⟨yC155_ok hf, yC313_ok hf, trivial⟩ (by decide +kernel)
theorem yLk_17 {f : Nat → Option (Nat × Nat × (Nat → Value))} (hf : yFf f) {L : Nat} (hL : yFL f L) : yLKs f L 906 := yLK_of hf hL (T := [yC156, yC314]) (il := [285]) ⟨yC156_ok hf, yC314_ok hf, trivial⟩ (by decide +kernel)
