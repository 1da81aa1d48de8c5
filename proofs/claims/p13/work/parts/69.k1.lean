/-! calls of the law, kind by kind -/
theorem yLk_1 {f : Nat → Option (Nat × Nat × (Nat → Value))} (hf : yFf f) {L : Nat} (hL : yFL f L) : yLKs f L 256 := yLK_of hf hL (T := [yC2, yC172]) (il := []) ⟨yC2_ok hf, yC172_ok hf, trivial⟩ (by decide +kernel)
theorem yLk_2 {f : Nat → Option (Nat × Nat × (Nat → Value))} (hf : yFf f) {L : Nat} (hL : yFL f L) : yLKs f L 329 := yLK_of hf hL (T := [yC68, yC214]) (il := [271]) ⟨yC68_ok hf, yC214_ok hf, trivial⟩ (by decide +kernel)
theorem yLk_3 {f : Nat → Option (Nat × Nat × (Nat → Value))} (hf : yFf f) {L : Nat} (hL : yFL f L) : yLKs f L 357 := yLK_of hf hL (T := [yC107, yC296]) (il := [272]) ⟨yC107_ok hf, yC296_ok hf, trivial⟩ (by decide +kernel)
theorem yLk_4 {f : Nat → Option (Nat × Nat × (Nat → Value))} (hf : yFf f) {L : Nat} (hL : yFL f L) : yLKs f L 385 := yLK_of hf hL (T := [yC3, yC297]) (il := []) ⟨yC3_ok hf, yC297_ok hf, trivial⟩ (by decide +kernel)
theorem yLk_5 {f : Nat → Option (Nat × Nat × (Nat → Value))} (hf : yFf f) {L : Nat} (hL : yFL f L) : yLKs f L 398 := yLK_of hf hL (T := [yC143, yC331]) (il := [273]) ⟨yC143_ok hf, yC331_ok hf, trivial⟩ (by decide +kernel)
theorem yLk_6 {f : Nat → Option (Nat × Nat × (Nat → Value))} (hf : yFf f) {L : Nat} (hL : yFL f L) : yLKs f L 438 := yLK_of hf hL (T := [yC144, yC326]) (il := [274]) ⟨yC144_ok hf, yC326_ok hf, trivial⟩ (by decide +kernel)

theorem yLk_8 {f : Nat → Option (Nat × Nat × (Nat → Value))} (hf : yFf f) {L : Nat} (hL : yFL f L) : yLKs f L 530 := yLK_of hf hL (T := [yC146, yC304]) (il := [276]) ⟨yC146_ok hf, yC304_ok hf, trivial⟩ (by decide +kernel)
theorem yLk_9 {f : Nat → Option (Nat × Nat × (Nat → Value))} (hf : yFf f) {L : Nat} (hL : yFL f L) : yLKs f L 582 := yLK_of hf hL (T := [yC147, yC305]) (il := [277]) ⟨yC147_ok hf, yC305_ok hf, trivial⟩ (by decide +kernel)
