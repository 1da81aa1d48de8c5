/-! calls of the law, kind by kind -/
theorem yLk_18 {f : Nat → Option (Nat × Nat × (Nat → Value))} (hf : yFf f) {L : Nat} (hL : yFL f L) : yLKs f L 934 := yLK_of hf hL (T := [yC157, yC315]) (il := [286]) ⟨yC157_ok hf, yC315_ok hf, trivial⟩ (by decide +kernel)
theorem yLk_19 {f : Nat → Option (Nat × Nat × (Nat → Value))} (hf : yFf f) {L : Nat} (hL : yFL f L) : yLKs f L 974 := yLK_of hf hL (T := [yC158, yC316]) (il := [287]) ⟨yC158_ok hf, yC316_ok hf, trivial⟩ (by decide +kernel)
theorem yLk_20 {f : Nat → Option (Nat × Nat × (Nat → Value))} (hf : yFf f) {L : Nat} (hL : yFL f L) : yLKs f L 1014 := yLK_of hf hL (T := [yC159, yC317]) (il := [288]) ⟨yC159_ok hf, yC317_ok hf, trivial⟩ (by decide +kernel)
theorem yLk_21 {f : Nat → Option (Nat × Nat × (Nat → Value))} (hf : yFf f) {L : Nat} (hL : yFL f L) : yLKs f L 1042 := yLK_of hf hL (T := [yC160, yC318]) (il := [289]) ⟨yC160_ok hf, yC318_ok hf, trivial⟩ (by decide +kernel)
theorem yLk_22 {f : Nat → Option (Nat × Nat × (Nat → Value))} (hf : yFf f) {L : Nat} (hL : yFL f L) : yLKs f L 1094 := yLK_of hf hL (T := [yC161, yC319]) (il := [290]) ⟨yC161_ok hf, yC319_ok hf, trivial⟩ (by decide +kernel)
theorem yLk_23 {f : Nat → Option (Nat × Nat × (Nat → Value))} (hf : yFf f) {L : Nat} (hL : yFL f L) : yLKs f L 1146 := yLK_of hf hL (T := [yC162, yC320]) (il := [291]) ⟨yC162_ok hf, yC320_ok hf, trivial⟩ (by decide +kernel)
theorem yLk_24 {f : Nat → Option (Nat × Nat × (Nat → Value))} (hf : yFf f) {L : Nat} (hL : yFL f L) : yLKs f L 1198 := yLK_of hf hL (T := [yC4, yC321]) (il := []) ⟨yC4_ok hf, yC321_ok hf, trivial⟩ (by decide +kernel)
