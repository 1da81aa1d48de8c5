/-! the law, whole -/
def yLps : List Nat := [204, 256, 329, 357, 385, 398, 438, 490, 530, 582, 646, 686, 742, 806, 834, 850, 878, 906, 934, 974, 1014, 1042, 1094, 1146, 1198, 1223, 1263, 1303, 1367, 1380, 1420, 1484, 1524, 1552, 1565, 1605, 1618, 1643]
theorem yLhd_ok : yLhd yLps = true := by decide +kernel
theorem yLps_ok {f : Nat → Option (Nat × Nat × (Nat → Value))} (hf : yFf f) {L : Nat} (hL : yFL f L) : ∀ pc ∈ yLps, yLKs f L pc := by
  intro pc h
  simp only [yLps, List.mem_cons, List.not_mem_nil, or_false] at h
  rcases h with rfl | rfl | rfl | rfl | rfl | rfl | rfl | rfl | rfl | rfl | rfl | rfl | rfl | rfl | rfl | rfl | rfl | rfl | rfl | rfl | rfl | rfl | rfl | rfl | rfl | rfl | rfl | rfl | rfl | rfl | rfl | rfl | rfl | rfl | rfl | rfl | rfl | rfl
  · exact yLk_0 hf hL
  · exact yLk_1 hf hL
  · exact yLk_2 hf hL
  · exact yLk_3 hf hL
  · exact yLk_4 hf hL
  · exact yLk_5 hf hL
  · exact yLk_6 hf hL
  · exact yLk_7 hf hL
  · exact yLk_8 hf hL
  · exact yLk_9 hf hL
  · exact yLk_10 hf hL
  · exact yLk_11 hf hL
  · exact yLk_12 hf hL
  · exact yLk_13 hf hL
  · exact yLk_14 hf hL
  · exact yLk_15 hf hL
  · exact yLk_16 hf hL
  · exact yLk_17 hf hL
  · exact yLk_18 hf hL
  · exact yLk_19 hf hL
  · exact yLk_20 hf hL
  · exact yLk_21 hf hL
  · exact yLk_22 hf hL
  · exact yLk_23 hf hL
  · exact yLk_24 hf hL
  · exact yLk_25 hf hL
  · exact yLk_26 hf hL
  · exact yLk_27 hf hL
  · exact yLk_28 hf hL
  · exact yLk_29 hf hL
  · exact yLk_30 hf hL
  · exact yLk_31 hf hL
  · exact yLk_32 hf hL
  · exact yLk_33 hf hL
  · exact yLk_34 hf hL
  · exact yLk_35 hf hL
  · exact yLk_36 hf hL
  · exact yLk_d hf hL
theorem yLaw {f : Nat → Option (Nat × Nat × (Nat → Value))} (hf : yFf f) {L : Nat} (hL : yFL f L) : ∃ n r, mrun (yEx f) n 1000 300 0 [(0, .ref 1000)] [] [] 0 0 = some r ∧ r.1 = .inr (some (.int 1)) ∧ r.2.2.1 ≤ 601024 ∧ r.2.2.2 ≤ 7293034 :=
  yStart (P := fun res => res.1 = .inr (some (.int 1)) ∧ res.2.2.1 ≤ 601024 ∧ res.2.2.2 ≤ 7293034) fun ls m nc ns hI h1 h2 => yLoop hf hL yLhd_ok (yLps_ok hf hL) 512 0 ls m nc ns (Int.le_refl _) (by decide) (by have := hL.1; omega) (by omega) (by omega) hI
