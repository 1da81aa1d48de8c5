/-! the law, whole -/
def yLps : List Nat := [204, 256, 329, 357, 385, 398, 438, 490, 558, 610, 674, 714, 742, 806, 834, 850, 878, 906, 934, 974, 1014, 1042, 1094, 1146, 1198, 1223, 1263, 1303, 1367, 1380, 1420, 1484, 1524, 1552, 1565, 1605, 1618, 1643]
theorem yLhd_ok : yLhd yLps = true := by decide +kernel
theorem yLps_ok {f : Nat → Option (Nat × Nat × (Nat → Value))} (hf : yFf f) {L : Nat} (hL : yFL f L) : ∀ pc ∈ yLps, yLKs f L pc := by
  intro pc h
  simp only [yLps, List.mem_cons, List.not_mem_nil, or_false] at h
  rcases h with rfl | rfl | rfl | rfl | rfl | rfl | rfl | rfl | rfl | rfl | rfl | rfl | rfl | rfl | rfl | rfl | rfl | rfl | rfl | rfl | rfl | rfl | rfl | rfl | rfl | rfl | rfl | rfl | rfl | rfl | rfl | rfl | rfl | rfl | rfl | rfl | rfl | rfl
  · exact yLKs_of hf hL (yLk_0 hf)
  · exact yLKs_of hf hL (yLk_1 hf)
  · exact yLKs_of hf hL (yLk_2 hf)
  · exact yLKs_of hf hL (yLk_3 hf)
  · exact yLKs_of hf hL (yLk_4 hf)
  · exact yLKs_of hf hL (yLk_5 hf)
  · exact yLKs_of hf hL (yLk_6 hf)
  · exact yLk_7s hf hL
  · exact yLKs_of hf hL (yLk_8 hf)
  · exact yLKs_of hf hL (yLk_9 hf)
  · exact yLKs_of hf hL (yLk_10 hf)
  · exact yLKs_of hf hL (yLk_11 hf)
  · exact yLKs_of hf hL (yLk_12 hf)
  · exact yLKs_of hf hL (yLk_13 hf)
  · exact yLKs_of hf hL (yLk_14 hf)
  · exact yLKs_of hf hL (yLk_15 hf)
  · exact yLKs_of hf hL (yLk_16 hf)
  · exact yLKs_of hf hL (yLk_17 hf)
  · exact yLKs_of hf hL (yLk_18 hf)
  · exact yLKs_of hf hL (yLk_19 hf)
  · exact yLKs_of hf hL (yLk_20 hf)
  · exact yLKs_of hf hL (yLk_21 hf)
  · exact yLKs_of hf hL (yLk_22 hf)
  · exact yLKs_of hf hL (yLk_23 hf)
  · exact yLKs_of hf hL (yLk_24 hf)
  · exact yLKs_of hf hL (yLk_25 hf)
  · exact yLKs_of hf hL (yLk_26 hf)
  · exact yLKs_of hf hL (yLk_27 hf)
  · exact yLKs_of hf hL (yLk_28 hf)
  · exact yLKs_of hf hL (yLk_29 hf)
  · exact yLKs_of hf hL (yLk_30 hf)
  · exact yLKs_of hf hL (yLk_31 hf)
  · exact yLKs_of hf hL (yLk_32 hf)
  · exact yLKs_of hf hL (yLk_33 hf)
  · exact yLKs_of hf hL (yLk_34 hf)
  · exact yLKs_of hf hL (yLk_35 hf)
  · exact yLKs_of hf hL (yLk_36 hf)
  · exact yLKs_of hf hL (yLk_d hf)
theorem yLaw {f : Nat → Option (Nat × Nat × (Nat → Value))} (hf : yFf f) {L : Nat} (hL : yFL f L) : ∃ n r, mrun (yEx f) n 1000 300 0 [(0, .ref 1000)] [] [] 0 0 = some r ∧ r.1 = .inr (some (.int 1)) ∧ r.2.2.1 ≤ 601024 ∧ r.2.2.2 ≤ 7293034 :=
  yStart (P := fun res => res.1 = .inr (some (.int 1)) ∧ res.2.2.1 ≤ 601024 ∧ res.2.2.2 ≤ 7293034) fun ls m nc ns hI h1 h2 => yLoop hf hL yLhd_ok (yLps_ok hf hL) 512 0 ls m nc ns (Int.le_refl _) (by decide) (by have := hL.1; omega) (by omega) (by omega) hI
