/-! burst out of its boxes -/
theorem zkin_12 (xs : Nat → Int32) (v : Int32) (hv : v.toInt = 12) : zKin xs v := by
  have i2 := zI32 (xs 1)
  rw [zI0e, zI1e] at i2
  rcases (show (xs 1).toInt ≤ (-1) ∨ 4 ≤ (xs 1).toInt ∨ (0 ≤ (xs 1).toInt ∧ (xs 1).toInt ≤ 3) by omega) with h2 | h2 | h2
  · exact zkq_ok zq_0 (by omega) (by omega) (zhb2 (e := (2, (-2147483648), (-1))) rfl (by dsimp only; omega) (by dsimp only; omega) zhb0)
  · exact zkq_ok zq_1 (by omega) (by omega) (zhb2 (e := (2, 4, 2147483647)) rfl (by dsimp only; omega) (by dsimp only; omega) zhb0)
  · have i3 := zI32 (xs 2)
    rw [zI0e, zI1e] at i3
    rcases (show (xs 2).toInt ≤ (-1) ∨ 4 ≤ (xs 2).toInt ∨ (xs 2).toInt = 0 ∨ (1 ≤ (xs 2).toInt ∧ (xs 2).toInt ≤ 3) by omega) with h3 | h3 | h3 | h3
    · exact zkq_ok zq_2 (by omega) (by omega) (zhb2 (e := (2, 0, 3)) rfl (by dsimp only; omega) (by dsimp only; omega) (zhb2 (e := (3, (-2147483648), (-1))) rfl (by dsimp only; omega) (by dsimp only; omega) zhb0))
    · exact zkq_ok zq_3 (by omega) (by omega) (zhb2 (e := (2, 0, 3)) rfl (by dsimp only; omega) (by dsimp only; omega) (zhb2 (e := (3, 4, 2147483647)) rfl (by dsimp only; omega) (by dsimp only; omega) zhb0))
    · have i4 := zI32 (xs 3)
      rw [zI0e, zI1e] at i4
      rcases (show (xs 3).toInt ≤ (-1) ∨ 4 ≤ (xs 3).toInt ∨ (xs 3).toInt = 0 ∨ (xs 3).toInt = 1 ∨ (xs 3).toInt = 2 ∨ (xs 3).toInt = 3 by omega) with h4 | h4 | h4 | h4 | h4 | h4
      · exact zkq_ok zq_4 (by omega) (by omega) (zhb2 (e := (2, 0, 3)) rfl (by dsimp only; omega) (by dsimp only; omega) (zhb2 (e := (3, 0, 0)) rfl (by dsimp only; omega) (by dsimp only; omega) (zhb2 (e := (4, (-2147483648), (-1))) rfl (by dsimp only; omega) (by dsimp only; omega) zhb0)))
      · exact zkq_ok zq_5 (by omega) (by omega) (zhb2 (e := (2, 0, 3)) rfl (by dsimp only; omega) (by dsimp only; omega) (zhb2 (e := (3, 0, 0)) rfl (by dsimp only; omega) (by dsimp only; omega) (zhb2 (e := (4, 4, 2147483647)) rfl (by dsimp only; omega) (by dsimp only; omega) zhb0)))
      · have i5 := zI32 (xs 4)
        rw [zI0e, zI1e] at i5
        rcases (show (xs 4).toInt ≤ 0 ∨ (1 ≤ (xs 4).toInt ∧ (xs 4).toInt ≤ 50) ∨ 51 ≤ (xs 4).toInt by omega) with h5 | h5 | h5
        · exact zkq_ok zq_6 (by omega) (by omega) (zhb2 (e := (2, 0, 3)) rfl (by dsimp only; omega) (by dsimp only; omega) (zhb2 (e := (3, 0, 0)) rfl (by dsimp only; omega) (by dsimp only; omega) (zhb2 (e := (4, 0, 0)) rfl (by dsimp only; omega) (by dsimp only; omega) (zhb2 (e := (5, (-2147483648), 0)) rfl (by dsimp only; omega) (by dsimp only; omega) zhb0))))
        · exact zkq_ok zq_7 (by omega) (by omega) (zhb2 (e := (2, 0, 3)) rfl (by dsimp only; omega) (by dsimp only; omega) (zhb2 (e := (3, 0, 0)) rfl (by dsimp only; omega) (by dsimp only; omega) (zhb2 (e := (4, 0, 0)) rfl (by dsimp only; omega) (by dsimp only; omega) (zhb2 (e := (5, 1, 50)) rfl (by dsimp only; omega) (by dsimp only; omega) zhb0))))
        · exact zkq_ok zq_8 (by omega) (by omega) (zhb2 (e := (2, 0, 3)) rfl (by dsimp only; omega) (by dsimp only; omega) (zhb2 (e := (3, 0, 0)) rfl (by dsimp only; omega) (by dsimp only; omega) (zhb2 (e := (4, 0, 0)) rfl (by dsimp only; omega) (by dsimp only; omega) (zhb2 (e := (5, 51, 2147483647)) rfl (by dsimp only; omega) (by dsimp only; omega) zhb0))))
      · have i5 := zI32 (xs 4)
        rw [zI0e, zI1e] at i5
        rcases (show (xs 4).toInt ≤ 0 ∨ (1 ≤ (xs 4).toInt ∧ (xs 4).toInt ≤ 50) ∨ 51 ≤ (xs 4).toInt by omega) with h5 | h5 | h5
        · exact zkq_ok zq_9 (by omega) (by omega) (zhb2 (e := (2, 0, 3)) rfl (by dsimp only; omega) (by dsimp only; omega) (zhb2 (e := (3, 0, 0)) rfl (by dsimp only; omega) (by dsimp only; omega) (zhb2 (e := (4, 1, 1)) rfl (by dsimp only; omega) (by dsimp only; omega) (zhb2 (e := (5, (-2147483648), 0)) rfl (by dsimp only; omega) (by dsimp only; omega) zhb0))))
        · exact zkq_ok zq_10 (by omega) (by omega) (zhb2 (e := (2, 0, 3)) rfl (by dsimp only; omega) (by dsimp only; omega) (zhb2 (e := (3, 0, 0)) rfl (by dsimp only; omega) (by dsimp only; omega) (zhb2 (e := (4, 1, 1)) rfl (by dsimp only; omega) (by dsimp only; omega) (zhb2 (e := (5, 1, 50)) rfl (by dsimp only; omega) (by dsimp only; omega) zhb0))))
        · exact zkq_ok zq_11 (by omega) (by omega) (zhb2 (e := (2, 0, 3)) rfl (by dsimp only; omega) (by dsimp only; omega) (zhb2 (e := (3, 0, 0)) rfl (by dsimp only; omega) (by dsimp only; omega) (zhb2 (e := (4, 1, 1)) rfl (by dsimp only; omega) (by dsimp only; omega) (zhb2 (e := (5, 51, 2147483647)) rfl (by dsimp only; omega) (by dsimp only; omega) zhb0))))
      · have i5 := zI32 (xs 4)
        rw [zI0e, zI1e] at i5
        rcases (show (xs 4).toInt ≤ 0 ∨ (1 ≤ (xs 4).toInt ∧ (xs 4).toInt ≤ 50) ∨ 51 ≤ (xs 4).toInt by omega) with h5 | h5 | h5
        · exact zkq_ok zq_12 (by omega) (by omega) (zhb2 (e := (2, 0, 3)) rfl (by dsimp only; omega) (by dsimp only; omega) (zhb2 (e := (3, 0, 0)) rfl (by dsimp only; omega) (by dsimp only; omega) (zhb2 (e := (4, 2, 2)) rfl (by dsimp only; omega) (by dsimp only; omega) (zhb2 (e := (5, (-2147483648), 0)) rfl (by dsimp only; omega) (by dsimp only; omega) zhb0))))
        · exact zkq_ok zq_13 (by omega) (by omega) (zhb2 (e := (2, 0, 3)) rfl (by dsimp only; omega) (by dsimp only; omega) (zhb2 (e := (3, 0, 0)) rfl (by dsimp only; omega) (by dsimp only; omega) (zhb2 (e := (4, 2, 2)) rfl (by dsimp only; omega) (by dsimp only; omega) (zhb2 (e := (5, 1, 50)) rfl (by dsimp only; omega) (by dsimp only; omega) zhb0))))
        · exact zkq_ok zq_14 (by omega) (by omega) (zhb2 (e := (2, 0, 3)) rfl (by dsimp only; omega) (by dsimp only; omega) (zhb2 (e := (3, 0, 0)) rfl (by dsimp only; omega) (by dsimp only; omega) (zhb2 (e := (4, 2, 2)) rfl (by dsimp only; omega) (by dsimp only; omega) (zhb2 (e := (5, 51, 2147483647)) rfl (by dsimp only; omega) (by dsimp only; omega) zhb0))))
      · have i5 := zI32 (xs 4)
        rw [zI0e, zI1e] at i5
        rcases (show (xs 4).toInt ≤ 0 ∨ (1 ≤ (xs 4).toInt ∧ (xs 4).toInt ≤ 50) ∨ 51 ≤ (xs 4).toInt by omega) with h5 | h5 | h5
        · exact zkq_ok zq_15 (by omega) (by omega) (zhb2 (e := (2, 0, 3)) rfl (by dsimp only; omega) (by dsimp only; omega) (zhb2 (e := (3, 0, 0)) rfl (by dsimp only; omega) (by dsimp only; omega) (zhb2 (e := (4, 3, 3)) rfl (by dsimp only; omega) (by dsimp only; omega) (zhb2 (e := (5, (-2147483648), 0)) rfl (by dsimp only; omega) (by dsimp only; omega) zhb0))))
        · exact zkq_ok zq_16 (by omega) (by omega) (zhb2 (e := (2, 0, 3)) rfl (by dsimp only; omega) (by dsimp only; omega) (zhb2 (e := (3, 0, 0)) rfl (by dsimp only; omega) (by dsimp only; omega) (zhb2 (e := (4, 3, 3)) rfl (by dsimp only; omega) (by dsimp only; omega) (zhb2 (e := (5, 1, 50)) rfl (by dsimp only; omega) (by dsimp only; omega) zhb0))))
        · exact zkq_ok zq_17 (by omega) (by omega) (zhb2 (e := (2, 0, 3)) rfl (by dsimp only; omega) (by dsimp only; omega) (zhb2 (e := (3, 0, 0)) rfl (by dsimp only; omega) (by dsimp only; omega) (zhb2 (e := (4, 3, 3)) rfl (by dsimp only; omega) (by dsimp only; omega) (zhb2 (e := (5, 51, 2147483647)) rfl (by dsimp only; omega) (by dsimp only; omega) zhb0))))
    · have i4 := zI32 (xs 3)
      rw [zI0e, zI1e] at i4
      rcases (show (xs 3).toInt ≤ (-1) ∨ 4 ≤ (xs 3).toInt ∨ (xs 3).toInt = 0 ∨ (xs 3).toInt = 1 ∨ (xs 3).toInt = 2 ∨ (xs 3).toInt = 3 by omega) with h4 | h4 | h4 | h4 | h4 | h4
      · exact zkq_ok zq_18 (by omega) (by omega) (zhb2 (e := (2, 0, 3)) rfl (by dsimp only; omega) (by dsimp only; omega) (zhb2 (e := (3, 1, 3)) rfl (by dsimp only; omega) (by dsimp only; omega) (zhb2 (e := (4, (-2147483648), (-1))) rfl (by dsimp only; omega) (by dsimp only; omega) zhb0)))
      · exact zkq_ok zq_19 (by omega) (by omega) (zhb2 (e := (2, 0, 3)) rfl (by dsimp only; omega) (by dsimp only; omega) (zhb2 (e := (3, 1, 3)) rfl (by dsimp only; omega) (by dsimp only; omega) (zhb2 (e := (4, 4, 2147483647)) rfl (by dsimp only; omega) (by dsimp only; omega) zhb0)))
      · have i5 := zI32 (xs 4)
        rw [zI0e, zI1e] at i5
        rcases (show (xs 4).toInt ≤ 0 ∨ (1 ≤ (xs 4).toInt ∧ (xs 4).toInt ≤ 50) ∨ 51 ≤ (xs 4).toInt by omega) with h5 | h5 | h5
        · exact zkq_ok zq_20 (by omega) (by omega) (zhb2 (e := (2, 0, 3)) rfl (by dsimp only; omega) (by dsimp only; omega) (zhb2 (e := (3, 1, 3)) rfl (by dsimp only; omega) (by dsimp only; omega) (zhb2 (e := (4, 0, 0)) rfl (by dsimp only; omega) (by dsimp only; omega) (zhb2 (e := (5, (-2147483648), 0)) rfl (by dsimp only; omega) (by dsimp only; omega) zhb0))))
        · exact zkq_ok zq_21 (by omega) (by omega) (zhb2 (e := (2, 0, 3)) rfl (by dsimp only; omega) (by dsimp only; omega) (zhb2 (e := (3, 1, 3)) rfl (by dsimp only; omega) (by dsimp only; omega) (zhb2 (e := (4, 0, 0)) rfl (by dsimp only; omega) (by dsimp only; omega) (zhb2 (e := (5, 1, 50)) rfl (by dsimp only; omega) (by dsimp only; omega) zhb0))))
        · exact zkq_ok zq_22 (by omega) (by omega) (zhb2 (e := (2, 0, 3)) rfl (by dsimp only; omega) (by dsimp only; omega) (zhb2 (e := (3, 1, 3)) rfl (by dsimp only; omega) (by dsimp only; omega) (zhb2 (e := (4, 0, 0)) rfl (by dsimp only; omega) (by dsimp only; omega) (zhb2 (e := (5, 51, 2147483647)) rfl (by dsimp only; omega) (by dsimp only; omega) zhb0))))
      · have i5 := zI32 (xs 4)
        rw [zI0e, zI1e] at i5
        rcases (show (xs 4).toInt ≤ 0 ∨ (1 ≤ (xs 4).toInt ∧ (xs 4).toInt ≤ 50) ∨ 51 ≤ (xs 4).toInt by omega) with h5 | h5 | h5
        · exact zkq_ok zq_23 (by omega) (by omega) (zhb2 (e := (2, 0, 3)) rfl (by dsimp only; omega) (by dsimp only; omega) (zhb2 (e := (3, 1, 3)) rfl (by dsimp only; omega) (by dsimp only; omega) (zhb2 (e := (4, 1, 1)) rfl (by dsimp only; omega) (by dsimp only; omega) (zhb2 (e := (5, (-2147483648), 0)) rfl (by dsimp only; omega) (by dsimp only; omega) zhb0))))
        · exact zkq_ok zq_24 (by omega) (by omega) (zhb2 (e := (2, 0, 3)) rfl (by dsimp only; omega) (by dsimp only; omega) (zhb2 (e := (3, 1, 3)) rfl (by dsimp only; omega) (by dsimp only; omega) (zhb2 (e := (4, 1, 1)) rfl (by dsimp only; omega) (by dsimp only; omega) (zhb2 (e := (5, 1, 50)) rfl (by dsimp only; omega) (by dsimp only; omega) zhb0))))
        · exact zkq_ok zq_25 (by omega) (by omega) (zhb2 (e := (2, 0, 3)) rfl (by dsimp only; omega) (by dsimp only; omega) (zhb2 (e := (3, 1, 3)) rfl (by dsimp only; omega) (by dsimp only; omega) (zhb2 (e := (4, 1, 1)) rfl (by dsimp only; omega) (by dsimp only; omega) (zhb2 (e := (5, 51, 2147483647)) rfl (by dsimp only; omega) (by dsimp only; omega) zhb0))))
      · have i5 := zI32 (xs 4)
        rw [zI0e, zI1e] at i5
        rcases (show (xs 4).toInt ≤ 0 ∨ (1 ≤ (xs 4).toInt ∧ (xs 4).toInt ≤ 50) ∨ 51 ≤ (xs 4).toInt by omega) with h5 | h5 | h5
        · exact zkq_ok zq_26 (by omega) (by omega) (zhb2 (e := (2, 0, 3)) rfl (by dsimp only; omega) (by dsimp only; omega) (zhb2 (e := (3, 1, 3)) rfl (by dsimp only; omega) (by dsimp only; omega) (zhb2 (e := (4, 2, 2)) rfl (by dsimp only; omega) (by dsimp only; omega) (zhb2 (e := (5, (-2147483648), 0)) rfl (by dsimp only; omega) (by dsimp only; omega) zhb0))))
        · exact zkq_ok zq_27 (by omega) (by omega) (zhb2 (e := (2, 0, 3)) rfl (by dsimp only; omega) (by dsimp only; omega) (zhb2 (e := (3, 1, 3)) rfl (by dsimp only; omega) (by dsimp only; omega) (zhb2 (e := (4, 2, 2)) rfl (by dsimp only; omega) (by dsimp only; omega) (zhb2 (e := (5, 1, 50)) rfl (by dsimp only; omega) (by dsimp only; omega) zhb0))))
        · exact zkq_ok zq_28 (by omega) (by omega) (zhb2 (e := (2, 0, 3)) rfl (by dsimp only; omega) (by dsimp only; omega) (zhb2 (e := (3, 1, 3)) rfl (by dsimp only; omega) (by dsimp only; omega) (zhb2 (e := (4, 2, 2)) rfl (by dsimp only; omega) (by dsimp only; omega) (zhb2 (e := (5, 51, 2147483647)) rfl (by dsimp only; omega) (by dsimp only; omega) zhb0))))
      · have i5 := zI32 (xs 4)
        rw [zI0e, zI1e] at i5
        rcases (show (xs 4).toInt ≤ 0 ∨ (1 ≤ (xs 4).toInt ∧ (xs 4).toInt ≤ 50) ∨ 51 ≤ (xs 4).toInt by omega) with h5 | h5 | h5
        · exact zkq_ok zq_29 (by omega) (by omega) (zhb2 (e := (2, 0, 3)) rfl (by dsimp only; omega) (by dsimp only; omega) (zhb2 (e := (3, 1, 3)) rfl (by dsimp only; omega) (by dsimp only; omega) (zhb2 (e := (4, 3, 3)) rfl (by dsimp only; omega) (by dsimp only; omega) (zhb2 (e := (5, (-2147483648), 0)) rfl (by dsimp only; omega) (by dsimp only; omega) zhb0))))
        · exact zkq_ok zq_30 (by omega) (by omega) (zhb2 (e := (2, 0, 3)) rfl (by dsimp only; omega) (by dsimp only; omega) (zhb2 (e := (3, 1, 3)) rfl (by dsimp only; omega) (by dsimp only; omega) (zhb2 (e := (4, 3, 3)) rfl (by dsimp only; omega) (by dsimp only; omega) (zhb2 (e := (5, 1, 50)) rfl (by dsimp only; omega) (by dsimp only; omega) zhb0))))
        · exact zkq_ok zq_31 (by omega) (by omega) (zhb2 (e := (2, 0, 3)) rfl (by dsimp only; omega) (by dsimp only; omega) (zhb2 (e := (3, 1, 3)) rfl (by dsimp only; omega) (by dsimp only; omega) (zhb2 (e := (4, 3, 3)) rfl (by dsimp only; omega) (by dsimp only; omega) (zhb2 (e := (5, 51, 2147483647)) rfl (by dsimp only; omega) (by dsimp only; omega) zhb0))))
