/-! each kind out of its boxes -/
theorem zhb1 {xs : Nat → Int32} {v : Int32} {e : Nat × Int × Int} {u : Int} (h : (zr8 xs v)[e.1]? = some u) (h1 : e.2.1 ≤ u) (h2 : u ≤ e.2.2) : ∀ e' ∈ [e], ∃ u, (zr8 xs v)[e'.1]? = some u ∧ e'.2.1 ≤ u ∧ u ≤ e'.2.2 := fun e' he => by rcases List.mem_singleton.mp he with rfl; exact ⟨u, h, h1, h2⟩
theorem zhb2 {xs : Nat → Int32} {v : Int32} {e : Nat × Int × Int} {l : zB} {u : Int} (h : (zr8 xs v)[e.1]? = some u) (h1 : e.2.1 ≤ u) (h2 : u ≤ e.2.2) (hl : ∀ e' ∈ l, ∃ u, (zr8 xs v)[e'.1]? = some u ∧ e'.2.1 ≤ u ∧ u ≤ e'.2.2) : ∀ e' ∈ e :: l, ∃ u, (zr8 xs v)[e'.1]? = some u ∧ e'.2.1 ≤ u ∧ u ≤ e'.2.2 := fun e' he => by
  rcases List.mem_cons.mp he with rfl | he
  · exact ⟨u, h, h1, h2⟩
  · exact hl e' he
theorem zhb0 {xs : Nat → Int32} {v : Int32} : ∀ e' ∈ ([] : zB), ∃ u, (zr8 xs v)[e'.1]? = some u ∧ e'.2.1 ≤ u ∧ u ≤ e'.2.2 := fun e' he => by cases he
theorem zkin_0 (xs : Nat → Int32) (v : Int32) (hv : v.toInt = 0) : zKin xs v := by
  exact zkc_ok zk_0_0 (by omega) (by omega) zhb0
theorem zkin_1 (xs : Nat → Int32) (v : Int32) (hv : v.toInt = 1) : zKin xs v := by
  exact zkc_ok zk_1_0 (by omega) (by omega) zhb0
theorem zkin_2 (xs : Nat → Int32) (v : Int32) (hv : v.toInt = 2) : zKin xs v := by
  exact zkc_ok zk_2_0 (by omega) (by omega) zhb0
theorem zkin_3 (xs : Nat → Int32) (v : Int32) (hv : v.toInt = 3) : zKin xs v := by
  exact zkc_ok zk_3_0 (by omega) (by omega) zhb0
theorem zkin_4 (xs : Nat → Int32) (v : Int32) (hv : v.toInt = 4) : zKin xs v := by
  exact zkc_ok zk_4_0 (by omega) (by omega) zhb0
theorem zkin_5 (xs : Nat → Int32) (v : Int32) (hv : v.toInt = 5) : zKin xs v := by
  exact zkc_ok zk_5_0 (by omega) (by omega) zhb0
theorem zkin_6 (xs : Nat → Int32) (v : Int32) (hv : v.toInt = 6) : zKin xs v := by
  have i2 := zI32 (xs 1)
  rw [zI0e, zI1e] at i2
  rcases (show (xs 1).toInt ≤ (-1) ∨ (xs 1).toInt = 0 ∨ (xs 1).toInt = 1 ∨ (xs 1).toInt = 2 ∨ (xs 1).toInt = 3 ∨ 4 ≤ (xs 1).toInt by omega) with h2 | h2 | h2 | h2 | h2 | h2
  · exact zkc_ok zk_6_0 (by omega) (by omega) (zhb2 (e := (2, (-2147483648), (-1))) rfl (by dsimp only; omega) (by dsimp only; omega) zhb0)
  · have i4 := zI32 (xs 3)
    rw [zI0e, zI1e] at i4
    rcases (show (xs 3).toInt ≤ (-1) ∨ (xs 3).toInt = 0 ∨ (xs 3).toInt = 1 ∨ (xs 3).toInt = 2 ∨ (xs 3).toInt = 3 ∨ 4 ≤ (xs 3).toInt by omega) with h4 | h4 | h4 | h4 | h4 | h4
    · exact zkc_ok zk_6_1 (by omega) (by omega) (zhb2 (e := (2, 0, 0)) rfl (by dsimp only; omega) (by dsimp only; omega) (zhb2 (e := (4, (-2147483648), (-1))) rfl (by dsimp only; omega) (by dsimp only; omega) zhb0))
    · exact zkc_ok zk_6_2 (by omega) (by omega) (zhb2 (e := (2, 0, 0)) rfl (by dsimp only; omega) (by dsimp only; omega) (zhb2 (e := (4, 0, 0)) rfl (by dsimp only; omega) (by dsimp only; omega) zhb0))
    · exact zkc_ok zk_6_3 (by omega) (by omega) (zhb2 (e := (2, 0, 0)) rfl (by dsimp only; omega) (by dsimp only; omega) (zhb2 (e := (4, 1, 1)) rfl (by dsimp only; omega) (by dsimp only; omega) zhb0))
    · exact zkc_ok zk_6_4 (by omega) (by omega) (zhb2 (e := (2, 0, 0)) rfl (by dsimp only; omega) (by dsimp only; omega) (zhb2 (e := (4, 2, 2)) rfl (by dsimp only; omega) (by dsimp only; omega) zhb0))
    · exact zkc_ok zk_6_5 (by omega) (by omega) (zhb2 (e := (2, 0, 0)) rfl (by dsimp only; omega) (by dsimp only; omega) (zhb2 (e := (4, 3, 3)) rfl (by dsimp only; omega) (by dsimp only; omega) zhb0))
    · exact zkc_ok zk_6_6 (by omega) (by omega) (zhb2 (e := (2, 0, 0)) rfl (by dsimp only; omega) (by dsimp only; omega) (zhb2 (e := (4, 4, 2147483647)) rfl (by dsimp only; omega) (by dsimp only; omega) zhb0))
  · have i4 := zI32 (xs 3)
    rw [zI0e, zI1e] at i4
    rcases (show (xs 3).toInt ≤ (-1) ∨ (xs 3).toInt = 0 ∨ (xs 3).toInt = 1 ∨ (xs 3).toInt = 2 ∨ (xs 3).toInt = 3 ∨ 4 ≤ (xs 3).toInt by omega) with h4 | h4 | h4 | h4 | h4 | h4
    · exact zkc_ok zk_6_7 (by omega) (by omega) (zhb2 (e := (2, 1, 1)) rfl (by dsimp only; omega) (by dsimp only; omega) (zhb2 (e := (4, (-2147483648), (-1))) rfl (by dsimp only; omega) (by dsimp only; omega) zhb0))
    · exact zkc_ok zk_6_8 (by omega) (by omega) (zhb2 (e := (2, 1, 1)) rfl (by dsimp only; omega) (by dsimp only; omega) (zhb2 (e := (4, 0, 0)) rfl (by dsimp only; omega) (by dsimp only; omega) zhb0))
    · exact zkc_ok zk_6_9 (by omega) (by omega) (zhb2 (e := (2, 1, 1)) rfl (by dsimp only; omega) (by dsimp only; omega) (zhb2 (e := (4, 1, 1)) rfl (by dsimp only; omega) (by dsimp only; omega) zhb0))
    · exact zkc_ok zk_6_10 (by omega) (by omega) (zhb2 (e := (2, 1, 1)) rfl (by dsimp only; omega) (by dsimp only; omega) (zhb2 (e := (4, 2, 2)) rfl (by dsimp only; omega) (by dsimp only; omega) zhb0))
    · exact zkc_ok zk_6_11 (by omega) (by omega) (zhb2 (e := (2, 1, 1)) rfl (by dsimp only; omega) (by dsimp only; omega) (zhb2 (e := (4, 3, 3)) rfl (by dsimp only; omega) (by dsimp only; omega) zhb0))
    · exact zkc_ok zk_6_12 (by omega) (by omega) (zhb2 (e := (2, 1, 1)) rfl (by dsimp only; omega) (by dsimp only; omega) (zhb2 (e := (4, 4, 2147483647)) rfl (by dsimp only; omega) (by dsimp only; omega) zhb0))
  · have i4 := zI32 (xs 3)
    rw [zI0e, zI1e] at i4
    rcases (show (xs 3).toInt ≤ (-1) ∨ (xs 3).toInt = 0 ∨ (xs 3).toInt = 1 ∨ (xs 3).toInt = 2 ∨ (xs 3).toInt = 3 ∨ 4 ≤ (xs 3).toInt by omega) with h4 | h4 | h4 | h4 | h4 | h4
    · exact zkc_ok zk_6_13 (by omega) (by omega) (zhb2 (e := (2, 2, 2)) rfl (by dsimp only; omega) (by dsimp only; omega) (zhb2 (e := (4, (-2147483648), (-1))) rfl (by dsimp only; omega) (by dsimp only; omega) zhb0))
    · exact zkc_ok zk_6_14 (by omega) (by omega) (zhb2 (e := (2, 2, 2)) rfl (by dsimp only; omega) (by dsimp only; omega) (zhb2 (e := (4, 0, 0)) rfl (by dsimp only; omega) (by dsimp only; omega) zhb0))
    · exact zkc_ok zk_6_15 (by omega) (by omega) (zhb2 (e := (2, 2, 2)) rfl (by dsimp only; omega) (by dsimp only; omega) (zhb2 (e := (4, 1, 1)) rfl (by dsimp only; omega) (by dsimp only; omega) zhb0))
    · exact zkc_ok zk_6_16 (by omega) (by omega) (zhb2 (e := (2, 2, 2)) rfl (by dsimp only; omega) (by dsimp only; omega) (zhb2 (e := (4, 2, 2)) rfl (by dsimp only; omega) (by dsimp only; omega) zhb0))
    · exact zkc_ok zk_6_17 (by omega) (by omega) (zhb2 (e := (2, 2, 2)) rfl (by dsimp only; omega) (by dsimp only; omega) (zhb2 (e := (4, 3, 3)) rfl (by dsimp only; omega) (by dsimp only; omega) zhb0))
    · exact zkc_ok zk_6_18 (by omega) (by omega) (zhb2 (e := (2, 2, 2)) rfl (by dsimp only; omega) (by dsimp only; omega) (zhb2 (e := (4, 4, 2147483647)) rfl (by dsimp only; omega) (by dsimp only; omega) zhb0))
  · have i4 := zI32 (xs 3)
    rw [zI0e, zI1e] at i4
    rcases (show (xs 3).toInt ≤ (-1) ∨ (xs 3).toInt = 0 ∨ (xs 3).toInt = 1 ∨ (xs 3).toInt = 2 ∨ (xs 3).toInt = 3 ∨ 4 ≤ (xs 3).toInt by omega) with h4 | h4 | h4 | h4 | h4 | h4
    · exact zkc_ok zk_6_19 (by omega) (by omega) (zhb2 (e := (2, 3, 3)) rfl (by dsimp only; omega) (by dsimp only; omega) (zhb2 (e := (4, (-2147483648), (-1))) rfl (by dsimp only; omega) (by dsimp only; omega) zhb0))
    · exact zkc_ok zk_6_20 (by omega) (by omega) (zhb2 (e := (2, 3, 3)) rfl (by dsimp only; omega) (by dsimp only; omega) (zhb2 (e := (4, 0, 0)) rfl (by dsimp only; omega) (by dsimp only; omega) zhb0))
    · exact zkc_ok zk_6_21 (by omega) (by omega) (zhb2 (e := (2, 3, 3)) rfl (by dsimp only; omega) (by dsimp only; omega) (zhb2 (e := (4, 1, 1)) rfl (by dsimp only; omega) (by dsimp only; omega) zhb0))
    · exact zkc_ok zk_6_22 (by omega) (by omega) (zhb2 (e := (2, 3, 3)) rfl (by dsimp only; omega) (by dsimp only; omega) (zhb2 (e := (4, 2, 2)) rfl (by dsimp only; omega) (by dsimp only; omega) zhb0))
    · exact zkc_ok zk_6_23 (by omega) (by omega) (zhb2 (e := (2, 3, 3)) rfl (by dsimp only; omega) (by dsimp only; omega) (zhb2 (e := (4, 3, 3)) rfl (by dsimp only; omega) (by dsimp only; omega) zhb0))
    · exact zkc_ok zk_6_24 (by omega) (by omega) (zhb2 (e := (2, 3, 3)) rfl (by dsimp only; omega) (by dsimp only; omega) (zhb2 (e := (4, 4, 2147483647)) rfl (by dsimp only; omega) (by dsimp only; omega) zhb0))
  · exact zkc_ok zk_6_25 (by omega) (by omega) (zhb2 (e := (2, 4, 2147483647)) rfl (by dsimp only; omega) (by dsimp only; omega) zhb0)
theorem zkin_7 (xs : Nat → Int32) (v : Int32) (hv : v.toInt = 7) : zKin xs v := by
  have i2 := zI32 (xs 1)
  rw [zI0e, zI1e] at i2
  rcases (show (xs 1).toInt ≤ (-1) ∨ (xs 1).toInt = 0 ∨ (xs 1).toInt = 1 ∨ (xs 1).toInt = 2 ∨ (xs 1).toInt = 3 ∨ (xs 1).toInt = 4 ∨ (xs 1).toInt = 5 ∨ (xs 1).toInt = 6 ∨ 7 ≤ (xs 1).toInt by omega) with h2 | h2 | h2 | h2 | h2 | h2 | h2 | h2 | h2
  · exact zkc_ok zk_7_0 (by omega) (by omega) (zhb2 (e := (2, (-2147483648), (-1))) rfl (by dsimp only; omega) (by dsimp only; omega) zhb0)
  · exact zkc_ok zk_7_1 (by omega) (by omega) (zhb2 (e := (2, 0, 0)) rfl (by dsimp only; omega) (by dsimp only; omega) zhb0)
  · exact zkc_ok zk_7_2 (by omega) (by omega) (zhb2 (e := (2, 1, 1)) rfl (by dsimp only; omega) (by dsimp only; omega) zhb0)
  · exact zkc_ok zk_7_3 (by omega) (by omega) (zhb2 (e := (2, 2, 2)) rfl (by dsimp only; omega) (by dsimp only; omega) zhb0)
  · exact zkc_ok zk_7_4 (by omega) (by omega) (zhb2 (e := (2, 3, 3)) rfl (by dsimp only; omega) (by dsimp only; omega) zhb0)
  · exact zkc_ok zk_7_5 (by omega) (by omega) (zhb2 (e := (2, 4, 4)) rfl (by dsimp only; omega) (by dsimp only; omega) zhb0)
  · exact zkc_ok zk_7_6 (by omega) (by omega) (zhb2 (e := (2, 5, 5)) rfl (by dsimp only; omega) (by dsimp only; omega) zhb0)
  · exact zkc_ok zk_7_7 (by omega) (by omega) (zhb2 (e := (2, 6, 6)) rfl (by dsimp only; omega) (by dsimp only; omega) zhb0)
  · exact zkc_ok zk_7_8 (by omega) (by omega) (zhb2 (e := (2, 7, 2147483647)) rfl (by dsimp only; omega) (by dsimp only; omega) zhb0)
theorem zkin_8 (xs : Nat → Int32) (v : Int32) (hv : v.toInt = 8) : zKin xs v := by
  have i2 := zI32 (xs 1)
  rw [zI0e, zI1e] at i2
  rcases (show (xs 1).toInt ≤ (-1) ∨ (xs 1).toInt = 0 ∨ (xs 1).toInt = 1 ∨ (xs 1).toInt = 2 ∨ (xs 1).toInt = 3 ∨ 4 ≤ (xs 1).toInt by omega) with h2 | h2 | h2 | h2 | h2 | h2
  · exact zkc_ok zk_8_0 (by omega) (by omega) (zhb2 (e := (2, (-2147483648), (-1))) rfl (by dsimp only; omega) (by dsimp only; omega) zhb0)
  · have i4 := zI32 (xs 3)
    rw [zI0e, zI1e] at i4
    rcases (show (xs 3).toInt ≤ (-1) ∨ (xs 3).toInt = 0 ∨ (xs 3).toInt = 1 ∨ (xs 3).toInt = 2 ∨ (xs 3).toInt = 3 ∨ 4 ≤ (xs 3).toInt by omega) with h4 | h4 | h4 | h4 | h4 | h4
    · exact zkc_ok zk_8_1 (by omega) (by omega) (zhb2 (e := (2, 0, 0)) rfl (by dsimp only; omega) (by dsimp only; omega) (zhb2 (e := (4, (-2147483648), (-1))) rfl (by dsimp only; omega) (by dsimp only; omega) zhb0))
    · exact zkc_ok zk_8_2 (by omega) (by omega) (zhb2 (e := (2, 0, 0)) rfl (by dsimp only; omega) (by dsimp only; omega) (zhb2 (e := (4, 0, 0)) rfl (by dsimp only; omega) (by dsimp only; omega) zhb0))
    · exact zkc_ok zk_8_3 (by omega) (by omega) (zhb2 (e := (2, 0, 0)) rfl (by dsimp only; omega) (by dsimp only; omega) (zhb2 (e := (4, 1, 1)) rfl (by dsimp only; omega) (by dsimp only; omega) zhb0))
    · exact zkc_ok zk_8_4 (by omega) (by omega) (zhb2 (e := (2, 0, 0)) rfl (by dsimp only; omega) (by dsimp only; omega) (zhb2 (e := (4, 2, 2)) rfl (by dsimp only; omega) (by dsimp only; omega) zhb0))
    · exact zkc_ok zk_8_5 (by omega) (by omega) (zhb2 (e := (2, 0, 0)) rfl (by dsimp only; omega) (by dsimp only; omega) (zhb2 (e := (4, 3, 3)) rfl (by dsimp only; omega) (by dsimp only; omega) zhb0))
    · exact zkc_ok zk_8_6 (by omega) (by omega) (zhb2 (e := (2, 0, 0)) rfl (by dsimp only; omega) (by dsimp only; omega) (zhb2 (e := (4, 4, 2147483647)) rfl (by dsimp only; omega) (by dsimp only; omega) zhb0))
  · have i4 := zI32 (xs 3)
    rw [zI0e, zI1e] at i4
    rcases (show (xs 3).toInt ≤ (-1) ∨ (xs 3).toInt = 0 ∨ (xs 3).toInt = 1 ∨ (xs 3).toInt = 2 ∨ (xs 3).toInt = 3 ∨ 4 ≤ (xs 3).toInt by omega) with h4 | h4 | h4 | h4 | h4 | h4
    · exact zkc_ok zk_8_7 (by omega) (by omega) (zhb2 (e := (2, 1, 1)) rfl (by dsimp only; omega) (by dsimp only; omega) (zhb2 (e := (4, (-2147483648), (-1))) rfl (by dsimp only; omega) (by dsimp only; omega) zhb0))
    · exact zkc_ok zk_8_8 (by omega) (by omega) (zhb2 (e := (2, 1, 1)) rfl (by dsimp only; omega) (by dsimp only; omega) (zhb2 (e := (4, 0, 0)) rfl (by dsimp only; omega) (by dsimp only; omega) zhb0))
    · exact zkc_ok zk_8_9 (by omega) (by omega) (zhb2 (e := (2, 1, 1)) rfl (by dsimp only; omega) (by dsimp only; omega) (zhb2 (e := (4, 1, 1)) rfl (by dsimp only; omega) (by dsimp only; omega) zhb0))
    · exact zkc_ok zk_8_10 (by omega) (by omega) (zhb2 (e := (2, 1, 1)) rfl (by dsimp only; omega) (by dsimp only; omega) (zhb2 (e := (4, 2, 2)) rfl (by dsimp only; omega) (by dsimp only; omega) zhb0))
    · exact zkc_ok zk_8_11 (by omega) (by omega) (zhb2 (e := (2, 1, 1)) rfl (by dsimp only; omega) (by dsimp only; omega) (zhb2 (e := (4, 3, 3)) rfl (by dsimp only; omega) (by dsimp only; omega) zhb0))
    · exact zkc_ok zk_8_12 (by omega) (by omega) (zhb2 (e := (2, 1, 1)) rfl (by dsimp only; omega) (by dsimp only; omega) (zhb2 (e := (4, 4, 2147483647)) rfl (by dsimp only; omega) (by dsimp only; omega) zhb0))
  · have i4 := zI32 (xs 3)
    rw [zI0e, zI1e] at i4
    rcases (show (xs 3).toInt ≤ (-1) ∨ (xs 3).toInt = 0 ∨ (xs 3).toInt = 1 ∨ (xs 3).toInt = 2 ∨ (xs 3).toInt = 3 ∨ 4 ≤ (xs 3).toInt by omega) with h4 | h4 | h4 | h4 | h4 | h4
    · exact zkc_ok zk_8_13 (by omega) (by omega) (zhb2 (e := (2, 2, 2)) rfl (by dsimp only; omega) (by dsimp only; omega) (zhb2 (e := (4, (-2147483648), (-1))) rfl (by dsimp only; omega) (by dsimp only; omega) zhb0))
    · exact zkc_ok zk_8_14 (by omega) (by omega) (zhb2 (e := (2, 2, 2)) rfl (by dsimp only; omega) (by dsimp only; omega) (zhb2 (e := (4, 0, 0)) rfl (by dsimp only; omega) (by dsimp only; omega) zhb0))
    · exact zkc_ok zk_8_15 (by omega) (by omega) (zhb2 (e := (2, 2, 2)) rfl (by dsimp only; omega) (by dsimp only; omega) (zhb2 (e := (4, 1, 1)) rfl (by dsimp only; omega) (by dsimp only; omega) zhb0))
    · exact zkc_ok zk_8_16 (by omega) (by omega) (zhb2 (e := (2, 2, 2)) rfl (by dsimp only; omega) (by dsimp only; omega) (zhb2 (e := (4, 2, 2)) rfl (by dsimp only; omega) (by dsimp only; omega) zhb0))
    · exact zkc_ok zk_8_17 (by omega) (by omega) (zhb2 (e := (2, 2, 2)) rfl (by dsimp only; omega) (by dsimp only; omega) (zhb2 (e := (4, 3, 3)) rfl (by dsimp only; omega) (by dsimp only; omega) zhb0))
    · exact zkc_ok zk_8_18 (by omega) (by omega) (zhb2 (e := (2, 2, 2)) rfl (by dsimp only; omega) (by dsimp only; omega) (zhb2 (e := (4, 4, 2147483647)) rfl (by dsimp only; omega) (by dsimp only; omega) zhb0))
  · have i4 := zI32 (xs 3)
    rw [zI0e, zI1e] at i4
    rcases (show (xs 3).toInt ≤ (-1) ∨ (xs 3).toInt = 0 ∨ (xs 3).toInt = 1 ∨ (xs 3).toInt = 2 ∨ (xs 3).toInt = 3 ∨ 4 ≤ (xs 3).toInt by omega) with h4 | h4 | h4 | h4 | h4 | h4
    · exact zkc_ok zk_8_19 (by omega) (by omega) (zhb2 (e := (2, 3, 3)) rfl (by dsimp only; omega) (by dsimp only; omega) (zhb2 (e := (4, (-2147483648), (-1))) rfl (by dsimp only; omega) (by dsimp only; omega) zhb0))
    · exact zkc_ok zk_8_20 (by omega) (by omega) (zhb2 (e := (2, 3, 3)) rfl (by dsimp only; omega) (by dsimp only; omega) (zhb2 (e := (4, 0, 0)) rfl (by dsimp only; omega) (by dsimp only; omega) zhb0))
    · exact zkc_ok zk_8_21 (by omega) (by omega) (zhb2 (e := (2, 3, 3)) rfl (by dsimp only; omega) (by dsimp only; omega) (zhb2 (e := (4, 1, 1)) rfl (by dsimp only; omega) (by dsimp only; omega) zhb0))
    · exact zkc_ok zk_8_22 (by omega) (by omega) (zhb2 (e := (2, 3, 3)) rfl (by dsimp only; omega) (by dsimp only; omega) (zhb2 (e := (4, 2, 2)) rfl (by dsimp only; omega) (by dsimp only; omega) zhb0))
    · exact zkc_ok zk_8_23 (by omega) (by omega) (zhb2 (e := (2, 3, 3)) rfl (by dsimp only; omega) (by dsimp only; omega) (zhb2 (e := (4, 3, 3)) rfl (by dsimp only; omega) (by dsimp only; omega) zhb0))
    · exact zkc_ok zk_8_24 (by omega) (by omega) (zhb2 (e := (2, 3, 3)) rfl (by dsimp only; omega) (by dsimp only; omega) (zhb2 (e := (4, 4, 2147483647)) rfl (by dsimp only; omega) (by dsimp only; omega) zhb0))
  · exact zkc_ok zk_8_25 (by omega) (by omega) (zhb2 (e := (2, 4, 2147483647)) rfl (by dsimp only; omega) (by dsimp only; omega) zhb0)
theorem zkin_9 (xs : Nat → Int32) (v : Int32) (hv : v.toInt = 9) : zKin xs v := by
  have i2 := zI32 (xs 1)
  rw [zI0e, zI1e] at i2
  rcases (show (xs 1).toInt ≤ (-1) ∨ (xs 1).toInt = 0 ∨ (xs 1).toInt = 1 ∨ (xs 1).toInt = 2 ∨ (xs 1).toInt = 3 ∨ 4 ≤ (xs 1).toInt by omega) with h2 | h2 | h2 | h2 | h2 | h2
  · exact zkc_ok zk_9_0 (by omega) (by omega) (zhb2 (e := (2, (-2147483648), (-1))) rfl (by dsimp only; omega) (by dsimp only; omega) zhb0)
  · have i4 := zI32 (xs 3)
    rw [zI0e, zI1e] at i4
    rcases (show (xs 3).toInt ≤ (-1) ∨ (xs 3).toInt = 0 ∨ (xs 3).toInt = 1 ∨ (xs 3).toInt = 2 ∨ (xs 3).toInt = 3 ∨ 4 ≤ (xs 3).toInt by omega) with h4 | h4 | h4 | h4 | h4 | h4
    · exact zkc_ok zk_9_1 (by omega) (by omega) (zhb2 (e := (2, 0, 0)) rfl (by dsimp only; omega) (by dsimp only; omega) (zhb2 (e := (4, (-2147483648), (-1))) rfl (by dsimp only; omega) (by dsimp only; omega) zhb0))
    · exact zkc_ok zk_9_2 (by omega) (by omega) (zhb2 (e := (2, 0, 0)) rfl (by dsimp only; omega) (by dsimp only; omega) (zhb2 (e := (4, 0, 0)) rfl (by dsimp only; omega) (by dsimp only; omega) zhb0))
    · exact zkc_ok zk_9_3 (by omega) (by omega) (zhb2 (e := (2, 0, 0)) rfl (by dsimp only; omega) (by dsimp only; omega) (zhb2 (e := (4, 1, 1)) rfl (by dsimp only; omega) (by dsimp only; omega) zhb0))
    · exact zkc_ok zk_9_4 (by omega) (by omega) (zhb2 (e := (2, 0, 0)) rfl (by dsimp only; omega) (by dsimp only; omega) (zhb2 (e := (4, 2, 2)) rfl (by dsimp only; omega) (by dsimp only; omega) zhb0))
    · exact zkc_ok zk_9_5 (by omega) (by omega) (zhb2 (e := (2, 0, 0)) rfl (by dsimp only; omega) (by dsimp only; omega) (zhb2 (e := (4, 3, 3)) rfl (by dsimp only; omega) (by dsimp only; omega) zhb0))
    · exact zkc_ok zk_9_6 (by omega) (by omega) (zhb2 (e := (2, 0, 0)) rfl (by dsimp only; omega) (by dsimp only; omega) (zhb2 (e := (4, 4, 2147483647)) rfl (by dsimp only; omega) (by dsimp only; omega) zhb0))
  · have i4 := zI32 (xs 3)
    rw [zI0e, zI1e] at i4
    rcases (show (xs 3).toInt ≤ (-1) ∨ (xs 3).toInt = 0 ∨ (xs 3).toInt = 1 ∨ (xs 3).toInt = 2 ∨ (xs 3).toInt = 3 ∨ 4 ≤ (xs 3).toInt by omega) with h4 | h4 | h4 | h4 | h4 | h4
    · exact zkc_ok zk_9_7 (by omega) (by omega) (zhb2 (e := (2, 1, 1)) rfl (by dsimp only; omega) (by dsimp only; omega) (zhb2 (e := (4, (-2147483648), (-1))) rfl (by dsimp only; omega) (by dsimp only; omega) zhb0))
    · exact zkc_ok zk_9_8 (by omega) (by omega) (zhb2 (e := (2, 1, 1)) rfl (by dsimp only; omega) (by dsimp only; omega) (zhb2 (e := (4, 0, 0)) rfl (by dsimp only; omega) (by dsimp only; omega) zhb0))
    · exact zkc_ok zk_9_9 (by omega) (by omega) (zhb2 (e := (2, 1, 1)) rfl (by dsimp only; omega) (by dsimp only; omega) (zhb2 (e := (4, 1, 1)) rfl (by dsimp only; omega) (by dsimp only; omega) zhb0))
    · exact zkc_ok zk_9_10 (by omega) (by omega) (zhb2 (e := (2, 1, 1)) rfl (by dsimp only; omega) (by dsimp only; omega) (zhb2 (e := (4, 2, 2)) rfl (by dsimp only; omega) (by dsimp only; omega) zhb0))
    · exact zkc_ok zk_9_11 (by omega) (by omega) (zhb2 (e := (2, 1, 1)) rfl (by dsimp only; omega) (by dsimp only; omega) (zhb2 (e := (4, 3, 3)) rfl (by dsimp only; omega) (by dsimp only; omega) zhb0))
    · exact zkc_ok zk_9_12 (by omega) (by omega) (zhb2 (e := (2, 1, 1)) rfl (by dsimp only; omega) (by dsimp only; omega) (zhb2 (e := (4, 4, 2147483647)) rfl (by dsimp only; omega) (by dsimp only; omega) zhb0))
  · have i4 := zI32 (xs 3)
    rw [zI0e, zI1e] at i4
    rcases (show (xs 3).toInt ≤ (-1) ∨ (xs 3).toInt = 0 ∨ (xs 3).toInt = 1 ∨ (xs 3).toInt = 2 ∨ (xs 3).toInt = 3 ∨ 4 ≤ (xs 3).toInt by omega) with h4 | h4 | h4 | h4 | h4 | h4
    · exact zkc_ok zk_9_13 (by omega) (by omega) (zhb2 (e := (2, 2, 2)) rfl (by dsimp only; omega) (by dsimp only; omega) (zhb2 (e := (4, (-2147483648), (-1))) rfl (by dsimp only; omega) (by dsimp only; omega) zhb0))
    · exact zkc_ok zk_9_14 (by omega) (by omega) (zhb2 (e := (2, 2, 2)) rfl (by dsimp only; omega) (by dsimp only; omega) (zhb2 (e := (4, 0, 0)) rfl (by dsimp only; omega) (by dsimp only; omega) zhb0))
    · exact zkc_ok zk_9_15 (by omega) (by omega) (zhb2 (e := (2, 2, 2)) rfl (by dsimp only; omega) (by dsimp only; omega) (zhb2 (e := (4, 1, 1)) rfl (by dsimp only; omega) (by dsimp only; omega) zhb0))
    · exact zkc_ok zk_9_16 (by omega) (by omega) (zhb2 (e := (2, 2, 2)) rfl (by dsimp only; omega) (by dsimp only; omega) (zhb2 (e := (4, 2, 2)) rfl (by dsimp only; omega) (by dsimp only; omega) zhb0))
    · exact zkc_ok zk_9_17 (by omega) (by omega) (zhb2 (e := (2, 2, 2)) rfl (by dsimp only; omega) (by dsimp only; omega) (zhb2 (e := (4, 3, 3)) rfl (by dsimp only; omega) (by dsimp only; omega) zhb0))
    · exact zkc_ok zk_9_18 (by omega) (by omega) (zhb2 (e := (2, 2, 2)) rfl (by dsimp only; omega) (by dsimp only; omega) (zhb2 (e := (4, 4, 2147483647)) rfl (by dsimp only; omega) (by dsimp only; omega) zhb0))
  · have i4 := zI32 (xs 3)
    rw [zI0e, zI1e] at i4
    rcases (show (xs 3).toInt ≤ (-1) ∨ (xs 3).toInt = 0 ∨ (xs 3).toInt = 1 ∨ (xs 3).toInt = 2 ∨ (xs 3).toInt = 3 ∨ 4 ≤ (xs 3).toInt by omega) with h4 | h4 | h4 | h4 | h4 | h4
    · exact zkc_ok zk_9_19 (by omega) (by omega) (zhb2 (e := (2, 3, 3)) rfl (by dsimp only; omega) (by dsimp only; omega) (zhb2 (e := (4, (-2147483648), (-1))) rfl (by dsimp only; omega) (by dsimp only; omega) zhb0))
    · exact zkc_ok zk_9_20 (by omega) (by omega) (zhb2 (e := (2, 3, 3)) rfl (by dsimp only; omega) (by dsimp only; omega) (zhb2 (e := (4, 0, 0)) rfl (by dsimp only; omega) (by dsimp only; omega) zhb0))
    · exact zkc_ok zk_9_21 (by omega) (by omega) (zhb2 (e := (2, 3, 3)) rfl (by dsimp only; omega) (by dsimp only; omega) (zhb2 (e := (4, 1, 1)) rfl (by dsimp only; omega) (by dsimp only; omega) zhb0))
    · exact zkc_ok zk_9_22 (by omega) (by omega) (zhb2 (e := (2, 3, 3)) rfl (by dsimp only; omega) (by dsimp only; omega) (zhb2 (e := (4, 2, 2)) rfl (by dsimp only; omega) (by dsimp only; omega) zhb0))
    · exact zkc_ok zk_9_23 (by omega) (by omega) (zhb2 (e := (2, 3, 3)) rfl (by dsimp only; omega) (by dsimp only; omega) (zhb2 (e := (4, 3, 3)) rfl (by dsimp only; omega) (by dsimp only; omega) zhb0))
    · exact zkc_ok zk_9_24 (by omega) (by omega) (zhb2 (e := (2, 3, 3)) rfl (by dsimp only; omega) (by dsimp only; omega) (zhb2 (e := (4, 4, 2147483647)) rfl (by dsimp only; omega) (by dsimp only; omega) zhb0))
  · exact zkc_ok zk_9_25 (by omega) (by omega) (zhb2 (e := (2, 4, 2147483647)) rfl (by dsimp only; omega) (by dsimp only; omega) zhb0)
theorem zkin_10 (xs : Nat → Int32) (v : Int32) (hv : v.toInt = 10) : zKin xs v := by
  have i2 := zI32 (xs 1)
  rw [zI0e, zI1e] at i2
  rcases (show (xs 1).toInt ≤ (-1) ∨ (xs 1).toInt = 0 ∨ (xs 1).toInt = 1 ∨ (xs 1).toInt = 2 ∨ (xs 1).toInt = 3 ∨ 4 ≤ (xs 1).toInt by omega) with h2 | h2 | h2 | h2 | h2 | h2
  · exact zkc_ok zk_10_0 (by omega) (by omega) (zhb2 (e := (2, (-2147483648), (-1))) rfl (by dsimp only; omega) (by dsimp only; omega) zhb0)
  · exact zkc_ok zk_10_1 (by omega) (by omega) (zhb2 (e := (2, 0, 0)) rfl (by dsimp only; omega) (by dsimp only; omega) zhb0)
  · exact zkc_ok zk_10_2 (by omega) (by omega) (zhb2 (e := (2, 1, 1)) rfl (by dsimp only; omega) (by dsimp only; omega) zhb0)
  · exact zkc_ok zk_10_3 (by omega) (by omega) (zhb2 (e := (2, 2, 2)) rfl (by dsimp only; omega) (by dsimp only; omega) zhb0)
  · exact zkc_ok zk_10_4 (by omega) (by omega) (zhb2 (e := (2, 3, 3)) rfl (by dsimp only; omega) (by dsimp only; omega) zhb0)
  · exact zkc_ok zk_10_5 (by omega) (by omega) (zhb2 (e := (2, 4, 2147483647)) rfl (by dsimp only; omega) (by dsimp only; omega) zhb0)
theorem zkin_11 (xs : Nat → Int32) (v : Int32) (hv : v.toInt = 11) : zKin xs v := by
  have i2 := zI32 (xs 1)
  rw [zI0e, zI1e] at i2
  rcases (show (xs 1).toInt ≤ (-1) ∨ (xs 1).toInt = 0 ∨ (xs 1).toInt = 1 ∨ (xs 1).toInt = 2 ∨ (xs 1).toInt = 3 ∨ 4 ≤ (xs 1).toInt by omega) with h2 | h2 | h2 | h2 | h2 | h2
  · exact zkc_ok zk_11_0 (by omega) (by omega) (zhb2 (e := (2, (-2147483648), (-1))) rfl (by dsimp only; omega) (by dsimp only; omega) zhb0)
  · exact zkc_ok zk_11_1 (by omega) (by omega) (zhb2 (e := (2, 0, 0)) rfl (by dsimp only; omega) (by dsimp only; omega) zhb0)
  · exact zkc_ok zk_11_2 (by omega) (by omega) (zhb2 (e := (2, 1, 1)) rfl (by dsimp only; omega) (by dsimp only; omega) zhb0)
  · exact zkc_ok zk_11_3 (by omega) (by omega) (zhb2 (e := (2, 2, 2)) rfl (by dsimp only; omega) (by dsimp only; omega) zhb0)
  · exact zkc_ok zk_11_4 (by omega) (by omega) (zhb2 (e := (2, 3, 3)) rfl (by dsimp only; omega) (by dsimp only; omega) zhb0)
  · exact zkc_ok zk_11_5 (by omega) (by omega) (zhb2 (e := (2, 4, 2147483647)) rfl (by dsimp only; omega) (by dsimp only; omega) zhb0)
theorem zkin_13 (xs : Nat → Int32) (v : Int32) (hv : v.toInt = 13) : zKin xs v := by
  exact zkc_ok zk_13_0 (by omega) (by omega) zhb0
theorem zkin_14 (xs : Nat → Int32) (v : Int32) (hv : v.toInt = 14) : zKin xs v := by
  exact zkc_ok zk_14_0 (by omega) (by omega) zhb0
theorem zkin_15 (xs : Nat → Int32) (v : Int32) (hv : v.toInt = 15) : zKin xs v := by
  exact zkc_ok zk_15_0 (by omega) (by omega) zhb0
theorem zkin_16 (xs : Nat → Int32) (v : Int32) (hv : v.toInt = 16) : zKin xs v := by
  exact zkc_ok zk_16_0 (by omega) (by omega) zhb0
theorem zkin_17 (xs : Nat → Int32) (v : Int32) (hv : v.toInt = 17) : zKin xs v := by
  have i2 := zI32 (xs 1)
  rw [zI0e, zI1e] at i2
  rcases (show (xs 1).toInt ≤ (-1) ∨ (xs 1).toInt = 0 ∨ (xs 1).toInt = 1 ∨ (xs 1).toInt = 2 ∨ 3 ≤ (xs 1).toInt by omega) with h2 | h2 | h2 | h2 | h2
  · exact zkc_ok zk_17_0 (by omega) (by omega) (zhb2 (e := (2, (-2147483648), (-1))) rfl (by dsimp only; omega) (by dsimp only; omega) zhb0)
  · exact zkc_ok zk_17_1 (by omega) (by omega) (zhb2 (e := (2, 0, 0)) rfl (by dsimp only; omega) (by dsimp only; omega) zhb0)
  · exact zkc_ok zk_17_2 (by omega) (by omega) (zhb2 (e := (2, 1, 1)) rfl (by dsimp only; omega) (by dsimp only; omega) zhb0)
  · exact zkc_ok zk_17_3 (by omega) (by omega) (zhb2 (e := (2, 2, 2)) rfl (by dsimp only; omega) (by dsimp only; omega) zhb0)
  · exact zkc_ok zk_17_4 (by omega) (by omega) (zhb2 (e := (2, 3, 2147483647)) rfl (by dsimp only; omega) (by dsimp only; omega) zhb0)
theorem zkin_18 (xs : Nat → Int32) (v : Int32) (hv : v.toInt = 18) : zKin xs v := by
  have i2 := zI32 (xs 1)
  rw [zI0e, zI1e] at i2
  rcases (show (xs 1).toInt ≤ (-1) ∨ (xs 1).toInt = 0 ∨ (xs 1).toInt = 1 ∨ (xs 1).toInt = 2 ∨ (xs 1).toInt = 3 ∨ 4 ≤ (xs 1).toInt by omega) with h2 | h2 | h2 | h2 | h2 | h2
  · exact zkc_ok zk_18_0 (by omega) (by omega) (zhb2 (e := (2, (-2147483648), (-1))) rfl (by dsimp only; omega) (by dsimp only; omega) zhb0)
  · exact zkc_ok zk_18_1 (by omega) (by omega) (zhb2 (e := (2, 0, 0)) rfl (by dsimp only; omega) (by dsimp only; omega) zhb0)
  · exact zkc_ok zk_18_2 (by omega) (by omega) (zhb2 (e := (2, 1, 1)) rfl (by dsimp only; omega) (by dsimp only; omega) zhb0)
  · exact zkc_ok zk_18_3 (by omega) (by omega) (zhb2 (e := (2, 2, 2)) rfl (by dsimp only; omega) (by dsimp only; omega) zhb0)
  · exact zkc_ok zk_18_4 (by omega) (by omega) (zhb2 (e := (2, 3, 3)) rfl (by dsimp only; omega) (by dsimp only; omega) zhb0)
  · exact zkc_ok zk_18_5 (by omega) (by omega) (zhb2 (e := (2, 4, 2147483647)) rfl (by dsimp only; omega) (by dsimp only; omega) zhb0)
theorem zkin_19 (xs : Nat → Int32) (v : Int32) (hv : v.toInt = 19) : zKin xs v := by
  exact zkc_ok zk_19_0 (by omega) (by omega) zhb0
theorem zkin_20 (xs : Nat → Int32) (v : Int32) (hv : v.toInt = 20) : zKin xs v := by
  have i2 := zI32 (xs 1)
  rw [zI0e, zI1e] at i2
  rcases (show (xs 1).toInt ≤ (-1) ∨ (xs 1).toInt = 0 ∨ (xs 1).toInt = 1 ∨ (xs 1).toInt = 2 ∨ (xs 1).toInt = 3 ∨ 4 ≤ (xs 1).toInt by omega) with h2 | h2 | h2 | h2 | h2 | h2
  · exact zkc_ok zk_20_0 (by omega) (by omega) (zhb2 (e := (2, (-2147483648), (-1))) rfl (by dsimp only; omega) (by dsimp only; omega) zhb0)
  · exact zkc_ok zk_20_1 (by omega) (by omega) (zhb2 (e := (2, 0, 0)) rfl (by dsimp only; omega) (by dsimp only; omega) zhb0)
  · exact zkc_ok zk_20_2 (by omega) (by omega) (zhb2 (e := (2, 1, 1)) rfl (by dsimp only; omega) (by dsimp only; omega) zhb0)
  · exact zkc_ok zk_20_3 (by omega) (by omega) (zhb2 (e := (2, 2, 2)) rfl (by dsimp only; omega) (by dsimp only; omega) zhb0)
  · exact zkc_ok zk_20_4 (by omega) (by omega) (zhb2 (e := (2, 3, 3)) rfl (by dsimp only; omega) (by dsimp only; omega) zhb0)
  · exact zkc_ok zk_20_5 (by omega) (by omega) (zhb2 (e := (2, 4, 2147483647)) rfl (by dsimp only; omega) (by dsimp only; omega) zhb0)
theorem zkin_21 (xs : Nat → Int32) (v : Int32) (hv : v.toInt = 21) : zKin xs v := by
  have i2 := zI32 (xs 1)
  rw [zI0e, zI1e] at i2
  rcases (show (xs 1).toInt ≤ (-1) ∨ (xs 1).toInt = 0 ∨ (xs 1).toInt = 1 ∨ (xs 1).toInt = 2 ∨ (xs 1).toInt = 3 ∨ 4 ≤ (xs 1).toInt by omega) with h2 | h2 | h2 | h2 | h2 | h2
  · exact zkc_ok zk_21_0 (by omega) (by omega) (zhb2 (e := (2, (-2147483648), (-1))) rfl (by dsimp only; omega) (by dsimp only; omega) zhb0)
  · have i4 := zI32 (xs 3)
    rw [zI0e, zI1e] at i4
    rcases (show (xs 3).toInt ≤ (-1) ∨ (xs 3).toInt = 0 ∨ (xs 3).toInt = 1 ∨ (xs 3).toInt = 2 ∨ (xs 3).toInt = 3 ∨ 4 ≤ (xs 3).toInt by omega) with h4 | h4 | h4 | h4 | h4 | h4
    · exact zkc_ok zk_21_1 (by omega) (by omega) (zhb2 (e := (2, 0, 0)) rfl (by dsimp only; omega) (by dsimp only; omega) (zhb2 (e := (4, (-2147483648), (-1))) rfl (by dsimp only; omega) (by dsimp only; omega) zhb0))
    · exact zkc_ok zk_21_2 (by omega) (by omega) (zhb2 (e := (2, 0, 0)) rfl (by dsimp only; omega) (by dsimp only; omega) (zhb2 (e := (4, 0, 0)) rfl (by dsimp only; omega) (by dsimp only; omega) zhb0))
    · exact zkc_ok zk_21_3 (by omega) (by omega) (zhb2 (e := (2, 0, 0)) rfl (by dsimp only; omega) (by dsimp only; omega) (zhb2 (e := (4, 1, 1)) rfl (by dsimp only; omega) (by dsimp only; omega) zhb0))
    · exact zkc_ok zk_21_4 (by omega) (by omega) (zhb2 (e := (2, 0, 0)) rfl (by dsimp only; omega) (by dsimp only; omega) (zhb2 (e := (4, 2, 2)) rfl (by dsimp only; omega) (by dsimp only; omega) zhb0))
    · exact zkc_ok zk_21_5 (by omega) (by omega) (zhb2 (e := (2, 0, 0)) rfl (by dsimp only; omega) (by dsimp only; omega) (zhb2 (e := (4, 3, 3)) rfl (by dsimp only; omega) (by dsimp only; omega) zhb0))
    · exact zkc_ok zk_21_6 (by omega) (by omega) (zhb2 (e := (2, 0, 0)) rfl (by dsimp only; omega) (by dsimp only; omega) (zhb2 (e := (4, 4, 2147483647)) rfl (by dsimp only; omega) (by dsimp only; omega) zhb0))
  · have i4 := zI32 (xs 3)
    rw [zI0e, zI1e] at i4
    rcases (show (xs 3).toInt ≤ (-1) ∨ (xs 3).toInt = 0 ∨ (xs 3).toInt = 1 ∨ (xs 3).toInt = 2 ∨ (xs 3).toInt = 3 ∨ 4 ≤ (xs 3).toInt by omega) with h4 | h4 | h4 | h4 | h4 | h4
    · exact zkc_ok zk_21_7 (by omega) (by omega) (zhb2 (e := (2, 1, 1)) rfl (by dsimp only; omega) (by dsimp only; omega) (zhb2 (e := (4, (-2147483648), (-1))) rfl (by dsimp only; omega) (by dsimp only; omega) zhb0))
    · exact zkc_ok zk_21_8 (by omega) (by omega) (zhb2 (e := (2, 1, 1)) rfl (by dsimp only; omega) (by dsimp only; omega) (zhb2 (e := (4, 0, 0)) rfl (by dsimp only; omega) (by dsimp only; omega) zhb0))
    · exact zkc_ok zk_21_9 (by omega) (by omega) (zhb2 (e := (2, 1, 1)) rfl (by dsimp only; omega) (by dsimp only; omega) (zhb2 (e := (4, 1, 1)) rfl (by dsimp only; omega) (by dsimp only; omega) zhb0))
    · exact zkc_ok zk_21_10 (by omega) (by omega) (zhb2 (e := (2, 1, 1)) rfl (by dsimp only; omega) (by dsimp only; omega) (zhb2 (e := (4, 2, 2)) rfl (by dsimp only; omega) (by dsimp only; omega) zhb0))
    · exact zkc_ok zk_21_11 (by omega) (by omega) (zhb2 (e := (2, 1, 1)) rfl (by dsimp only; omega) (by dsimp only; omega) (zhb2 (e := (4, 3, 3)) rfl (by dsimp only; omega) (by dsimp only; omega) zhb0))
    · exact zkc_ok zk_21_12 (by omega) (by omega) (zhb2 (e := (2, 1, 1)) rfl (by dsimp only; omega) (by dsimp only; omega) (zhb2 (e := (4, 4, 2147483647)) rfl (by dsimp only; omega) (by dsimp only; omega) zhb0))
  · have i4 := zI32 (xs 3)
    rw [zI0e, zI1e] at i4
    rcases (show (xs 3).toInt ≤ (-1) ∨ (xs 3).toInt = 0 ∨ (xs 3).toInt = 1 ∨ (xs 3).toInt = 2 ∨ (xs 3).toInt = 3 ∨ 4 ≤ (xs 3).toInt by omega) with h4 | h4 | h4 | h4 | h4 | h4
    · exact zkc_ok zk_21_13 (by omega) (by omega) (zhb2 (e := (2, 2, 2)) rfl (by dsimp only; omega) (by dsimp only; omega) (zhb2 (e := (4, (-2147483648), (-1))) rfl (by dsimp only; omega) (by dsimp only; omega) zhb0))
    · exact zkc_ok zk_21_14 (by omega) (by omega) (zhb2 (e := (2, 2, 2)) rfl (by dsimp only; omega) (by dsimp only; omega) (zhb2 (e := (4, 0, 0)) rfl (by dsimp only; omega) (by dsimp only; omega) zhb0))
    · exact zkc_ok zk_21_15 (by omega) (by omega) (zhb2 (e := (2, 2, 2)) rfl (by dsimp only; omega) (by dsimp only; omega) (zhb2 (e := (4, 1, 1)) rfl (by dsimp only; omega) (by dsimp only; omega) zhb0))
    · exact zkc_ok zk_21_16 (by omega) (by omega) (zhb2 (e := (2, 2, 2)) rfl (by dsimp only; omega) (by dsimp only; omega) (zhb2 (e := (4, 2, 2)) rfl (by dsimp only; omega) (by dsimp only; omega) zhb0))
    · exact zkc_ok zk_21_17 (by omega) (by omega) (zhb2 (e := (2, 2, 2)) rfl (by dsimp only; omega) (by dsimp only; omega) (zhb2 (e := (4, 3, 3)) rfl (by dsimp only; omega) (by dsimp only; omega) zhb0))
    · exact zkc_ok zk_21_18 (by omega) (by omega) (zhb2 (e := (2, 2, 2)) rfl (by dsimp only; omega) (by dsimp only; omega) (zhb2 (e := (4, 4, 2147483647)) rfl (by dsimp only; omega) (by dsimp only; omega) zhb0))
  · have i4 := zI32 (xs 3)
    rw [zI0e, zI1e] at i4
    rcases (show (xs 3).toInt ≤ (-1) ∨ (xs 3).toInt = 0 ∨ (xs 3).toInt = 1 ∨ (xs 3).toInt = 2 ∨ (xs 3).toInt = 3 ∨ 4 ≤ (xs 3).toInt by omega) with h4 | h4 | h4 | h4 | h4 | h4
    · exact zkc_ok zk_21_19 (by omega) (by omega) (zhb2 (e := (2, 3, 3)) rfl (by dsimp only; omega) (by dsimp only; omega) (zhb2 (e := (4, (-2147483648), (-1))) rfl (by dsimp only; omega) (by dsimp only; omega) zhb0))
    · exact zkc_ok zk_21_20 (by omega) (by omega) (zhb2 (e := (2, 3, 3)) rfl (by dsimp only; omega) (by dsimp only; omega) (zhb2 (e := (4, 0, 0)) rfl (by dsimp only; omega) (by dsimp only; omega) zhb0))
    · exact zkc_ok zk_21_21 (by omega) (by omega) (zhb2 (e := (2, 3, 3)) rfl (by dsimp only; omega) (by dsimp only; omega) (zhb2 (e := (4, 1, 1)) rfl (by dsimp only; omega) (by dsimp only; omega) zhb0))
    · exact zkc_ok zk_21_22 (by omega) (by omega) (zhb2 (e := (2, 3, 3)) rfl (by dsimp only; omega) (by dsimp only; omega) (zhb2 (e := (4, 2, 2)) rfl (by dsimp only; omega) (by dsimp only; omega) zhb0))
    · exact zkc_ok zk_21_23 (by omega) (by omega) (zhb2 (e := (2, 3, 3)) rfl (by dsimp only; omega) (by dsimp only; omega) (zhb2 (e := (4, 3, 3)) rfl (by dsimp only; omega) (by dsimp only; omega) zhb0))
    · exact zkc_ok zk_21_24 (by omega) (by omega) (zhb2 (e := (2, 3, 3)) rfl (by dsimp only; omega) (by dsimp only; omega) (zhb2 (e := (4, 4, 2147483647)) rfl (by dsimp only; omega) (by dsimp only; omega) zhb0))
  · exact zkc_ok zk_21_25 (by omega) (by omega) (zhb2 (e := (2, 4, 2147483647)) rfl (by dsimp only; omega) (by dsimp only; omega) zhb0)
theorem zkin_22 (xs : Nat → Int32) (v : Int32) (hv : v.toInt = 22) : zKin xs v := by
  exact zkc_ok zk_22_0 (by omega) (by omega) zhb0
theorem zkin_23 (xs : Nat → Int32) (v : Int32) (hv : v.toInt = 23) : zKin xs v := by
  have i2 := zI32 (xs 1)
  rw [zI0e, zI1e] at i2
  rcases (show (xs 1).toInt ≤ (-1) ∨ (xs 1).toInt = 0 ∨ (xs 1).toInt = 1 ∨ (xs 1).toInt = 2 ∨ (xs 1).toInt = 3 ∨ 4 ≤ (xs 1).toInt by omega) with h2 | h2 | h2 | h2 | h2 | h2
  · exact zkc_ok zk_23_0 (by omega) (by omega) (zhb2 (e := (2, (-2147483648), (-1))) rfl (by dsimp only; omega) (by dsimp only; omega) zhb0)
  · have i4 := zI32 (xs 3)
    rw [zI0e, zI1e] at i4
    rcases (show (xs 3).toInt ≤ (-1) ∨ (xs 3).toInt = 0 ∨ (xs 3).toInt = 1 ∨ (xs 3).toInt = 2 ∨ (xs 3).toInt = 3 ∨ 4 ≤ (xs 3).toInt by omega) with h4 | h4 | h4 | h4 | h4 | h4
    · exact zkc_ok zk_23_1 (by omega) (by omega) (zhb2 (e := (2, 0, 0)) rfl (by dsimp only; omega) (by dsimp only; omega) (zhb2 (e := (4, (-2147483648), (-1))) rfl (by dsimp only; omega) (by dsimp only; omega) zhb0))
    · exact zkc_ok zk_23_2 (by omega) (by omega) (zhb2 (e := (2, 0, 0)) rfl (by dsimp only; omega) (by dsimp only; omega) (zhb2 (e := (4, 0, 0)) rfl (by dsimp only; omega) (by dsimp only; omega) zhb0))
    · exact zkc_ok zk_23_3 (by omega) (by omega) (zhb2 (e := (2, 0, 0)) rfl (by dsimp only; omega) (by dsimp only; omega) (zhb2 (e := (4, 1, 1)) rfl (by dsimp only; omega) (by dsimp only; omega) zhb0))
    · exact zkc_ok zk_23_4 (by omega) (by omega) (zhb2 (e := (2, 0, 0)) rfl (by dsimp only; omega) (by dsimp only; omega) (zhb2 (e := (4, 2, 2)) rfl (by dsimp only; omega) (by dsimp only; omega) zhb0))
    · exact zkc_ok zk_23_5 (by omega) (by omega) (zhb2 (e := (2, 0, 0)) rfl (by dsimp only; omega) (by dsimp only; omega) (zhb2 (e := (4, 3, 3)) rfl (by dsimp only; omega) (by dsimp only; omega) zhb0))
    · exact zkc_ok zk_23_6 (by omega) (by omega) (zhb2 (e := (2, 0, 0)) rfl (by dsimp only; omega) (by dsimp only; omega) (zhb2 (e := (4, 4, 2147483647)) rfl (by dsimp only; omega) (by dsimp only; omega) zhb0))
  · have i4 := zI32 (xs 3)
    rw [zI0e, zI1e] at i4
    rcases (show (xs 3).toInt ≤ (-1) ∨ (xs 3).toInt = 0 ∨ (xs 3).toInt = 1 ∨ (xs 3).toInt = 2 ∨ (xs 3).toInt = 3 ∨ 4 ≤ (xs 3).toInt by omega) with h4 | h4 | h4 | h4 | h4 | h4
    · exact zkc_ok zk_23_7 (by omega) (by omega) (zhb2 (e := (2, 1, 1)) rfl (by dsimp only; omega) (by dsimp only; omega) (zhb2 (e := (4, (-2147483648), (-1))) rfl (by dsimp only; omega) (by dsimp only; omega) zhb0))
    · exact zkc_ok zk_23_8 (by omega) (by omega) (zhb2 (e := (2, 1, 1)) rfl (by dsimp only; omega) (by dsimp only; omega) (zhb2 (e := (4, 0, 0)) rfl (by dsimp only; omega) (by dsimp only; omega) zhb0))
    · exact zkc_ok zk_23_9 (by omega) (by omega) (zhb2 (e := (2, 1, 1)) rfl (by dsimp only; omega) (by dsimp only; omega) (zhb2 (e := (4, 1, 1)) rfl (by dsimp only; omega) (by dsimp only; omega) zhb0))
    · exact zkc_ok zk_23_10 (by omega) (by omega) (zhb2 (e := (2, 1, 1)) rfl (by dsimp only; omega) (by dsimp only; omega) (zhb2 (e := (4, 2, 2)) rfl (by dsimp only; omega) (by dsimp only; omega) zhb0))
    · exact zkc_ok zk_23_11 (by omega) (by omega) (zhb2 (e := (2, 1, 1)) rfl (by dsimp only; omega) (by dsimp only; omega) (zhb2 (e := (4, 3, 3)) rfl (by dsimp only; omega) (by dsimp only; omega) zhb0))
    · exact zkc_ok zk_23_12 (by omega) (by omega) (zhb2 (e := (2, 1, 1)) rfl (by dsimp only; omega) (by dsimp only; omega) (zhb2 (e := (4, 4, 2147483647)) rfl (by dsimp only; omega) (by dsimp only; omega) zhb0))
  · have i4 := zI32 (xs 3)
    rw [zI0e, zI1e] at i4
    rcases (show (xs 3).toInt ≤ (-1) ∨ (xs 3).toInt = 0 ∨ (xs 3).toInt = 1 ∨ (xs 3).toInt = 2 ∨ (xs 3).toInt = 3 ∨ 4 ≤ (xs 3).toInt by omega) with h4 | h4 | h4 | h4 | h4 | h4
    · exact zkc_ok zk_23_13 (by omega) (by omega) (zhb2 (e := (2, 2, 2)) rfl (by dsimp only; omega) (by dsimp only; omega) (zhb2 (e := (4, (-2147483648), (-1))) rfl (by dsimp only; omega) (by dsimp only; omega) zhb0))
    · exact zkc_ok zk_23_14 (by omega) (by omega) (zhb2 (e := (2, 2, 2)) rfl (by dsimp only; omega) (by dsimp only; omega) (zhb2 (e := (4, 0, 0)) rfl (by dsimp only; omega) (by dsimp only; omega) zhb0))
    · exact zkc_ok zk_23_15 (by omega) (by omega) (zhb2 (e := (2, 2, 2)) rfl (by dsimp only; omega) (by dsimp only; omega) (zhb2 (e := (4, 1, 1)) rfl (by dsimp only; omega) (by dsimp only; omega) zhb0))
    · exact zkc_ok zk_23_16 (by omega) (by omega) (zhb2 (e := (2, 2, 2)) rfl (by dsimp only; omega) (by dsimp only; omega) (zhb2 (e := (4, 2, 2)) rfl (by dsimp only; omega) (by dsimp only; omega) zhb0))
    · exact zkc_ok zk_23_17 (by omega) (by omega) (zhb2 (e := (2, 2, 2)) rfl (by dsimp only; omega) (by dsimp only; omega) (zhb2 (e := (4, 3, 3)) rfl (by dsimp only; omega) (by dsimp only; omega) zhb0))
    · exact zkc_ok zk_23_18 (by omega) (by omega) (zhb2 (e := (2, 2, 2)) rfl (by dsimp only; omega) (by dsimp only; omega) (zhb2 (e := (4, 4, 2147483647)) rfl (by dsimp only; omega) (by dsimp only; omega) zhb0))
  · have i4 := zI32 (xs 3)
    rw [zI0e, zI1e] at i4
    rcases (show (xs 3).toInt ≤ (-1) ∨ (xs 3).toInt = 0 ∨ (xs 3).toInt = 1 ∨ (xs 3).toInt = 2 ∨ (xs 3).toInt = 3 ∨ 4 ≤ (xs 3).toInt by omega) with h4 | h4 | h4 | h4 | h4 | h4
    · exact zkc_ok zk_23_19 (by omega) (by omega) (zhb2 (e := (2, 3, 3)) rfl (by dsimp only; omega) (by dsimp only; omega) (zhb2 (e := (4, (-2147483648), (-1))) rfl (by dsimp only; omega) (by dsimp only; omega) zhb0))
    · exact zkc_ok zk_23_20 (by omega) (by omega) (zhb2 (e := (2, 3, 3)) rfl (by dsimp only; omega) (by dsimp only; omega) (zhb2 (e := (4, 0, 0)) rfl (by dsimp only; omega) (by dsimp only; omega) zhb0))
    · exact zkc_ok zk_23_21 (by omega) (by omega) (zhb2 (e := (2, 3, 3)) rfl (by dsimp only; omega) (by dsimp only; omega) (zhb2 (e := (4, 1, 1)) rfl (by dsimp only; omega) (by dsimp only; omega) zhb0))
    · exact zkc_ok zk_23_22 (by omega) (by omega) (zhb2 (e := (2, 3, 3)) rfl (by dsimp only; omega) (by dsimp only; omega) (zhb2 (e := (4, 2, 2)) rfl (by dsimp only; omega) (by dsimp only; omega) zhb0))
    · exact zkc_ok zk_23_23 (by omega) (by omega) (zhb2 (e := (2, 3, 3)) rfl (by dsimp only; omega) (by dsimp only; omega) (zhb2 (e := (4, 3, 3)) rfl (by dsimp only; omega) (by dsimp only; omega) zhb0))
    · exact zkc_ok zk_23_24 (by omega) (by omega) (zhb2 (e := (2, 3, 3)) rfl (by dsimp only; omega) (by dsimp only; omega) (zhb2 (e := (4, 4, 2147483647)) rfl (by dsimp only; omega) (by dsimp only; omega) zhb0))
  · exact zkc_ok zk_23_25 (by omega) (by omega) (zhb2 (e := (2, 4, 2147483647)) rfl (by dsimp only; omega) (by dsimp only; omega) zhb0)
theorem zkin_24 (xs : Nat → Int32) (v : Int32) (hv : v.toInt = 24) : zKin xs v := by
  exact zkc_ok zk_24_0 (by omega) (by omega) zhb0
theorem zkin_25 (xs : Nat → Int32) (v : Int32) (hv : v.toInt = 25) : zKin xs v := by
  exact zkc_ok zk_25_0 (by omega) (by omega) zhb0
theorem zkin_26 (xs : Nat → Int32) (v : Int32) (hv : v.toInt = 26) : zKin xs v := by
  exact zkc_ok zk_26_0 (by omega) (by omega) zhb0
theorem zkin_27 (xs : Nat → Int32) (v : Int32) (hv : v.toInt = 27) : zKin xs v := by
  have i2 := zI32 (xs 1)
  rw [zI0e, zI1e] at i2
  rcases (show (xs 1).toInt ≤ (-1) ∨ (xs 1).toInt = 0 ∨ (xs 1).toInt = 1 ∨ (xs 1).toInt = 2 ∨ (xs 1).toInt = 3 ∨ 4 ≤ (xs 1).toInt by omega) with h2 | h2 | h2 | h2 | h2 | h2
  · exact zkc_ok zk_27_0 (by omega) (by omega) (zhb2 (e := (2, (-2147483648), (-1))) rfl (by dsimp only; omega) (by dsimp only; omega) zhb0)
  · have i4 := zI32 (xs 3)
    rw [zI0e, zI1e] at i4
    rcases (show (xs 3).toInt ≤ (-1) ∨ (xs 3).toInt = 0 ∨ (xs 3).toInt = 1 ∨ (xs 3).toInt = 2 ∨ (xs 3).toInt = 3 ∨ 4 ≤ (xs 3).toInt by omega) with h4 | h4 | h4 | h4 | h4 | h4
    · exact zkc_ok zk_27_1 (by omega) (by omega) (zhb2 (e := (2, 0, 0)) rfl (by dsimp only; omega) (by dsimp only; omega) (zhb2 (e := (4, (-2147483648), (-1))) rfl (by dsimp only; omega) (by dsimp only; omega) zhb0))
    · have i5 := zI32 (xs 4)
      rw [zI0e, zI1e] at i5
      rcases (show (xs 4).toInt ≤ (-1) ∨ (xs 4).toInt = 0 ∨ (xs 4).toInt = 1 ∨ (xs 4).toInt = 2 ∨ 3 ≤ (xs 4).toInt by omega) with h5 | h5 | h5 | h5 | h5
      · exact zkc_ok zk_27_2 (by omega) (by omega) (zhb2 (e := (2, 0, 0)) rfl (by dsimp only; omega) (by dsimp only; omega) (zhb2 (e := (4, 0, 0)) rfl (by dsimp only; omega) (by dsimp only; omega) (zhb2 (e := (5, (-2147483648), (-1))) rfl (by dsimp only; omega) (by dsimp only; omega) zhb0)))
      · exact zkc_ok zk_27_3 (by omega) (by omega) (zhb2 (e := (2, 0, 0)) rfl (by dsimp only; omega) (by dsimp only; omega) (zhb2 (e := (4, 0, 0)) rfl (by dsimp only; omega) (by dsimp only; omega) (zhb2 (e := (5, 0, 0)) rfl (by dsimp only; omega) (by dsimp only; omega) zhb0)))
      · exact zkc_ok zk_27_4 (by omega) (by omega) (zhb2 (e := (2, 0, 0)) rfl (by dsimp only; omega) (by dsimp only; omega) (zhb2 (e := (4, 0, 0)) rfl (by dsimp only; omega) (by dsimp only; omega) (zhb2 (e := (5, 1, 1)) rfl (by dsimp only; omega) (by dsimp only; omega) zhb0)))
      · exact zkc_ok zk_27_5 (by omega) (by omega) (zhb2 (e := (2, 0, 0)) rfl (by dsimp only; omega) (by dsimp only; omega) (zhb2 (e := (4, 0, 0)) rfl (by dsimp only; omega) (by dsimp only; omega) (zhb2 (e := (5, 2, 2)) rfl (by dsimp only; omega) (by dsimp only; omega) zhb0)))
      · exact zkc_ok zk_27_6 (by omega) (by omega) (zhb2 (e := (2, 0, 0)) rfl (by dsimp only; omega) (by dsimp only; omega) (zhb2 (e := (4, 0, 0)) rfl (by dsimp only; omega) (by dsimp only; omega) (zhb2 (e := (5, 3, 2147483647)) rfl (by dsimp only; omega) (by dsimp only; omega) zhb0)))
    · have i5 := zI32 (xs 4)
      rw [zI0e, zI1e] at i5
      rcases (show (xs 4).toInt ≤ (-1) ∨ (xs 4).toInt = 0 ∨ (xs 4).toInt = 1 ∨ (xs 4).toInt = 2 ∨ 3 ≤ (xs 4).toInt by omega) with h5 | h5 | h5 | h5 | h5
      · exact zkc_ok zk_27_7 (by omega) (by omega) (zhb2 (e := (2, 0, 0)) rfl (by dsimp only; omega) (by dsimp only; omega) (zhb2 (e := (4, 1, 1)) rfl (by dsimp only; omega) (by dsimp only; omega) (zhb2 (e := (5, (-2147483648), (-1))) rfl (by dsimp only; omega) (by dsimp only; omega) zhb0)))
      · exact zkc_ok zk_27_8 (by omega) (by omega) (zhb2 (e := (2, 0, 0)) rfl (by dsimp only; omega) (by dsimp only; omega) (zhb2 (e := (4, 1, 1)) rfl (by dsimp only; omega) (by dsimp only; omega) (zhb2 (e := (5, 0, 0)) rfl (by dsimp only; omega) (by dsimp only; omega) zhb0)))
      · exact zkc_ok zk_27_9 (by omega) (by omega) (zhb2 (e := (2, 0, 0)) rfl (by dsimp only; omega) (by dsimp only; omega) (zhb2 (e := (4, 1, 1)) rfl (by dsimp only; omega) (by dsimp only; omega) (zhb2 (e := (5, 1, 1)) rfl (by dsimp only; omega) (by dsimp only; omega) zhb0)))
      · exact zkc_ok zk_27_10 (by omega) (by omega) (zhb2 (e := (2, 0, 0)) rfl (by dsimp only; omega) (by dsimp only; omega) (zhb2 (e := (4, 1, 1)) rfl (by dsimp only; omega) (by dsimp only; omega) (zhb2 (e := (5, 2, 2)) rfl (by dsimp only; omega) (by dsimp only; omega) zhb0)))
      · exact zkc_ok zk_27_11 (by omega) (by omega) (zhb2 (e := (2, 0, 0)) rfl (by dsimp only; omega) (by dsimp only; omega) (zhb2 (e := (4, 1, 1)) rfl (by dsimp only; omega) (by dsimp only; omega) (zhb2 (e := (5, 3, 2147483647)) rfl (by dsimp only; omega) (by dsimp only; omega) zhb0)))
    · have i5 := zI32 (xs 4)
      rw [zI0e, zI1e] at i5
      rcases (show (xs 4).toInt ≤ (-1) ∨ (xs 4).toInt = 0 ∨ (xs 4).toInt = 1 ∨ (xs 4).toInt = 2 ∨ 3 ≤ (xs 4).toInt by omega) with h5 | h5 | h5 | h5 | h5
      · exact zkc_ok zk_27_12 (by omega) (by omega) (zhb2 (e := (2, 0, 0)) rfl (by dsimp only; omega) (by dsimp only; omega) (zhb2 (e := (4, 2, 2)) rfl (by dsimp only; omega) (by dsimp only; omega) (zhb2 (e := (5, (-2147483648), (-1))) rfl (by dsimp only; omega) (by dsimp only; omega) zhb0)))
      · exact zkc_ok zk_27_13 (by omega) (by omega) (zhb2 (e := (2, 0, 0)) rfl (by dsimp only; omega) (by dsimp only; omega) (zhb2 (e := (4, 2, 2)) rfl (by dsimp only; omega) (by dsimp only; omega) (zhb2 (e := (5, 0, 0)) rfl (by dsimp only; omega) (by dsimp only; omega) zhb0)))
      · exact zkc_ok zk_27_14 (by omega) (by omega) (zhb2 (e := (2, 0, 0)) rfl (by dsimp only; omega) (by dsimp only; omega) (zhb2 (e := (4, 2, 2)) rfl (by dsimp only; omega) (by dsimp only; omega) (zhb2 (e := (5, 1, 1)) rfl (by dsimp only; omega) (by dsimp only; omega) zhb0)))
      · exact zkc_ok zk_27_15 (by omega) (by omega) (zhb2 (e := (2, 0, 0)) rfl (by dsimp only; omega) (by dsimp only; omega) (zhb2 (e := (4, 2, 2)) rfl (by dsimp only; omega) (by dsimp only; omega) (zhb2 (e := (5, 2, 2)) rfl (by dsimp only; omega) (by dsimp only; omega) zhb0)))
      · exact zkc_ok zk_27_16 (by omega) (by omega) (zhb2 (e := (2, 0, 0)) rfl (by dsimp only; omega) (by dsimp only; omega) (zhb2 (e := (4, 2, 2)) rfl (by dsimp only; omega) (by dsimp only; omega) (zhb2 (e := (5, 3, 2147483647)) rfl (by dsimp only; omega) (by dsimp only; omega) zhb0)))
    · have i5 := zI32 (xs 4)
      rw [zI0e, zI1e] at i5
      rcases (show (xs 4).toInt ≤ (-1) ∨ (xs 4).toInt = 0 ∨ (xs 4).toInt = 1 ∨ (xs 4).toInt = 2 ∨ 3 ≤ (xs 4).toInt by omega) with h5 | h5 | h5 | h5 | h5
      · exact zkc_ok zk_27_17 (by omega) (by omega) (zhb2 (e := (2, 0, 0)) rfl (by dsimp only; omega) (by dsimp only; omega) (zhb2 (e := (4, 3, 3)) rfl (by dsimp only; omega) (by dsimp only; omega) (zhb2 (e := (5, (-2147483648), (-1))) rfl (by dsimp only; omega) (by dsimp only; omega) zhb0)))
      · exact zkc_ok zk_27_18 (by omega) (by omega) (zhb2 (e := (2, 0, 0)) rfl (by dsimp only; omega) (by dsimp only; omega) (zhb2 (e := (4, 3, 3)) rfl (by dsimp only; omega) (by dsimp only; omega) (zhb2 (e := (5, 0, 0)) rfl (by dsimp only; omega) (by dsimp only; omega) zhb0)))
      · exact zkc_ok zk_27_19 (by omega) (by omega) (zhb2 (e := (2, 0, 0)) rfl (by dsimp only; omega) (by dsimp only; omega) (zhb2 (e := (4, 3, 3)) rfl (by dsimp only; omega) (by dsimp only; omega) (zhb2 (e := (5, 1, 1)) rfl (by dsimp only; omega) (by dsimp only; omega) zhb0)))
      · exact zkc_ok zk_27_20 (by omega) (by omega) (zhb2 (e := (2, 0, 0)) rfl (by dsimp only; omega) (by dsimp only; omega) (zhb2 (e := (4, 3, 3)) rfl (by dsimp only; omega) (by dsimp only; omega) (zhb2 (e := (5, 2, 2)) rfl (by dsimp only; omega) (by dsimp only; omega) zhb0)))
      · exact zkc_ok zk_27_21 (by omega) (by omega) (zhb2 (e := (2, 0, 0)) rfl (by dsimp only; omega) (by dsimp only; omega) (zhb2 (e := (4, 3, 3)) rfl (by dsimp only; omega) (by dsimp only; omega) (zhb2 (e := (5, 3, 2147483647)) rfl (by dsimp only; omega) (by dsimp only; omega) zhb0)))
    · exact zkc_ok zk_27_22 (by omega) (by omega) (zhb2 (e := (2, 0, 0)) rfl (by dsimp only; omega) (by dsimp only; omega) (zhb2 (e := (4, 4, 2147483647)) rfl (by dsimp only; omega) (by dsimp only; omega) zhb0))
  · have i4 := zI32 (xs 3)
    rw [zI0e, zI1e] at i4
    rcases (show (xs 3).toInt ≤ (-1) ∨ (xs 3).toInt = 0 ∨ (xs 3).toInt = 1 ∨ (xs 3).toInt = 2 ∨ (xs 3).toInt = 3 ∨ 4 ≤ (xs 3).toInt by omega) with h4 | h4 | h4 | h4 | h4 | h4
    · exact zkc_ok zk_27_23 (by omega) (by omega) (zhb2 (e := (2, 1, 1)) rfl (by dsimp only; omega) (by dsimp only; omega) (zhb2 (e := (4, (-2147483648), (-1))) rfl (by dsimp only; omega) (by dsimp only; omega) zhb0))
    · have i5 := zI32 (xs 4)
      rw [zI0e, zI1e] at i5
      rcases (show (xs 4).toInt ≤ (-1) ∨ (xs 4).toInt = 0 ∨ (xs 4).toInt = 1 ∨ (xs 4).toInt = 2 ∨ 3 ≤ (xs 4).toInt by omega) with h5 | h5 | h5 | h5 | h5
      · exact zkc_ok zk_27_24 (by omega) (by omega) (zhb2 (e := (2, 1, 1)) rfl (by dsimp only; omega) (by dsimp only; omega) (zhb2 (e := (4, 0, 0)) rfl (by dsimp only; omega) (by dsimp only; omega) (zhb2 (e := (5, (-2147483648), (-1))) rfl (by dsimp only; omega) (by dsimp only; omega) zhb0)))
      · exact zkc_ok zk_27_25 (by omega) (by omega) (zhb2 (e := (2, 1, 1)) rfl (by dsimp only; omega) (by dsimp only; omega) (zhb2 (e := (4, 0, 0)) rfl (by dsimp only; omega) (by dsimp only; omega) (zhb2 (e := (5, 0, 0)) rfl (by dsimp only; omega) (by dsimp only; omega) zhb0)))
      · exact zkc_ok zk_27_26 (by omega) (by omega) (zhb2 (e := (2, 1, 1)) rfl (by dsimp only; omega) (by dsimp only; omega) (zhb2 (e := (4, 0, 0)) rfl (by dsimp only; omega) (by dsimp only; omega) (zhb2 (e := (5, 1, 1)) rfl (by dsimp only; omega) (by dsimp only; omega) zhb0)))
      · exact zkc_ok zk_27_27 (by omega) (by omega) (zhb2 (e := (2, 1, 1)) rfl (by dsimp only; omega) (by dsimp only; omega) (zhb2 (e := (4, 0, 0)) rfl (by dsimp only; omega) (by dsimp only; omega) (zhb2 (e := (5, 2, 2)) rfl (by dsimp only; omega) (by dsimp only; omega) zhb0)))
      · exact zkc_ok zk_27_28 (by omega) (by omega) (zhb2 (e := (2, 1, 1)) rfl (by dsimp only; omega) (by dsimp only; omega) (zhb2 (e := (4, 0, 0)) rfl (by dsimp only; omega) (by dsimp only; omega) (zhb2 (e := (5, 3, 2147483647)) rfl (by dsimp only; omega) (by dsimp only; omega) zhb0)))
    · have i5 := zI32 (xs 4)
      rw [zI0e, zI1e] at i5
      rcases (show (xs 4).toInt ≤ (-1) ∨ (xs 4).toInt = 0 ∨ (xs 4).toInt = 1 ∨ (xs 4).toInt = 2 ∨ 3 ≤ (xs 4).toInt by omega) with h5 | h5 | h5 | h5 | h5
      · exact zkc_ok zk_27_29 (by omega) (by omega) (zhb2 (e := (2, 1, 1)) rfl (by dsimp only; omega) (by dsimp only; omega) (zhb2 (e := (4, 1, 1)) rfl (by dsimp only; omega) (by dsimp only; omega) (zhb2 (e := (5, (-2147483648), (-1))) rfl (by dsimp only; omega) (by dsimp only; omega) zhb0)))
      · exact zkc_ok zk_27_30 (by omega) (by omega) (zhb2 (e := (2, 1, 1)) rfl (by dsimp only; omega) (by dsimp only; omega) (zhb2 (e := (4, 1, 1)) rfl (by dsimp only; omega) (by dsimp only; omega) (zhb2 (e := (5, 0, 0)) rfl (by dsimp only; omega) (by dsimp only; omega) zhb0)))
      · exact zkc_ok zk_27_31 (by omega) (by omega) (zhb2 (e := (2, 1, 1)) rfl (by dsimp only; omega) (by dsimp only; omega) (zhb2 (e := (4, 1, 1)) rfl (by dsimp only; omega) (by dsimp only; omega) (zhb2 (e := (5, 1, 1)) rfl (by dsimp only; omega) (by dsimp only; omega) zhb0)))
      · exact zkc_ok zk_27_32 (by omega) (by omega) (zhb2 (e := (2, 1, 1)) rfl (by dsimp only; omega) (by dsimp only; omega) (zhb2 (e := (4, 1, 1)) rfl (by dsimp only; omega) (by dsimp only; omega) (zhb2 (e := (5, 2, 2)) rfl (by dsimp only; omega) (by dsimp only; omega) zhb0)))
      · exact zkc_ok zk_27_33 (by omega) (by omega) (zhb2 (e := (2, 1, 1)) rfl (by dsimp only; omega) (by dsimp only; omega) (zhb2 (e := (4, 1, 1)) rfl (by dsimp only; omega) (by dsimp only; omega) (zhb2 (e := (5, 3, 2147483647)) rfl (by dsimp only; omega) (by dsimp only; omega) zhb0)))
    · have i5 := zI32 (xs 4)
      rw [zI0e, zI1e] at i5
      rcases (show (xs 4).toInt ≤ (-1) ∨ (xs 4).toInt = 0 ∨ (xs 4).toInt = 1 ∨ (xs 4).toInt = 2 ∨ 3 ≤ (xs 4).toInt by omega) with h5 | h5 | h5 | h5 | h5
      · exact zkc_ok zk_27_34 (by omega) (by omega) (zhb2 (e := (2, 1, 1)) rfl (by dsimp only; omega) (by dsimp only; omega) (zhb2 (e := (4, 2, 2)) rfl (by dsimp only; omega) (by dsimp only; omega) (zhb2 (e := (5, (-2147483648), (-1))) rfl (by dsimp only; omega) (by dsimp only; omega) zhb0)))
      · exact zkc_ok zk_27_35 (by omega) (by omega) (zhb2 (e := (2, 1, 1)) rfl (by dsimp only; omega) (by dsimp only; omega) (zhb2 (e := (4, 2, 2)) rfl (by dsimp only; omega) (by dsimp only; omega) (zhb2 (e := (5, 0, 0)) rfl (by dsimp only; omega) (by dsimp only; omega) zhb0)))
      · exact zkc_ok zk_27_36 (by omega) (by omega) (zhb2 (e := (2, 1, 1)) rfl (by dsimp only; omega) (by dsimp only; omega) (zhb2 (e := (4, 2, 2)) rfl (by dsimp only; omega) (by dsimp only; omega) (zhb2 (e := (5, 1, 1)) rfl (by dsimp only; omega) (by dsimp only; omega) zhb0)))
      · exact zkc_ok zk_27_37 (by omega) (by omega) (zhb2 (e := (2, 1, 1)) rfl (by dsimp only; omega) (by dsimp only; omega) (zhb2 (e := (4, 2, 2)) rfl (by dsimp only; omega) (by dsimp only; omega) (zhb2 (e := (5, 2, 2)) rfl (by dsimp only; omega) (by dsimp only; omega) zhb0)))
      · exact zkc_ok zk_27_38 (by omega) (by omega) (zhb2 (e := (2, 1, 1)) rfl (by dsimp only; omega) (by dsimp only; omega) (zhb2 (e := (4, 2, 2)) rfl (by dsimp only; omega) (by dsimp only; omega) (zhb2 (e := (5, 3, 2147483647)) rfl (by dsimp only; omega) (by dsimp only; omega) zhb0)))
    · have i5 := zI32 (xs 4)
      rw [zI0e, zI1e] at i5
      rcases (show (xs 4).toInt ≤ (-1) ∨ (xs 4).toInt = 0 ∨ (xs 4).toInt = 1 ∨ (xs 4).toInt = 2 ∨ 3 ≤ (xs 4).toInt by omega) with h5 | h5 | h5 | h5 | h5
      · exact zkc_ok zk_27_39 (by omega) (by omega) (zhb2 (e := (2, 1, 1)) rfl (by dsimp only; omega) (by dsimp only; omega) (zhb2 (e := (4, 3, 3)) rfl (by dsimp only; omega) (by dsimp only; omega) (zhb2 (e := (5, (-2147483648), (-1))) rfl (by dsimp only; omega) (by dsimp only; omega) zhb0)))
      · exact zkc_ok zk_27_40 (by omega) (by omega) (zhb2 (e := (2, 1, 1)) rfl (by dsimp only; omega) (by dsimp only; omega) (zhb2 (e := (4, 3, 3)) rfl (by dsimp only; omega) (by dsimp only; omega) (zhb2 (e := (5, 0, 0)) rfl (by dsimp only; omega) (by dsimp only; omega) zhb0)))
      · exact zkc_ok zk_27_41 (by omega) (by omega) (zhb2 (e := (2, 1, 1)) rfl (by dsimp only; omega) (by dsimp only; omega) (zhb2 (e := (4, 3, 3)) rfl (by dsimp only; omega) (by dsimp only; omega) (zhb2 (e := (5, 1, 1)) rfl (by dsimp only; omega) (by dsimp only; omega) zhb0)))
      · exact zkc_ok zk_27_42 (by omega) (by omega) (zhb2 (e := (2, 1, 1)) rfl (by dsimp only; omega) (by dsimp only; omega) (zhb2 (e := (4, 3, 3)) rfl (by dsimp only; omega) (by dsimp only; omega) (zhb2 (e := (5, 2, 2)) rfl (by dsimp only; omega) (by dsimp only; omega) zhb0)))
      · exact zkc_ok zk_27_43 (by omega) (by omega) (zhb2 (e := (2, 1, 1)) rfl (by dsimp only; omega) (by dsimp only; omega) (zhb2 (e := (4, 3, 3)) rfl (by dsimp only; omega) (by dsimp only; omega) (zhb2 (e := (5, 3, 2147483647)) rfl (by dsimp only; omega) (by dsimp only; omega) zhb0)))
    · exact zkc_ok zk_27_44 (by omega) (by omega) (zhb2 (e := (2, 1, 1)) rfl (by dsimp only; omega) (by dsimp only; omega) (zhb2 (e := (4, 4, 2147483647)) rfl (by dsimp only; omega) (by dsimp only; omega) zhb0))
  · have i4 := zI32 (xs 3)
    rw [zI0e, zI1e] at i4
    rcases (show (xs 3).toInt ≤ (-1) ∨ (xs 3).toInt = 0 ∨ (xs 3).toInt = 1 ∨ (xs 3).toInt = 2 ∨ (xs 3).toInt = 3 ∨ 4 ≤ (xs 3).toInt by omega) with h4 | h4 | h4 | h4 | h4 | h4
    · exact zkc_ok zk_27_45 (by omega) (by omega) (zhb2 (e := (2, 2, 2)) rfl (by dsimp only; omega) (by dsimp only; omega) (zhb2 (e := (4, (-2147483648), (-1))) rfl (by dsimp only; omega) (by dsimp only; omega) zhb0))
    · have i5 := zI32 (xs 4)
      rw [zI0e, zI1e] at i5
      rcases (show (xs 4).toInt ≤ (-1) ∨ (xs 4).toInt = 0 ∨ (xs 4).toInt = 1 ∨ (xs 4).toInt = 2 ∨ 3 ≤ (xs 4).toInt by omega) with h5 | h5 | h5 | h5 | h5
      · exact zkc_ok zk_27_46 (by omega) (by omega) (zhb2 (e := (2, 2, 2)) rfl (by dsimp only; omega) (by dsimp only; omega) (zhb2 (e := (4, 0, 0)) rfl (by dsimp only; omega) (by dsimp only; omega) (zhb2 (e := (5, (-2147483648), (-1))) rfl (by dsimp only; omega) (by dsimp only; omega) zhb0)))
      · exact zkc_ok zk_27_47 (by omega) (by omega) (zhb2 (e := (2, 2, 2)) rfl (by dsimp only; omega) (by dsimp only; omega) (zhb2 (e := (4, 0, 0)) rfl (by dsimp only; omega) (by dsimp only; omega) (zhb2 (e := (5, 0, 0)) rfl (by dsimp only; omega) (by dsimp only; omega) zhb0)))
      · exact zkc_ok zk_27_48 (by omega) (by omega) (zhb2 (e := (2, 2, 2)) rfl (by dsimp only; omega) (by dsimp only; omega) (zhb2 (e := (4, 0, 0)) rfl (by dsimp only; omega) (by dsimp only; omega) (zhb2 (e := (5, 1, 1)) rfl (by dsimp only; omega) (by dsimp only; omega) zhb0)))
      · exact zkc_ok zk_27_49 (by omega) (by omega) (zhb2 (e := (2, 2, 2)) rfl (by dsimp only; omega) (by dsimp only; omega) (zhb2 (e := (4, 0, 0)) rfl (by dsimp only; omega) (by dsimp only; omega) (zhb2 (e := (5, 2, 2)) rfl (by dsimp only; omega) (by dsimp only; omega) zhb0)))
      · exact zkc_ok zk_27_50 (by omega) (by omega) (zhb2 (e := (2, 2, 2)) rfl (by dsimp only; omega) (by dsimp only; omega) (zhb2 (e := (4, 0, 0)) rfl (by dsimp only; omega) (by dsimp only; omega) (zhb2 (e := (5, 3, 2147483647)) rfl (by dsimp only; omega) (by dsimp only; omega) zhb0)))
    · have i5 := zI32 (xs 4)
      rw [zI0e, zI1e] at i5
      rcases (show (xs 4).toInt ≤ (-1) ∨ (xs 4).toInt = 0 ∨ (xs 4).toInt = 1 ∨ (xs 4).toInt = 2 ∨ 3 ≤ (xs 4).toInt by omega) with h5 | h5 | h5 | h5 | h5
      · exact zkc_ok zk_27_51 (by omega) (by omega) (zhb2 (e := (2, 2, 2)) rfl (by dsimp only; omega) (by dsimp only; omega) (zhb2 (e := (4, 1, 1)) rfl (by dsimp only; omega) (by dsimp only; omega) (zhb2 (e := (5, (-2147483648), (-1))) rfl (by dsimp only; omega) (by dsimp only; omega) zhb0)))
      · exact zkc_ok zk_27_52 (by omega) (by omega) (zhb2 (e := (2, 2, 2)) rfl (by dsimp only; omega) (by dsimp only; omega) (zhb2 (e := (4, 1, 1)) rfl (by dsimp only; omega) (by dsimp only; omega) (zhb2 (e := (5, 0, 0)) rfl (by dsimp only; omega) (by dsimp only; omega) zhb0)))
      · exact zkc_ok zk_27_53 (by omega) (by omega) (zhb2 (e := (2, 2, 2)) rfl (by dsimp only; omega) (by dsimp only; omega) (zhb2 (e := (4, 1, 1)) rfl (by dsimp only; omega) (by dsimp only; omega) (zhb2 (e := (5, 1, 1)) rfl (by dsimp only; omega) (by dsimp only; omega) zhb0)))
      · exact zkc_ok zk_27_54 (by omega) (by omega) (zhb2 (e := (2, 2, 2)) rfl (by dsimp only; omega) (by dsimp only; omega) (zhb2 (e := (4, 1, 1)) rfl (by dsimp only; omega) (by dsimp only; omega) (zhb2 (e := (5, 2, 2)) rfl (by dsimp only; omega) (by dsimp only; omega) zhb0)))
      · exact zkc_ok zk_27_55 (by omega) (by omega) (zhb2 (e := (2, 2, 2)) rfl (by dsimp only; omega) (by dsimp only; omega) (zhb2 (e := (4, 1, 1)) rfl (by dsimp only; omega) (by dsimp only; omega) (zhb2 (e := (5, 3, 2147483647)) rfl (by dsimp only; omega) (by dsimp only; omega) zhb0)))
    · have i5 := zI32 (xs 4)
      rw [zI0e, zI1e] at i5
      rcases (show (xs 4).toInt ≤ (-1) ∨ (xs 4).toInt = 0 ∨ (xs 4).toInt = 1 ∨ (xs 4).toInt = 2 ∨ 3 ≤ (xs 4).toInt by omega) with h5 | h5 | h5 | h5 | h5
      · exact zkc_ok zk_27_56 (by omega) (by omega) (zhb2 (e := (2, 2, 2)) rfl (by dsimp only; omega) (by dsimp only; omega) (zhb2 (e := (4, 2, 2)) rfl (by dsimp only; omega) (by dsimp only; omega) (zhb2 (e := (5, (-2147483648), (-1))) rfl (by dsimp only; omega) (by dsimp only; omega) zhb0)))
      · exact zkc_ok zk_27_57 (by omega) (by omega) (zhb2 (e := (2, 2, 2)) rfl (by dsimp only; omega) (by dsimp only; omega) (zhb2 (e := (4, 2, 2)) rfl (by dsimp only; omega) (by dsimp only; omega) (zhb2 (e := (5, 0, 0)) rfl (by dsimp only; omega) (by dsimp only; omega) zhb0)))
      · exact zkc_ok zk_27_58 (by omega) (by omega) (zhb2 (e := (2, 2, 2)) rfl (by dsimp only; omega) (by dsimp only; omega) (zhb2 (e := (4, 2, 2)) rfl (by dsimp only; omega) (by dsimp only; omega) (zhb2 (e := (5, 1, 1)) rfl (by dsimp only; omega) (by dsimp only; omega) zhb0)))
      · exact zkc_ok zk_27_59 (by omega) (by omega) (zhb2 (e := (2, 2, 2)) rfl (by dsimp only; omega) (by dsimp only; omega) (zhb2 (e := (4, 2, 2)) rfl (by dsimp only; omega) (by dsimp only; omega) (zhb2 (e := (5, 2, 2)) rfl (by dsimp only; omega) (by dsimp only; omega) zhb0)))
      · exact zkc_ok zk_27_60 (by omega) (by omega) (zhb2 (e := (2, 2, 2)) rfl (by dsimp only; omega) (by dsimp only; omega) (zhb2 (e := (4, 2, 2)) rfl (by dsimp only; omega) (by dsimp only; omega) (zhb2 (e := (5, 3, 2147483647)) rfl (by dsimp only; omega) (by dsimp only; omega) zhb0)))
    · have i5 := zI32 (xs 4)
      rw [zI0e, zI1e] at i5
      rcases (show (xs 4).toInt ≤ (-1) ∨ (xs 4).toInt = 0 ∨ (xs 4).toInt = 1 ∨ (xs 4).toInt = 2 ∨ 3 ≤ (xs 4).toInt by omega) with h5 | h5 | h5 | h5 | h5
      · exact zkc_ok zk_27_61 (by omega) (by omega) (zhb2 (e := (2, 2, 2)) rfl (by dsimp only; omega) (by dsimp only; omega) (zhb2 (e := (4, 3, 3)) rfl (by dsimp only; omega) (by dsimp only; omega) (zhb2 (e := (5, (-2147483648), (-1))) rfl (by dsimp only; omega) (by dsimp only; omega) zhb0)))
      · exact zkc_ok zk_27_62 (by omega) (by omega) (zhb2 (e := (2, 2, 2)) rfl (by dsimp only; omega) (by dsimp only; omega) (zhb2 (e := (4, 3, 3)) rfl (by dsimp only; omega) (by dsimp only; omega) (zhb2 (e := (5, 0, 0)) rfl (by dsimp only; omega) (by dsimp only; omega) zhb0)))
      · exact zkc_ok zk_27_63 (by omega) (by omega) (zhb2 (e := (2, 2, 2)) rfl (by dsimp only; omega) (by dsimp only; omega) (zhb2 (e := (4, 3, 3)) rfl (by dsimp only; omega) (by dsimp only; omega) (zhb2 (e := (5, 1, 1)) rfl (by dsimp only; omega) (by dsimp only; omega) zhb0)))
      · exact zkc_ok zk_27_64 (by omega) (by omega) (zhb2 (e := (2, 2, 2)) rfl (by dsimp only; omega) (by dsimp only; omega) (zhb2 (e := (4, 3, 3)) rfl (by dsimp only; omega) (by dsimp only; omega) (zhb2 (e := (5, 2, 2)) rfl (by dsimp only; omega) (by dsimp only; omega) zhb0)))
      · exact zkc_ok zk_27_65 (by omega) (by omega) (zhb2 (e := (2, 2, 2)) rfl (by dsimp only; omega) (by dsimp only; omega) (zhb2 (e := (4, 3, 3)) rfl (by dsimp only; omega) (by dsimp only; omega) (zhb2 (e := (5, 3, 2147483647)) rfl (by dsimp only; omega) (by dsimp only; omega) zhb0)))
    · exact zkc_ok zk_27_66 (by omega) (by omega) (zhb2 (e := (2, 2, 2)) rfl (by dsimp only; omega) (by dsimp only; omega) (zhb2 (e := (4, 4, 2147483647)) rfl (by dsimp only; omega) (by dsimp only; omega) zhb0))
  · have i4 := zI32 (xs 3)
    rw [zI0e, zI1e] at i4
    rcases (show (xs 3).toInt ≤ (-1) ∨ (xs 3).toInt = 0 ∨ (xs 3).toInt = 1 ∨ (xs 3).toInt = 2 ∨ (xs 3).toInt = 3 ∨ 4 ≤ (xs 3).toInt by omega) with h4 | h4 | h4 | h4 | h4 | h4
    · exact zkc_ok zk_27_67 (by omega) (by omega) (zhb2 (e := (2, 3, 3)) rfl (by dsimp only; omega) (by dsimp only; omega) (zhb2 (e := (4, (-2147483648), (-1))) rfl (by dsimp only; omega) (by dsimp only; omega) zhb0))
    · have i5 := zI32 (xs 4)
      rw [zI0e, zI1e] at i5
      rcases (show (xs 4).toInt ≤ (-1) ∨ (xs 4).toInt = 0 ∨ (xs 4).toInt = 1 ∨ (xs 4).toInt = 2 ∨ 3 ≤ (xs 4).toInt by omega) with h5 | h5 | h5 | h5 | h5
      · exact zkc_ok zk_27_68 (by omega) (by omega) (zhb2 (e := (2, 3, 3)) rfl (by dsimp only; omega) (by dsimp only; omega) (zhb2 (e := (4, 0, 0)) rfl (by dsimp only; omega) (by dsimp only; omega) (zhb2 (e := (5, (-2147483648), (-1))) rfl (by dsimp only; omega) (by dsimp only; omega) zhb0)))
      · exact zkc_ok zk_27_69 (by omega) (by omega) (zhb2 (e := (2, 3, 3)) rfl (by dsimp only; omega) (by dsimp only; omega) (zhb2 (e := (4, 0, 0)) rfl (by dsimp only; omega) (by dsimp only; omega) (zhb2 (e := (5, 0, 0)) rfl (by dsimp only; omega) (by dsimp only; omega) zhb0)))
      · exact zkc_ok zk_27_70 (by omega) (by omega) (zhb2 (e := (2, 3, 3)) rfl (by dsimp only; omega) (by dsimp only; omega) (zhb2 (e := (4, 0, 0)) rfl (by dsimp only; omega) (by dsimp only; omega) (zhb2 (e := (5, 1, 1)) rfl (by dsimp only; omega) (by dsimp only; omega) zhb0)))
      · exact zkc_ok zk_27_71 (by omega) (by omega) (zhb2 (e := (2, 3, 3)) rfl (by dsimp only; omega) (by dsimp only; omega) (zhb2 (e := (4, 0, 0)) rfl (by dsimp only; omega) (by dsimp only; omega) (zhb2 (e := (5, 2, 2)) rfl (by dsimp only; omega) (by dsimp only; omega) zhb0)))
      · exact zkc_ok zk_27_72 (by omega) (by omega) (zhb2 (e := (2, 3, 3)) rfl (by dsimp only; omega) (by dsimp only; omega) (zhb2 (e := (4, 0, 0)) rfl (by dsimp only; omega) (by dsimp only; omega) (zhb2 (e := (5, 3, 2147483647)) rfl (by dsimp only; omega) (by dsimp only; omega) zhb0)))
    · have i5 := zI32 (xs 4)
      rw [zI0e, zI1e] at i5
      rcases (show (xs 4).toInt ≤ (-1) ∨ (xs 4).toInt = 0 ∨ (xs 4).toInt = 1 ∨ (xs 4).toInt = 2 ∨ 3 ≤ (xs 4).toInt by omega) with h5 | h5 | h5 | h5 | h5
      · exact zkc_ok zk_27_73 (by omega) (by omega) (zhb2 (e := (2, 3, 3)) rfl (by dsimp only; omega) (by dsimp only; omega) (zhb2 (e := (4, 1, 1)) rfl (by dsimp only; omega) (by dsimp only; omega) (zhb2 (e := (5, (-2147483648), (-1))) rfl (by dsimp only; omega) (by dsimp only; omega) zhb0)))
      · exact zkc_ok zk_27_74 (by omega) (by omega) (zhb2 (e := (2, 3, 3)) rfl (by dsimp only; omega) (by dsimp only; omega) (zhb2 (e := (4, 1, 1)) rfl (by dsimp only; omega) (by dsimp only; omega) (zhb2 (e := (5, 0, 0)) rfl (by dsimp only; omega) (by dsimp only; omega) zhb0)))
      · exact zkc_ok zk_27_75 (by omega) (by omega) (zhb2 (e := (2, 3, 3)) rfl (by dsimp only; omega) (by dsimp only; omega) (zhb2 (e := (4, 1, 1)) rfl (by dsimp only; omega) (by dsimp only; omega) (zhb2 (e := (5, 1, 1)) rfl (by dsimp only; omega) (by dsimp only; omega) zhb0)))
      · exact zkc_ok zk_27_76 (by omega) (by omega) (zhb2 (e := (2, 3, 3)) rfl (by dsimp only; omega) (by dsimp only; omega) (zhb2 (e := (4, 1, 1)) rfl (by dsimp only; omega) (by dsimp only; omega) (zhb2 (e := (5, 2, 2)) rfl (by dsimp only; omega) (by dsimp only; omega) zhb0)))
      · exact zkc_ok zk_27_77 (by omega) (by omega) (zhb2 (e := (2, 3, 3)) rfl (by dsimp only; omega) (by dsimp only; omega) (zhb2 (e := (4, 1, 1)) rfl (by dsimp only; omega) (by dsimp only; omega) (zhb2 (e := (5, 3, 2147483647)) rfl (by dsimp only; omega) (by dsimp only; omega) zhb0)))
    · have i5 := zI32 (xs 4)
      rw [zI0e, zI1e] at i5
      rcases (show (xs 4).toInt ≤ (-1) ∨ (xs 4).toInt = 0 ∨ (xs 4).toInt = 1 ∨ (xs 4).toInt = 2 ∨ 3 ≤ (xs 4).toInt by omega) with h5 | h5 | h5 | h5 | h5
      · exact zkc_ok zk_27_78 (by omega) (by omega) (zhb2 (e := (2, 3, 3)) rfl (by dsimp only; omega) (by dsimp only; omega) (zhb2 (e := (4, 2, 2)) rfl (by dsimp only; omega) (by dsimp only; omega) (zhb2 (e := (5, (-2147483648), (-1))) rfl (by dsimp only; omega) (by dsimp only; omega) zhb0)))
      · exact zkc_ok zk_27_79 (by omega) (by omega) (zhb2 (e := (2, 3, 3)) rfl (by dsimp only; omega) (by dsimp only; omega) (zhb2 (e := (4, 2, 2)) rfl (by dsimp only; omega) (by dsimp only; omega) (zhb2 (e := (5, 0, 0)) rfl (by dsimp only; omega) (by dsimp only; omega) zhb0)))
      · exact zkc_ok zk_27_80 (by omega) (by omega) (zhb2 (e := (2, 3, 3)) rfl (by dsimp only; omega) (by dsimp only; omega) (zhb2 (e := (4, 2, 2)) rfl (by dsimp only; omega) (by dsimp only; omega) (zhb2 (e := (5, 1, 1)) rfl (by dsimp only; omega) (by dsimp only; omega) zhb0)))
      · exact zkc_ok zk_27_81 (by omega) (by omega) (zhb2 (e := (2, 3, 3)) rfl (by dsimp only; omega) (by dsimp only; omega) (zhb2 (e := (4, 2, 2)) rfl (by dsimp only; omega) (by dsimp only; omega) (zhb2 (e := (5, 2, 2)) rfl (by dsimp only; omega) (by dsimp only; omega) zhb0)))
      · exact zkc_ok zk_27_82 (by omega) (by omega) (zhb2 (e := (2, 3, 3)) rfl (by dsimp only; omega) (by dsimp only; omega) (zhb2 (e := (4, 2, 2)) rfl (by dsimp only; omega) (by dsimp only; omega) (zhb2 (e := (5, 3, 2147483647)) rfl (by dsimp only; omega) (by dsimp only; omega) zhb0)))
    · have i5 := zI32 (xs 4)
      rw [zI0e, zI1e] at i5
      rcases (show (xs 4).toInt ≤ (-1) ∨ (xs 4).toInt = 0 ∨ (xs 4).toInt = 1 ∨ (xs 4).toInt = 2 ∨ 3 ≤ (xs 4).toInt by omega) with h5 | h5 | h5 | h5 | h5
      · exact zkc_ok zk_27_83 (by omega) (by omega) (zhb2 (e := (2, 3, 3)) rfl (by dsimp only; omega) (by dsimp only; omega) (zhb2 (e := (4, 3, 3)) rfl (by dsimp only; omega) (by dsimp only; omega) (zhb2 (e := (5, (-2147483648), (-1))) rfl (by dsimp only; omega) (by dsimp only; omega) zhb0)))
      · exact zkc_ok zk_27_84 (by omega) (by omega) (zhb2 (e := (2, 3, 3)) rfl (by dsimp only; omega) (by dsimp only; omega) (zhb2 (e := (4, 3, 3)) rfl (by dsimp only; omega) (by dsimp only; omega) (zhb2 (e := (5, 0, 0)) rfl (by dsimp only; omega) (by dsimp only; omega) zhb0)))
      · exact zkc_ok zk_27_85 (by omega) (by omega) (zhb2 (e := (2, 3, 3)) rfl (by dsimp only; omega) (by dsimp only; omega) (zhb2 (e := (4, 3, 3)) rfl (by dsimp only; omega) (by dsimp only; omega) (zhb2 (e := (5, 1, 1)) rfl (by dsimp only; omega) (by dsimp only; omega) zhb0)))
      · exact zkc_ok zk_27_86 (by omega) (by omega) (zhb2 (e := (2, 3, 3)) rfl (by dsimp only; omega) (by dsimp only; omega) (zhb2 (e := (4, 3, 3)) rfl (by dsimp only; omega) (by dsimp only; omega) (zhb2 (e := (5, 2, 2)) rfl (by dsimp only; omega) (by dsimp only; omega) zhb0)))
      · exact zkc_ok zk_27_87 (by omega) (by omega) (zhb2 (e := (2, 3, 3)) rfl (by dsimp only; omega) (by dsimp only; omega) (zhb2 (e := (4, 3, 3)) rfl (by dsimp only; omega) (by dsimp only; omega) (zhb2 (e := (5, 3, 2147483647)) rfl (by dsimp only; omega) (by dsimp only; omega) zhb0)))
    · exact zkc_ok zk_27_88 (by omega) (by omega) (zhb2 (e := (2, 3, 3)) rfl (by dsimp only; omega) (by dsimp only; omega) (zhb2 (e := (4, 4, 2147483647)) rfl (by dsimp only; omega) (by dsimp only; omega) zhb0))
  · exact zkc_ok zk_27_89 (by omega) (by omega) (zhb2 (e := (2, 4, 2147483647)) rfl (by dsimp only; omega) (by dsimp only; omega) zhb0)
theorem zkin_28 (xs : Nat → Int32) (v : Int32) (hv : v.toInt = 28) : zKin xs v := by
  exact zkc_ok zk_28_0 (by omega) (by omega) zhb0
theorem zkin_29 (xs : Nat → Int32) (v : Int32) (hv : v.toInt = 29) : zKin xs v := by
  have i2 := zI32 (xs 1)
  rw [zI0e, zI1e] at i2
  rcases (show (xs 1).toInt ≤ 0 ∨ (1 ≤ (xs 1).toInt ∧ (xs 1).toInt ≤ 1000) ∨ 1001 ≤ (xs 1).toInt by omega) with h2 | h2 | h2
  · exact zkc_ok zk_29_0 (by omega) (by omega) (zhb2 (e := (2, (-2147483648), 0)) rfl (by dsimp only; omega) (by dsimp only; omega) zhb0)
  · have i3 := zI32 (xs 2)
    rw [zI0e, zI1e] at i3
    rcases (show (xs 2).toInt ≤ (-1) ∨ (xs 2).toInt = 0 ∨ (xs 2).toInt = 1 ∨ 2 ≤ (xs 2).toInt by omega) with h3 | h3 | h3 | h3
    · exact zkc_ok zk_29_1 (by omega) (by omega) (zhb2 (e := (2, 1, 1000)) rfl (by dsimp only; omega) (by dsimp only; omega) (zhb2 (e := (3, (-2147483648), (-1))) rfl (by dsimp only; omega) (by dsimp only; omega) zhb0))
    · exact zkc_ok zk_29_2 (by omega) (by omega) (zhb2 (e := (2, 1, 1000)) rfl (by dsimp only; omega) (by dsimp only; omega) (zhb2 (e := (3, 0, 0)) rfl (by dsimp only; omega) (by dsimp only; omega) zhb0))
    · exact zkc_ok zk_29_3 (by omega) (by omega) (zhb2 (e := (2, 1, 1000)) rfl (by dsimp only; omega) (by dsimp only; omega) (zhb2 (e := (3, 1, 1)) rfl (by dsimp only; omega) (by dsimp only; omega) zhb0))
    · exact zkc_ok zk_29_4 (by omega) (by omega) (zhb2 (e := (2, 1, 1000)) rfl (by dsimp only; omega) (by dsimp only; omega) (zhb2 (e := (3, 2, 2147483647)) rfl (by dsimp only; omega) (by dsimp only; omega) zhb0))
  · exact zkc_ok zk_29_5 (by omega) (by omega) (zhb2 (e := (2, 1001, 2147483647)) rfl (by dsimp only; omega) (by dsimp only; omega) zhb0)
theorem zkin_30 (xs : Nat → Int32) (v : Int32) (hv : v.toInt = 30) : zKin xs v := by
  exact zkc_ok zk_30_0 (by omega) (by omega) zhb0
theorem zkin_31 (xs : Nat → Int32) (v : Int32) (hv : v.toInt = 31) : zKin xs v := by
  have i3 := zI32 (xs 2)
  rw [zI0e, zI1e] at i3
  rcases (show (xs 2).toInt ≤ (-1) ∨ (xs 2).toInt = 0 ∨ (xs 2).toInt = 1 ∨ 2 ≤ (xs 2).toInt by omega) with h3 | h3 | h3 | h3
  · exact zkc_ok zk_31_0 (by omega) (by omega) (zhb2 (e := (3, (-2147483648), (-1))) rfl (by dsimp only; omega) (by dsimp only; omega) zhb0)
  · exact zkc_ok zk_31_1 (by omega) (by omega) (zhb2 (e := (3, 0, 0)) rfl (by dsimp only; omega) (by dsimp only; omega) zhb0)
  · exact zkc_ok zk_31_2 (by omega) (by omega) (zhb2 (e := (3, 1, 1)) rfl (by dsimp only; omega) (by dsimp only; omega) zhb0)
  · exact zkc_ok zk_31_3 (by omega) (by omega) (zhb2 (e := (3, 2, 2147483647)) rfl (by dsimp only; omega) (by dsimp only; omega) zhb0)
theorem zkin_32 (xs : Nat → Int32) (v : Int32) (hv : v.toInt = 32) : zKin xs v := by
  exact zkc_ok zk_32_0 (by omega) (by omega) zhb0
theorem zkin_33 (xs : Nat → Int32) (v : Int32) (hv : v.toInt = 33) : zKin xs v := by
  exact zkc_ok zk_33_0 (by omega) (by omega) zhb0
theorem zkin_34 (xs : Nat → Int32) (v : Int32) (hv : v.toInt = 34) : zKin xs v := by
  have i2 := zI32 (xs 1)
  rw [zI0e, zI1e] at i2
  rcases (show (xs 1).toInt ≤ (-1) ∨ (xs 1).toInt = 0 ∨ (xs 1).toInt = 1 ∨ (xs 1).toInt = 2 ∨ (xs 1).toInt = 3 ∨ 4 ≤ (xs 1).toInt by omega) with h2 | h2 | h2 | h2 | h2 | h2
  · exact zkc_ok zk_34_0 (by omega) (by omega) (zhb2 (e := (2, (-2147483648), (-1))) rfl (by dsimp only; omega) (by dsimp only; omega) zhb0)
  · exact zkc_ok zk_34_1 (by omega) (by omega) (zhb2 (e := (2, 0, 0)) rfl (by dsimp only; omega) (by dsimp only; omega) zhb0)
  · exact zkc_ok zk_34_2 (by omega) (by omega) (zhb2 (e := (2, 1, 1)) rfl (by dsimp only; omega) (by dsimp only; omega) zhb0)
  · exact zkc_ok zk_34_3 (by omega) (by omega) (zhb2 (e := (2, 2, 2)) rfl (by dsimp only; omega) (by dsimp only; omega) zhb0)
  · exact zkc_ok zk_34_4 (by omega) (by omega) (zhb2 (e := (2, 3, 3)) rfl (by dsimp only; omega) (by dsimp only; omega) zhb0)
  · exact zkc_ok zk_34_5 (by omega) (by omega) (zhb2 (e := (2, 4, 2147483647)) rfl (by dsimp only; omega) (by dsimp only; omega) zhb0)
theorem zkin_35 (xs : Nat → Int32) (v : Int32) (hv : v.toInt = 35) : zKin xs v := by
  exact zkc_ok zk_35_0 (by omega) (by omega) zhb0
theorem zkin_36 (xs : Nat → Int32) (v : Int32) (hv : v.toInt = 36) : zKin xs v := by
  exact zkc_ok zk_36_0 (by omega) (by omega) zhb0
theorem zkin_a (xs : Nat → Int32) (v : Int32) (hv : v.toInt ≤ -1) : zKin xs v := zkc_ok zk_37_0 (by have := zI32 v; rw [zI0e] at this; omega) (by omega) zhb0
theorem zkin_b (xs : Nat → Int32) (v : Int32) (hv : 37 ≤ v.toInt) : zKin xs v := zkc_ok zk_38_0 (by omega) (by have := zI32 v; rw [zI1e] at this; omega) zhb0
theorem zkin (h12 : ∀ xs v, v.toInt = 12 → zKin xs v) (xs : Nat → Int32) (v : Int32) : zKin xs v := by
  rcases (show v.toInt ≤ -1 ∨ 37 ≤ v.toInt ∨ v.toInt = 0 ∨ v.toInt = 1 ∨ v.toInt = 2 ∨ v.toInt = 3 ∨ v.toInt = 4 ∨ v.toInt = 5 ∨ v.toInt = 6 ∨ v.toInt = 7 ∨ v.toInt = 8 ∨ v.toInt = 9 ∨ v.toInt = 10 ∨ v.toInt = 11 ∨ v.toInt = 12 ∨ v.toInt = 13 ∨ v.toInt = 14 ∨ v.toInt = 15 ∨ v.toInt = 16 ∨ v.toInt = 17 ∨ v.toInt = 18 ∨ v.toInt = 19 ∨ v.toInt = 20 ∨ v.toInt = 21 ∨ v.toInt = 22 ∨ v.toInt = 23 ∨ v.toInt = 24 ∨ v.toInt = 25 ∨ v.toInt = 26 ∨ v.toInt = 27 ∨ v.toInt = 28 ∨ v.toInt = 29 ∨ v.toInt = 30 ∨ v.toInt = 31 ∨ v.toInt = 32 ∨ v.toInt = 33 ∨ v.toInt = 34 ∨ v.toInt = 35 ∨ v.toInt = 36 by omega) with h | h | h | h | h | h | h | h | h | h | h | h | h | h | h | h | h | h | h | h | h | h | h | h | h | h | h | h | h | h | h | h | h | h | h | h | h | h | h
  · exact zkin_a xs v h
  · exact zkin_b xs v h
  · exact zkin_0 xs v h
  · exact zkin_1 xs v h
  · exact zkin_2 xs v h
  · exact zkin_3 xs v h
  · exact zkin_4 xs v h
  · exact zkin_5 xs v h
  · exact zkin_6 xs v h
  · exact zkin_7 xs v h
  · exact zkin_8 xs v h
  · exact zkin_9 xs v h
  · exact zkin_10 xs v h
  · exact zkin_11 xs v h
  · exact h12 xs v h
  · exact zkin_13 xs v h
  · exact zkin_14 xs v h
  · exact zkin_15 xs v h
  · exact zkin_16 xs v h
  · exact zkin_17 xs v h
  · exact zkin_18 xs v h
  · exact zkin_19 xs v h
  · exact zkin_20 xs v h
  · exact zkin_21 xs v h
  · exact zkin_22 xs v h
  · exact zkin_23 xs v h
  · exact zkin_24 xs v h
  · exact zkin_25 xs v h
  · exact zkin_26 xs v h
  · exact zkin_27 xs v h
  · exact zkin_28 xs v h
  · exact zkin_29 xs v h
  · exact zkin_30 xs v h
  · exact zkin_31 xs v h
  · exact zkin_32 xs v h
  · exact zkin_33 xs v h
  · exact zkin_34 xs v h
  · exact zkin_35 xs v h
  · exact zkin_36 xs v h
/-- from the loop's head to the switch -/
def eS2 (s : zP) : Bool := Nat.beq s.1 40 && (eLo s.2.1 zl1 && (eLs eV s.2.2.1 [(1, 7, 0)] && (Nat.beq s.2.2.2.1.1 8 && ((match s.2.2.2.1.2.2.2 with | [m] => Nat.beq m.1 4 && (eV m.2.1 (1, 1, 0) && (eV m.2.2.1 (1, 0, 63) && Nat.beq m.2.2.2 7)) | _ => false) && (Nat.beq s.2.2.2.2.1.1 85 && (eT 7 s.2.2.2.2.1.2 zw1 && (Nat.ble s.2.2.2.2.2.1 1000 && Nat.ble s.2.2.2.2.2.2 100000)))))))
def zsq2b : Bool := match ygo zE0 zst6 100 zcon4 (fun pc => Nat.beq pc 40) 1000 1000 1000 300 zm_300 zm_300.2.2.2.2.1 23 zl1 [] (7, zb0, [], []) (85, zw1) 1000 100000 with
  | some [s] => eS2 s
  | _ => false
theorem zsq2 : zsq2b = true := by decide +kernel
/-- shorter scripts -/
def zstL (L : Nat) : zQ := fun p => bif Nat.beq p 1000 then some (0, L, [(L, 1, zI0, zI1)], []) else none
def zkL (L : Nat) : Bool := match yex zE0 (zstL L) 100 zcon4 1000 1000 300 zm_300 zm_300.2.2.2.2.1 23 zl1 [] (1, [], [], []) (85, zw1) 1000 100000 with
  | some R => zgood R
  | none => false
theorem zkLs : (List.range 6).all zkL = true := by decide +kernel
theorem zlaw (h12 : ∀ xs v, v.toInt = 12 → zKin xs v) {L : Nat} {xs : Nat → Int32} (hL : L ≤ 6) : ∃ n r, mrun (zE1 L xs) n 1000 300 0 [(0, .ref 1000)] [] [] 0 0 = some r ∧ r.1 = .inr (some (.int 1)) ∧ r.2.2.1 ≤ 600002 ∧ r.2.2.2 ≤ 7302232 := by
  have main : mGd (zE1 L xs) zP9 1000 300 0 [(0, .ref 1000)] [] [] 0 0 := by
    have h := zsq1
    unfold zsq1b at h
    split at h
    · rename_i s e
      unfold zE0 at e
      rw [ygo_env (c' := zro0 L xs)] at e
      refine ygo_ok (E := zE1 L xs) (zcon4_ok rfl rfl rfl) (fun mi M hM => zmt_sr rfl mi M hM) _ _ _ _ _ _ _ _ _ _ _ _ _ e rfl ⟨[], rfl⟩ [0] [(0, .ref 1000)] [] [] 0 0 zP9 (fun p t n base es h => by cases h) ⟨rfl, rfl, fun e he => (by cases he), fun e he => (by cases he), fun e he => (by cases he)⟩ (fun i a e => ?_) trivial ⟨rfl, by decide, fun p hp => absurd hp (Nat.not_lt_zero _)⟩ (Nat.le_refl _) (Nat.le_refl _) (fun s' hs' r' ls' st' mem' nc' ns' hx hp => ?_)
      · match i, e with
        | 0, e => cases e; exact ⟨.ref 1000, rfl, rfl⟩
      · rcases List.mem_singleton.mp hs' with rfl
        simp only [eS1, Bool.and_eq_true, zbe, Nat.ble_eq] at h
        obtain ⟨g1, g2, g3, g4, g5, g6, g7, g8⟩ := h
        obtain ⟨p1, p2, p3, p4, p5, p6⟩ := hp
        rw [g1]
        have hst : st' = [] := by
          rw [List.isEmpty_iff.mp g3] at p2
          cases st' with
          | nil => rfl
          | cons _ _ => exact p2.elim
        subst hst
        have hr : r' = [0] := by
          obtain ⟨t, rfl⟩ := hx
          have := p3.1
          rw [g4] at this
          simp at this
          rw [this]; rfl
        subst hr
        have hw : s'.2.2.2.2.1 = (85, zw1) := Prod.ext g5 (eT_ok 7 _ _ g6)
        rw [hw] at p4
        have p1 := eLo_ok g2 p1
        by_cases h6 : L = 6
        · subst h6
          have hX : zX [0] (zr7 xs) := ⟨_, rfl⟩
          have h := zsq2
          unfold zsq2b at h
          split at h
          · rename_i s2 e2
            unfold zE0 at e2
            rw [ygo_env (c' := zro0 6 xs)] at e2
            refine ygo_ok (E := zE1 6 xs) (zcon4_ok rfl rfl rfl) (fun mi M hM => zmt_sr rfl mi M hM) _ _ _ _ _ _ _ _ _ _ _ _ _ e2 rfl ⟨[], rfl⟩ (zr7 xs) ls' [] mem' nc' ns' zP9 (zro6 xs _ (fun i hi => rfl)) ⟨rfl, rfl, ?_, fun e he => (by cases he), fun e he => (by cases he)⟩ (p1.ex hX) trivial (p4.ex hX) (by omega) (by omega) (fun s3 hs3 r3 ls3 st3 mem3 nc3 ns3 hx3 hp3 => ?_)
            · intro e he
              simp only [zb0, List.mem_cons, List.not_mem_nil, or_false] at he
              rcases he with rfl | rfl | rfl | rfl | rfl | rfl <;> exact ⟨_, rfl, (zI32 _).1, (zI32 _).2⟩
            · rcases List.mem_singleton.mp hs3 with rfl
              simp only [eS2, Bool.and_eq_true, zbe, Nat.ble_eq] at h
              obtain ⟨k1, k2, k3, k4, k5, k6, k7, k8, k9⟩ := h
              obtain ⟨q1, q2, q3, q4, q5, q6⟩ := hp3
              split at k5
              · rename_i mm em
                simp only [Bool.and_eq_true, zbe] at k5
                obtain ⟨m1, m2, m3, m4⟩ := k5
                have hmm := q3.2.2.2.2 mm (by rw [em]; exact List.mem_cons_self)
                obtain ⟨x, y, z, z1, z2, z3, z4⟩ := hmm
                rw [eV_ok m2] at z1
                rw [m4] at z4
                obtain ⟨t, rfl⟩ := hx3
                have hlen := q3.1
                rw [k4] at hlen
                have ht : t.length = 1 := by simpa [zr7] using hlen
                obtain ⟨u, rfl⟩ : ∃ u, t = [u] := by
                  match t, ht with
                  | [u], _ => exact ⟨u, rfl⟩
                have hu : u = z.toInt := by
                  have : (zr7 xs ++ [u])[7]? = some u := rfl
                  rw [this] at z4
                  exact Option.some.inj z4
                subst hu
                rw [k1]
                have hw3 : s3.2.2.2.2.1 = (85, zw1) := Prod.ext k6 (eT_ok 7 _ _ k7)
                rw [hw3] at q4
                rw [eLs_ok (fun a b h => eV_ok h) k3] at q2
                exact zkin h12 xs z ls3 st3 mem3 nc3 ns3 (eLo_ok k2 q1) q2 q4 (by omega) (by omega)
              · cases k5
          · cases h
        · have h := List.all_eq_true.mp zkLs L (List.mem_range.mpr (by omega))
          unfold zkL at h
          split at h
          · rename_i R eR9
            unfold zE0 at eR9
            rw [yex_env (c' := zro0 L xs), yex_eq] at eR9
            exact zex_ok (E := zE1 L xs) (zcon4_ok rfl rfl rfl) (fun mi M hM => zmt_sr rfl mi M hM) _ _ _ _ _ _ _ _ _ _ _ _ _ eR9 rfl ⟨[], rfl⟩ [0] ls' [] mem' nc' ns' zP9 (fun p t n base es h => by
              unfold zstL at h
              cases c0 : Nat.beq p 1000 with
              | true =>
                rw [c0] at h
                cases h
                obtain rfl := zbe.mp c0
                refine ⟨Nat.le_refl _, fun j => .int (xs j), rfl, fun j hj => ⟨1, zI0, zI1, ?_, xs j, rfl, (zI32 _).1, (zI32 _).2⟩⟩
                unfold zba
                rw [show Nat.ble (Nat.succ j) L = true from Nat.ble_eq.mpr hj]
                rfl
              | false => rw [c0] at h; cases h) ⟨rfl, rfl, fun e he => (by cases he), fun e he => (by cases he), fun e he => (by cases he)⟩ p1 trivial p4 (by omega) (by omega) (fun o ho r9 res hx9 hu => zgood_ok (r := [0]) h ho hu)
          · cases h
    · cases h
  obtain ⟨n, r, h1, h2, h3, h4⟩ := main
  exact ⟨n, r, h1, h2, h3, h4⟩
