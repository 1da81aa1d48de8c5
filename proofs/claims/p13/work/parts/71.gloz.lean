/-! the law, all pieces -/
set_option maxRecDepth 1000000 in
theorem zlcs : zm_300.2.2.2.2.1 = zlc_0 ++ (zlc_1 ++ (zlc_2 ++ (zlc_3 ++ (zlc_4 ++ (zlc_5 ++ (zlc_6 ++ (zlc_7 ++ (zlc_8 ++ (zlc_9 ++ (zlc_10 ++ (zlc_11 ++ (zlc_12 ++ (zlc_13 ++ (zlc_14 ++ (zlc_15 ++ (zlc_16 ++ (zlc_17))))))))))))))))) := rfl
def cMethL (M : mMeth) (hh : List (List Nat)) : Bool := plainFor M.1 && decide (M.1.cls ≠ "java/lang/invoke/MethodHandle") && decide (M.1.cls ≠ "java/lang/invoke/VarHandle") && Nat.ble M.2.2.1 21 && cHan M M.2.2.2.2.2 hh && zsr M.2.2.2.2.1
theorem zlkh : cMethL zm_300 [] = true := by decide +kernel
theorem zlkw : mWord zm_300 ∈ zGt := List.mem_filter.mpr ⟨List.mem_cons_self, rfl⟩
theorem cMethL_ok {E : mEnv} (hE : E.1 = zmt) (hE2 : E.2.2.2 = zxn) {M : mMeth} {hh : List (List Nat)} (hc : cMethL M hh = true) (hw : mWord M ∈ zGt) (hrows : ∀ q ∈ M.2.2.2.2.1, ∃ h, cRow M q h = true) : mMok E zGt zcl zXt M := by
  simp only [cMethL, Bool.and_eq_true, decide_eq_true_eq, Nat.ble_eq] at hc
  obtain ⟨⟨⟨⟨⟨k1, k2⟩, k3⟩, k4⟩, k7⟩, -⟩ := hc
  refine ⟨k1, ⟨k2, k3⟩, k4, hw, ?_, cHan_ok k7⟩
  intro q hq
  obtain ⟨h, hr⟩ := hrows q hq
  simp only [cRow, Bool.and_eq_true, decide_eq_true_eq, Nat.ble_eq] at hr
  obtain ⟨⟨⟨m1, m2⟩, m3⟩, m4⟩ := hr
  cases c9 : Nat.beq q.2.2.2.1 9 with
  | true =>
    rw [c9] at m4
    have e9 := zbe.mp c9
    exact ⟨m1, m2, fun _ => cLkC_ok hE m4, fun h => by omega, fun h => by omega, fun h => by omega, m3⟩
  | false =>
    rw [c9] at m4
    have e9 : q.2.2.2.1 ≠ 9 := fun e => by rw [zbe.mpr e] at c9; cases c9
    cases c8 : Nat.beq q.2.2.2.1 8 with
    | true =>
      rw [c8] at m4
      have e8 := zbe.mp c8
      exact ⟨m1, m2, fun h => by omega, fun _ => cLkT_ok hE2 m4, fun h => by omega, fun h => by omega, m3⟩
    | false =>
      rw [c8] at m4
      have e8 : q.2.2.2.1 ≠ 8 := fun e => by rw [zbe.mpr e] at c8; cases c8
      cases c7 : Nat.beq q.2.2.2.1 7 with
      | true =>
        rw [c7] at m4
        have e7 := zbe.mp c7
        exact ⟨m1, m2, fun h => by omega, fun h => by omega, fun _ => cLkP_ok m4, fun h => by omega, m3⟩
      | false =>
        rw [c7] at m4
        have e7 : q.2.2.2.1 ≠ 7 := fun e => by rw [zbe.mpr e] at c7; cases c7
        exact ⟨m1, m2, fun h => absurd h e9, fun h => absurd h e8, fun h => absurd h e7, fun _ => cLk_ok m4, m3⟩
theorem zlrows : ∀ q ∈ zm_300.2.2.2.2.1, ∃ h, cRow zm_300 q h = true := by
  rw [zlcs]
  intro q hq
  rcases List.mem_append.mp hq with hq | hq
  · exact cAll_ok zlk_0 q hq
  rcases List.mem_append.mp hq with hq | hq
  · exact cAll_ok zlk_1 q hq
  rcases List.mem_append.mp hq with hq | hq
  · exact cAll_ok zlk_2 q hq
  rcases List.mem_append.mp hq with hq | hq
  · exact cAll_ok zlk_3 q hq
  rcases List.mem_append.mp hq with hq | hq
  · exact cAll_ok zlk_4 q hq
  rcases List.mem_append.mp hq with hq | hq
  · exact cAll_ok zlk_5 q hq
  rcases List.mem_append.mp hq with hq | hq
  · exact cAll_ok zlk_6 q hq
  rcases List.mem_append.mp hq with hq | hq
  · exact cAll_ok zlk_7 q hq
  rcases List.mem_append.mp hq with hq | hq
  · exact cAll_ok zlk_8 q hq
  rcases List.mem_append.mp hq with hq | hq
  · exact cAll_ok zlk_9 q hq
  rcases List.mem_append.mp hq with hq | hq
  · exact cAll_ok zlk_10 q hq
  rcases List.mem_append.mp hq with hq | hq
  · exact cAll_ok zlk_11 q hq
  rcases List.mem_append.mp hq with hq | hq
  · exact cAll_ok zlk_12 q hq
  rcases List.mem_append.mp hq with hq | hq
  · exact cAll_ok zlk_13 q hq
  rcases List.mem_append.mp hq with hq | hq
  · exact cAll_ok zlk_14 q hq
  rcases List.mem_append.mp hq with hq | hq
  · exact cAll_ok zlk_15 q hq
  rcases List.mem_append.mp hq with hq | hq
  · exact cAll_ok zlk_16 q hq
  exact cAll_ok zlk_17 q hq
