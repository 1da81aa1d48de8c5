/-! the law in the small machine, at the real tables -/
section
def zrok (ks : List zR) (g : Nat → Int32) (j : Nat) : Bool := match zba ks j with
  | some q => Nat.beq q.1 1 && decide (q.2.1 ≤ (g j).toInt) && decide ((g j).toInt ≤ q.2.2)
  | none => false
theorem zrok_ok {ks : List zR} {g : Nat → Int32} {n : Nat} (h : ((List.range n).all (zrok ks g)) = true) (j : Nat) (hj : j < n) : yok (ks, []) j (.int (g j)) := by
  have := List.all_eq_true.mp h j (List.mem_range.mpr hj)
  unfold zrok at this
  split at this
  · rename_i q eq
    simp only [Bool.and_eq_true, decide_eq_true_eq] at this
    obtain ⟨t, l, u⟩ := q
    obtain ⟨⟨e, h1⟩, h2⟩ := this
    obtain rfl : t = 1 := zbe.mp e
    exact ⟨⟨_, eq, yrm1 rfl h1 h2⟩, fun p hp => by cases hp⟩
  · cases this
theorem zrk1 : ((List.range 7).all (zrok [(3, 1, 1, 1), (7, 1, 0, 0)] (fun j => Int32.ofInt (zaL.getD j 0)))) = true := by decide +kernel
theorem zrk2 : ((List.range 7).all (zrok [(3, 1, 99, 99), (4, 1, 8, 8), (5, 1, 64, 64), (6, 1, 99, 99), (7, 1, 9999, 9999)] (fun j => Int32.ofInt (zaH.getD j 0)))) = true := by decide +kernel
theorem zrk4 : ((List.range 104).all (zrok [(104, 1, 0, 127)] (fun j => zaS.getD j 0))) = true := by decide +kernel
theorem zFf (L : Nat) (xs : Nat → Int32) : yFf (zro0 L xs) := by
  intro r h0 p t nv k es e
  have dk : ∀ c : Int, zd r (zk c) = some c := fun c => zd_some.mpr ⟨0, h0, by simp only [zk]; omega⟩
  unfold yroT at e
  cases c1 : Nat.beq p 1001 with
  | true =>
    rw [c1] at e
    cases e
    rw [zbe.mp c1]
    exact ⟨by omega, 7, _, rfl, by decide, by decide, rfl, dk 7, zrok_ok zrk1, fun m => rfl⟩
  | false =>
  rw [c1] at e
  cases c2 : Nat.beq p 1002 with
  | true =>
    rw [c2] at e
    cases e
    rw [zbe.mp c2]
    exact ⟨by omega, 7, _, rfl, by decide, by decide, rfl, dk 7, zrok_ok zrk2, fun m => rfl⟩
  | false =>
  rw [c2] at e
  cases c3 : Nat.beq p 1003 with
  | true =>
    rw [c3] at e
    cases e
    rw [zbe.mp c3]
    refine ⟨by omega, 10, _, rfl, by decide, by decide, rfl, dk 10, fun j hj => ⟨⟨(4, 0, 0), ?_, ⟨_, rfl⟩⟩, fun p hp => by cases hp⟩, fun m => rfl⟩
    have : Nat.ble (Nat.succ j) 10 = true := by rw [Nat.ble_eq]; omega
    simp only [zba, this, cond_true]
  | false =>
  rw [c3] at e
  cases c4 : Nat.beq p 1004 with
  | true =>
    rw [c4] at e
    cases e
    rw [zbe.mp c4]
    exact ⟨by omega, 104, _, rfl, by decide, by decide, rfl, dk 104, zrok_ok zrk4, fun m => rfl⟩
  | false => rw [c4] at e; cases e
theorem zlaw {L : Nat} {xs : Nat → Int32} (h : L ≤ 3072) : ∃ n r, mrun (zE1 L xs) n 1000 300 0 [(0, .ref 1000)] [] [] 0 0 = some r ∧ r.1 = .inr (some (.int 1)) ∧ r.2.2.1 ≤ 601024 ∧ r.2.2.2 ≤ 7293034 :=
  yLaw (zFf L xs) ⟨h, _, rfl, fun j _ => ⟨xs j, rfl⟩⟩
end
