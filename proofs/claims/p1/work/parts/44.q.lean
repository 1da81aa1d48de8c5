/-! burst, as a kind of calls: both sides by contract -/
def zkq (lo hi : Int) (b : zB) : Bool := match yex zE0 zst6 200 zcon6 100000 1000 300 zm_300 zm_300.2.2.2.2.1 40 zl1 [(1, 7, 0)] (8, (7, lo, hi) :: (b ++ zb0), [], []) (85, zw1) 1000 100000 with
  | some L => zgood L
  | none => false
theorem zkq_ok {lo hi : Int} {b : zB} (h : zkq lo hi b = true) {xs : Nat → Int32} {v : Int32} (h1 : lo ≤ v.toInt) (h2 : v.toInt ≤ hi) (hb : ∀ e ∈ b, ∃ u, (zr8 xs v)[e.1]? = some u ∧ e.2.1 ≤ u ∧ u ≤ e.2.2) : zKin xs v := by
  intro ls st mem nc ns hl hs hm hnc hns
  unfold zkq at h
  split at h
  · rename_i L e
    unfold zE0 at e
    rw [yex_env (c' := zro0 6 xs), yex_eq] at e
    refine zex_ok (E := zE1 6 xs) (zcon6_ok rfl rfl rfl) (fun mi M hM => zmt_sr rfl mi M hM) _ _ _ _ _ _ _ _ _ _ _ _ _ e rfl ⟨[], rfl⟩ (zr8 xs v) ls st mem nc ns zP9 (zro6 xs _ (fun i hi => ?_)) ⟨rfl, rfl, ?_, fun e he => (by cases he), fun e he => (by cases he)⟩ hl hs hm hnc hns (fun o ho r' res hx hu => zgood_ok (r := zr8 xs v) h ho hu)
    · match i, hi with
      | 0, _ => rfl
      | 1, _ => rfl
      | 2, _ => rfl
      | 3, _ => rfl
      | 4, _ => rfl
      | 5, _ => rfl
      | 6, _ => rfl
    · intro e he
      rcases List.mem_cons.mp he with rfl | he
      · exact ⟨v.toInt, rfl, h1, h2⟩
      · rcases List.mem_append.mp he with he | he
        · exact hb e he
        · simp only [zb0, List.mem_cons, List.not_mem_nil, or_false] at he
          rcases he with rfl | rfl | rfl | rfl | rfl | rfl <;> exact ⟨_, rfl, (zI32 _).1, (zI32 _).2⟩
  · cases h
