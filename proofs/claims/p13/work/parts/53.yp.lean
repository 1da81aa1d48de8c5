/-! WHAT HOLDS of the memory beside its types. -/
section
/-- ghosts: a group and a segment, whatever they are -/
abbrev yGh : Type := Nat × Nat
variable {gh : yGh}
/-- how places of the row of numbers are bound: 1 below the SEGMENTS, 2 below 2 to the SEGMENTS -/
def yG2 : List yG := [(80, 136, 7, [(0, 0), (2, 2), (0, 0), (0, 0), (0, 0), (0, 0), (0, 0)])]
def yG4 : List yG := [(713, 969, 4, [(0, 0), (0, 0), (1, 1), (0, 0)])]
def ylm (j : Nat) : Int := if 58 ≤ j ∧ j < 74 then 1 else match yrs j yG2 with
  | some p => p.1
  | none => match yrs j yG4 with
    | some p => p.1
    | none => 0
def ycl9 (F : zF) (i : zV) : Option Int := bif yin F i 0 57 || yin F i 74 79 || yin F i 136 712 then some 0 else bif yin F i 58 73 then some 1 else match yri F i yG2 with
  | some p => some p.1
  | none => match yri F i yG4 with
    | some p => some p.1
    | none => none
theorem yrs2 {j : Nat} {p : Int × Int} (h : yrs j yG2 = some p) : 80 ≤ j ∧ j < 136 ∧ (p.1 = 2 ↔ (j - 80) % 7 = 1) ∧ (p.1 = 0 ∨ p.1 = 2) := by
  unfold yrs yG2 at h
  simp only at h
  split at h
  · rename_i hc
    refine ⟨hc.1, hc.2, ?_⟩
    have hm : (j - 80) % 7 < 7 := Nat.mod_lt _ (by decide)
    generalize (j - 80) % 7 = q at h hm
    have : q = 0 ∨ q = 1 ∨ q = 2 ∨ q = 3 ∨ q = 4 ∨ q = 5 ∨ q = 6 := by omega
    rcases this with rfl | rfl | rfl | rfl | rfl | rfl | rfl <;> cases h <;> decide
  · cases h
theorem yrs4 {j : Nat} {p : Int × Int} (h : yrs j yG4 = some p) : 713 ≤ j ∧ j < 969 ∧ (p.1 = 1 ↔ (j - 713) % 4 = 2) ∧ (p.1 = 0 ∨ p.1 = 1) := by
  unfold yrs yG4 at h
  simp only at h
  split at h
  · rename_i hc
    refine ⟨hc.1, hc.2, ?_⟩
    have hm : (j - 713) % 4 < 4 := Nat.mod_lt _ (by decide)
    generalize (j - 713) % 4 = q at h hm
    have : q = 0 ∨ q = 1 ∨ q = 2 ∨ q = 3 := by omega
    rcases this with rfl | rfl | rfl | rfl <;> cases h <;> decide
  · cases h
theorem yrs2_n {j : Nat} (h : ¬ (80 ≤ j ∧ j < 136)) : yrs j yG2 = none := by
  cases e : yrs j yG2 with
  | none => rfl
  | some p => have := yrs2 e; omega
theorem yrs4_n {j : Nat} (h : ¬ (713 ≤ j ∧ j < 969)) : yrs j yG4 = none := by
  cases e : yrs j yG4 with
  | none => rfl
  | some p => have := yrs4 e; omega
theorem ylm_0 {j : Nat} (h1 : ¬ (58 ≤ j ∧ j < 74)) (h2 : ¬ (80 ≤ j ∧ j < 136)) (h3 : ¬ (713 ≤ j ∧ j < 969)) : ylm j = 0 := by
  unfold ylm
  rw [if_neg h1, yrs2_n h2, yrs4_n h3]
theorem ylm_2 {j : Nat} (h : ylm j = 2) : 80 ≤ j ∧ j < 136 ∧ (j - 80) % 7 = 1 := by
  unfold ylm at h
  split at h
  · omega
  · split at h
    · rename_i p e
      obtain ⟨a, b, c, -⟩ := yrs2 e
      exact ⟨a, b, c.mp h⟩
    · split at h
      · rename_i p e
        obtain ⟨-, -, -, d⟩ := yrs4 e
        omega
      · omega
theorem ylm_21 {j : Nat} (h1 : 80 ≤ j) (h2 : j < 136) (h3 : (j - 80) % 7 = 1) : ylm j = 2 := by
  unfold ylm
  rw [if_neg (by omega)]
  cases e : yrs j yG2 with
  | none =>
    unfold yrs yG2 at e
    simp only at e
    rw [if_pos ⟨h1, h2⟩, h3] at e
    cases e
  | some p => exact (yrs2 e).2.2.1.mpr h3
theorem ylm_rng {j : Nat} (h : ylm j ≠ 0) : (58 ≤ j ∧ j < 74) ∨ (81 ≤ j ∧ j < 136) ∨ (715 ≤ j ∧ j < 969) := by
  unfold ylm at h
  split at h
  · exact Or.inl (by assumption)
  · split at h
    · rename_i p e
      obtain ⟨a, b, c, d⟩ := yrs2 e
      have h9 : p.1 = 2 := by omega
      have := c.mp h9
      right; left
      omega
    · split at h
      · rename_i p e
        obtain ⟨a, b, c, d⟩ := yrs4 e
        have h9 : p.1 = 1 := by omega
        have := c.mp h9
        right; right
        omega
      · exact (h rfl).elim
theorem ylm_12 (j : Nat) : ylm j = 0 ∨ ylm j = 1 ∨ ylm j = 2 := by
  unfold ylm
  split
  · omega
  · split
    · rename_i p e
      have := (yrs2 e).2.2.2
      omega
    · split
      · rename_i p e
        have := (yrs4 e).2.2.2
        omega
      · omega
/-- four places on, in the PAST -/
theorem ylm_4 {j : Nat} (h : 713 ≤ j) (h2 : j + 4 < 969) : ylm (j + 4) = ylm j := by
  have g : ∀ k : Nat, 713 ≤ k → k < 969 → ylm k = if (k - 713) % 4 = 2 then 1 else 0 := by
    intro k h1 h2
    unfold ylm
    rw [if_neg (by omega), yrs2_n (by omega)]
    cases e : yrs k yG4 with
    | none =>
      unfold yrs yG4 at e
      simp only at e
      rw [if_pos ⟨h1, h2⟩] at e
      have hm : (k - 713) % 4 < 4 := Nat.mod_lt _ (by decide)
      generalize (k - 713) % 4 = q at e hm
      have : q = 0 ∨ q = 1 ∨ q = 2 ∨ q = 3 := by omega
      rcases this with rfl | rfl | rfl | rfl <;> cases e
    | some p =>
      obtain ⟨-, -, c, d⟩ := yrs4 e
      simp only
      split
      · rename_i h9; exact c.mpr h9
      · rename_i h9
        have : p.1 ≠ 1 := fun e => h9 (c.mp e)
        omega
  rw [g _ (by omega) h2, g j h (by omega), show j + 4 - 713 = j - 713 + 4 from by omega, Nat.add_mod_right]
theorem ycl9_ok {r : List Int} {F : zF} {i : zV} {j : Nat} {c : Int} (hF : zFok r F) (hi : zd r i = some (j : Int)) (h : ycl9 F i = some c) : ylm j = c := by
  unfold ycl9 at h
  cases c1 : (yin F i 0 57 || yin F i 74 79 || yin F i 136 712) with
  | true =>
    rw [c1] at h
    cases h
    simp only [Bool.or_eq_true] at c1
    rcases c1 with (c1 | c1) | c1 <;> have := yin_ok hF hi c1 <;> exact ylm_0 (by omega) (by omega) (by omega)
  | false =>
    rw [c1] at h
    simp only [cond_false] at h
    cases c2 : yin F i 58 73 with
    | true =>
      rw [c2] at h
      cases h
      have := yin_ok hF hi c2
      unfold ylm
      rw [if_pos (by omega)]
    | false =>
      rw [c2] at h
      simp only [cond_false] at h
      unfold ylm
      split at h
      · rename_i p e
        cases h
        have e9 := yri_ok hF hi e
        have := yrs2 e9
        rw [if_neg (by omega), e9]
      · split at h
        · rename_i p e
          cases h
          have e9 := yri_ok hF hi e
          have := yrs4 e9
          rw [if_neg (by omega), yrs2_n (by omega), e9]
        · cases h
/-- what is SWAPPED, ordered, remembered: below the SEGMENTS -/
def yli (s : Int) (j : Nat) (x : Int) : Prop := (ylm j = 1 → x < s) ∧ (ylm j = 2 → x < 2 ^ s.toNat)
def ysw (m : mMem) (p : Nat) : Prop := ∃ s : Int32, yva m 75 7 = some (.int s) ∧ 1 ≤ s.toInt ∧ s.toInt ≤ 8 ∧ ∀ (j : Nat) (x : Int32), yva m p j = some (.int x) → yli s.toInt j x.toInt
/-- an ORDER of the ghost -/
def yhit (gh : yGh) (m : mMem) (k : Nat) : Prop := ∃ x y : Int32, yva m 77 (42 + k) = some (.int x) ∧ yva m 77 (58 + k) = some (.int y) ∧ x.toInt = (gh.1 : Int) ∧ y.toInt = (gh.2 : Int)
/-- how many there are among n, one place left out: none, or one -/
def ycnt (gh : yGh) (m : mMem) (n : Nat) (h : Int) (c : Nat) : Prop := match c with
  | 0 => ∀ k : Nat, k < n → (k : Int) ≠ h → ¬ yhit gh m k
  | _ => ∃ p : Nat, p < n ∧ (p : Int) ≠ h ∧ yhit gh m p ∧ ∀ k : Nat, k < n → (k : Int) ≠ h → yhit gh m k → k = p
/-- whether the ghost is SWAPPED -/
def ybt (gh : yGh) (m : mMem) (b : Nat) : Prop := ∃ x : Int32, yva m 77 (81 + 7 * gh.1) = some (.int x) ∧ 0 ≤ x.toInt ∧ x.toInt.toNat.testBit gh.2 = Nat.beq b 1
def ycb (gh : yGh) (m : mMem) (h : Int) (c b : Nat) : Prop := gh.1 < 8 ∧ gh.2 < 8 ∧ ybt gh m b ∧ ∃ n : Int32, yva m 77 4 = some (.int n) ∧ 0 ≤ n.toInt ∧ n.toInt ≤ 16 ∧ ycnt gh m n.toInt.toNat h c
/-- a number and the ghost's -/
def ygc (gh : yGh) (k : Nat) (x : Int) : Prop := match k with
  | 0 => x < gh.1
  | 1 => x = gh.1
  | 2 => (gh.1 : Int) < x
  | 3 => x < gh.2
  | 4 => x = gh.2
  | 5 => (gh.2 : Int) < x
  | 6 => x ≤ gh.1
  | _ => x ≤ gh.2
/-- the places of ORDERS and of what is SWAPPED -/
def yro9 (j : Nat) : Prop := j = 4 ∨ (42 ≤ j ∧ j < 74) ∨ (80 ≤ j ∧ j < 136 ∧ (j - 80) % 7 = 1)
theorem yhit_ag {m m' : mMem} {k : Nat} (h1 : yva m' 77 (42 + k) = yva m 77 (42 + k)) (h2 : yva m' 77 (58 + k) = yva m 77 (58 + k)) : yhit gh m' k ↔ yhit gh m k := by
  unfold yhit
  rw [h1, h2]
theorem ycnt_ag {m m' : mMem} {n c : Nat} {h : Int} (hh : ∀ k, k < n → (k : Int) ≠ h → (yhit gh m' k ↔ yhit gh m k)) (hc : ycnt gh m n h c) : ycnt gh m' n h c := by
  unfold ycnt at hc ⊢
  split at hc
  · exact fun k hk hn hi => hc k hk hn ((hh k hk hn).mp hi)
  · obtain ⟨p, p1, p2, p3, p4⟩ := hc
    exact ⟨p, p1, p2, (hh p p1 p2).mpr p3, fun k hk hn hi => p4 k hk hn ((hh k hk hn).mp hi)⟩
theorem ycb_ag {m m' : mMem} {h : Int} {c b : Nat} (hh : ∀ j, yro9 j → yva m' 77 j = yva m 77 j) (hc : ycb gh m h c b) : ycb gh m' h c b := by
  obtain ⟨h1, h2, ⟨x, x1, x2, x3⟩, n, n1, n2, n3, n4⟩ := hc
  refine ⟨h1, h2, ⟨x, by rw [hh _ (Or.inr (Or.inr ⟨by omega, by omega, by omega⟩))]; exact x1, x2, x3⟩, n, by rw [hh _ (Or.inl rfl)]; exact n1, n2, n3, ?_⟩
  exact ycnt_ag (fun k hk _ => yhit_ag (hh _ (Or.inr (Or.inl ⟨by omega, by omega⟩))) (hh _ (Or.inr (Or.inl ⟨by omega, by omega⟩)))) n4
/-- how many are SWAPPED -/
def yswb (m : mMem) (q : Nat) : Bool := match yva m 77 (81 + 7 * (q / 8)) with
  | some (.int x) => x.toInt.toNat.testBit (q % 8)
  | _ => false
def ysc (m : mMem) : Nat := (List.range 64).countP (yswb m)
/-- the ghost q -/
def ygq (q : Nat) : yGh := (q / 8, q % 8)
theorem yswb_ag {m m' : mMem} {q : Nat} (hq : q < 64) (hh : ∀ j, yro9 j → yva m' 77 j = yva m 77 j) : yswb m' q = yswb m q := by
  unfold yswb
  rw [hh _ (Or.inr (Or.inr ⟨by omega, by omega, by omega⟩))]
theorem ysc_ag {m m' : mMem} (hh : ∀ j, yro9 j → yva m' 77 j = yva m 77 j) : ysc m' = ysc m := by
  unfold ysc
  exact List.countP_congr fun q hq => by rw [yswb_ag (List.mem_range.mp hq) hh]
theorem ybt_ag {m m' : mMem} {q b : Nat} (hq : q < 64) (hh : ∀ j, yro9 j → yva m' 77 j = yva m 77 j) (h : ybt (ygq q) m b) : ybt (ygq q) m' b := by
  obtain ⟨x, x1, x2, x3⟩ := h
  exact ⟨x, by rw [hh _ (Or.inr (Or.inr ⟨by unfold ygq; omega, by unfold ygq; dsimp only; omega, by unfold ygq; dsimp only; omega⟩))]; exact x1, x2, x3⟩
/-- what is not SWAPPED isn't ordered; one is, that is -/
def yone (m : mMem) : Prop := (∀ q, q < 64 → ybt (ygq q) m 0 → ycb (ygq q) m (-1) 0 0) ∧ ∃ q, q < 64 ∧ ycb (ygq q) m (-1) 1 1
theorem yone_ag {m m' : mMem} (hh : ∀ j, yro9 j → yva m' 77 j = yva m 77 j) (h : yone m) : yone m' := by
  obtain ⟨h1, q, h2, h3⟩ := h
  exact ⟨fun q hq hb => ycb_ag hh (h1 q hq (ybt_ag hq (fun j hj => (hh j hj).symm) hb)), q, h2, ycb_ag hh h3⟩
/-- a record of a WORK: where it asks for a group and a page, there are such -/
def yrec (m : mMem) (k : Nat) : Prop := ∀ x : Int32, yva m 71 (5 * k) = some (.int x) → x.toInt ≤ 2 → (∀ y : Int32, yva m 71 (5 * k + 1) = some (.int y) → y.toInt ≤ 7) ∧ ∀ y : Int32, yva m 71 (5 * k + 2) = some (.int y) → y.toInt ≤ 7
def yPH (gh : yGh) (r : List Int) (m : mMem) (t : yQp) : Prop := match t.1 with
  | 1 => ∃ (a : Int32) (e : Nat), yva m 61 7 = some (.int a) ∧ a.toInt ≤ e ∧ e ≤ 200 ∧ yva m 62 e = some (.int (-1))
  | 2 => ∀ (j : Nat) (x y : Int32), yva m t.2.1 j = some (.int x) → yva m (t.2.1 + 1) j = some (.int y) → x.toInt = 1 → 0 ≤ y.toInt ∧ y.toInt ≤ 9
  | 3 => ∀ k, k < 100 → yrec m k
  | 4 => ∃ i, zd r t.2.2.2 = some i ∧ ∀ k : Nat, k < 100 → (k : Int) ≠ i → yrec m k
  | 5 => ∃ c o : Int32, yva m 70 3 = some (.int c) ∧ yva m 70 4 = some (.int o) ∧ ∀ i : Nat, (i : Int) < o.toInt → ∃ x : Int32, yva m 72 i = some (.int x) ∧ 0 ≤ x.toInt ∧ x.toInt < c.toInt ∧ yva m 71 (5 * x.toInt.toNat) = some (.int 5)
  | 6 => ∃ x y : Int32, yva m t.2.1 4 = some (.int x) ∧ yva m t.2.1 5 = some (.int y) ∧ ((x.toInt = 0 ∧ y.toInt = 0) ∨ (1 ≤ x.toInt ∧ 1 ≤ y.toInt))
  | 7 => ∃ i, zd r t.2.2.2 = some i ∧ ∀ j : Nat, (j : Int) < i → yva m t.2.1 j = yva m t.2.2.1 j
  | 8 => ∀ j, yva m t.2.1 j = yva m t.2.2.1 j
  | 9 => ysw m t.2.1
  | 10 => ∃ i, zd r t.2.2.2 = some i ∧ (∃ s : Int32, yva m 75 7 = some (.int s) ∧ 1 ≤ s.toInt ∧ s.toInt ≤ 8) ∧ ∀ j : Nat, 27 ≤ j → (j : Int) < i → yva m t.2.1 j = some (.int 0)
  | 11 => ycb gh m (-1) t.2.1 t.2.2.1
  | 12 => ∃ i, zd r t.2.2.2 = some i ∧ ycb gh m (i - 1) t.2.1 t.2.2.1
  | 13 => ∃ g s : Int32, yva m 75 5 = some (.int g) ∧ yva m 75 7 = some (.int s) ∧ (gh.1 : Int) < g.toInt ∧ (gh.2 : Int) < s.toInt
  | 14 => ∃ x, zd r t.2.2.2 = some x ∧ ygc gh t.2.1 x
  | 15 => ∃ n : Int32, yva m 75 5 = some (.int n) ∧ ∀ g : Nat, g < 8 → (g : Int) < n.toInt → ∀ x : Int32, yva m 77 (81 + 7 * g) = some (.int x) → x.toInt = 0
  | 16 => ysc m + t.2.1 ≤ gh.1
  | 17 => ysc m ≤ gh.1 ∧ yone m
  | 18 => ∀ k : Nat, k < 7 → yva m t.2.1 (20 + k) = yva m 2 k
  | 19 => ∀ g : Nat, g < 8 → yva m t.2.1 (85 + 7 * g) = yva m 12 g
  | _ => True
/-- the places that it speaks of -/
def yIn (t : yQp) (p j : Nat) : Prop := match t.1 with
  | 1 => (p = 61 ∧ j = 7) ∨ p = 62
  | 2 => p = t.2.1 ∨ p = t.2.1 + 1
  | 3 => p = 71
  | 4 => p = 71
  | 5 => (p = 70 ∧ (j = 3 ∨ j = 4)) ∨ p = 71 ∨ p = 72
  | 6 => p = t.2.1 ∧ (j = 4 ∨ j = 5)
  | 7 => p = t.2.1 ∨ p = t.2.2.1
  | 8 => p = t.2.1 ∨ p = t.2.2.1
  | 9 => (p = 75 ∧ j = 7) ∨ (p = t.2.1 ∧ ylm j ≠ 0)
  | 10 => (p = 75 ∧ j = 7) ∨ (p = t.2.1 ∧ 27 ≤ j)
  | 11 => p = 77 ∧ yro9 j
  | 12 => p = 77 ∧ yro9 j
  | 13 => p = 75 ∧ (j = 5 ∨ j = 7)
  | 15 => (p = 75 ∧ j = 5) ∨ (p = 77 ∧ yro9 j)
  | 16 => p = 77 ∧ yro9 j
  | 17 => p = 77 ∧ yro9 j
  | 18 => (p = t.2.1 ∧ 20 ≤ j ∧ j < 27) ∨ (p = 2 ∧ j < 7)
  | 19 => (p = t.2.1 ∧ 85 ≤ j ∧ j < 135 ∧ (j - 80) % 7 = 5) ∨ p = 12
  | _ => False
theorem yrec_ag {m m' : mMem} {k : Nat} (h : ∀ j, yva m' 71 j = yva m 71 j) (hr : yrec m k) : yrec m' k := fun x hx hle => by
  rw [h] at hx
  obtain ⟨h1, h2⟩ := hr x hx hle
  exact ⟨fun y hy => h1 y (by rw [← h]; exact hy), fun y hy => h2 y (by rw [← h]; exact hy)⟩
theorem yPH_ag {r : List Int} {m m' : mMem} {t : yQp} (h : ∀ p j, yIn t p j → yva m' p j = yva m p j) (hp : yPH gh r m t) : yPH gh r m' t := by
  unfold yPH at hp ⊢
  unfold yIn at h
  split at hp
  · rename_i e
    simp only [e] at h
    obtain ⟨a, b, h1, h2, h3, h4⟩ := hp
    exact ⟨a, b, by rw [h 61 7 (Or.inl ⟨rfl, rfl⟩)]; exact h1, h2, h3, by rw [h 62 b (Or.inr rfl)]; exact h4⟩
  · rename_i e
    simp only [e] at h
    intro j x y hx hy
    rw [h _ j (Or.inl rfl)] at hx
    rw [h _ j (Or.inr rfl)] at hy
    exact hp j x y hx hy
  · rename_i e
    simp only [e] at h
    exact fun k hk => yrec_ag (fun j => h 71 j rfl) (hp k hk)
  · rename_i e
    simp only [e] at h
    obtain ⟨i, h1, h2⟩ := hp
    exact ⟨i, h1, fun k hk hn => yrec_ag (fun j => h 71 j rfl) (h2 k hk hn)⟩
  · rename_i e
    simp only [e] at h
    obtain ⟨c, o, h1, h2, h3⟩ := hp
    refine ⟨c, o, by rw [h 70 3 (Or.inl ⟨rfl, Or.inl rfl⟩)]; exact h1, by rw [h 70 4 (Or.inl ⟨rfl, Or.inr rfl⟩)]; exact h2, fun i hi => ?_⟩
    obtain ⟨x, x1, x2, x3, x4⟩ := h3 i hi
    exact ⟨x, by rw [h 72 i (Or.inr (Or.inr rfl))]; exact x1, x2, x3, by rw [h 71 _ (Or.inr (Or.inl rfl))]; exact x4⟩
  · rename_i e
    simp only [e] at h
    obtain ⟨x, y, h1, h2, h3⟩ := hp
    exact ⟨x, y, by rw [h _ 4 ⟨rfl, Or.inl rfl⟩]; exact h1, by rw [h _ 5 ⟨rfl, Or.inr rfl⟩]; exact h2, h3⟩
  · rename_i e
    simp only [e] at h
    obtain ⟨i, h1, h2⟩ := hp
    exact ⟨i, h1, fun j hj => by rw [h _ j (Or.inl rfl), h _ j (Or.inr rfl)]; exact h2 j hj⟩
  · rename_i e
    simp only [e] at h
    exact fun j => by rw [h _ j (Or.inl rfl), h _ j (Or.inr rfl)]; exact hp j
  · rename_i e
    simp only [e] at h
    obtain ⟨s, h1, h2, h3, h4⟩ := hp
    refine ⟨s, by rw [h 75 7 (Or.inl ⟨rfl, rfl⟩)]; exact h1, h2, h3, fun j x hx => ⟨fun hl => ?_, fun hl => ?_⟩⟩
    · exact (h4 j x (by rw [← h _ j (Or.inr ⟨rfl, by omega⟩)]; exact hx)).1 hl
    · exact (h4 j x (by rw [← h _ j (Or.inr ⟨rfl, by omega⟩)]; exact hx)).2 hl
  · rename_i e
    simp only [e] at h
    obtain ⟨i, h1, ⟨s, h2, h3, h4⟩, h5⟩ := hp
    exact ⟨i, h1, ⟨s, by rw [h 75 7 (Or.inl ⟨rfl, rfl⟩)]; exact h2, h3, h4⟩, fun j h27 hj => by rw [h _ j (Or.inr ⟨rfl, h27⟩)]; exact h5 j h27 hj⟩
  · rename_i e
    simp only [e] at h
    exact ycb_ag (fun j hj => h 77 j ⟨rfl, hj⟩) hp
  · rename_i e
    simp only [e] at h
    obtain ⟨i, h1, h2⟩ := hp
    exact ⟨i, h1, ycb_ag (fun j hj => h 77 j ⟨rfl, hj⟩) h2⟩
  · rename_i e
    simp only [e] at h
    obtain ⟨g, s, h1, h2, h3, h4⟩ := hp
    exact ⟨g, s, by rw [h 75 5 ⟨rfl, Or.inl rfl⟩]; exact h1, by rw [h 75 7 ⟨rfl, Or.inr rfl⟩]; exact h2, h3, h4⟩
  · exact hp
  · rename_i e
    simp only [e] at h
    obtain ⟨n, n1, n2⟩ := hp
    refine ⟨n, by rw [h 75 5 (Or.inl ⟨rfl, rfl⟩)]; exact n1, fun g hg hn x hx => ?_⟩
    rw [h 77 _ (Or.inr ⟨rfl, Or.inr (Or.inr ⟨by omega, by omega, by omega⟩)⟩)] at hx
    exact n2 g hg hn x hx
  · rename_i e
    simp only [e] at h
    rw [ysc_ag (fun j hj => h 77 j ⟨rfl, hj⟩)]
    exact hp
  · rename_i e
    simp only [e] at h
    exact ⟨by rw [ysc_ag (fun j hj => h 77 j ⟨rfl, hj⟩)]; exact hp.1, yone_ag (fun j hj => h 77 j ⟨rfl, hj⟩) hp.2⟩
  · rename_i e
    simp only [e] at h
    intro k hk
    rw [h _ (20 + k) (Or.inl ⟨rfl, by omega, by omega⟩), h 2 k (Or.inr ⟨rfl, hk⟩)]
    exact hp k hk
  · rename_i e
    simp only [e] at h
    intro k hk
    rw [h _ (85 + 7 * k) (Or.inl ⟨rfl, by omega, by omega, by omega⟩), h 12 k (Or.inr rfl)]
    exact hp k hk
  · trivial
theorem yPH_X {r r' : List Int} {m : mMem} {t : yQp} (hx : zX r r') (h : yPH gh r m t) : yPH gh r' m t := by
  unfold yPH at h ⊢
  split at h
  · exact h
  · exact h
  · exact h
  · obtain ⟨i, h1, h2⟩ := h; exact ⟨i, hx.den h1, h2⟩
  · exact h
  · exact h
  · obtain ⟨i, h1, h2⟩ := h; exact ⟨i, hx.den h1, h2⟩
  · exact h
  · exact h
  · obtain ⟨i, h1, h2⟩ := h; exact ⟨i, hx.den h1, h2⟩
  · exact h
  · obtain ⟨i, h1, h2⟩ := h; exact ⟨i, hx.den h1, h2⟩
  · exact h
  · obtain ⟨i, h1, h2⟩ := h; exact ⟨i, hx.den h1, h2⟩
  · exact h
  · exact h
  · exact h
  · exact h
  · exact h
  · trivial
theorem yPH_v {r r' : List Int} {m : mMem} {t u : yQp} (he : yqe t u = true) (hv : ∀ x, zd r u.2.2.2 = some x → zd r' t.2.2.2 = some x) (h : yPH gh r m u) : yPH gh r' m t := by
  unfold yqe at he
  simp only [Bool.and_eq_true, zbe] at he
  obtain ⟨⟨e1, e2⟩, e3⟩ := he
  unfold yPH at h ⊢
  rw [e1, e2, e3]
  split at h
  · exact h
  · exact h
  · exact h
  · obtain ⟨i, h1, h2⟩ := h; exact ⟨i, hv i h1, h2⟩
  · exact h
  · exact h
  · obtain ⟨i, h1, h2⟩ := h; exact ⟨i, hv i h1, h2⟩
  · exact h
  · exact h
  · obtain ⟨i, h1, h2⟩ := h; exact ⟨i, hv i h1, h2⟩
  · exact h
  · obtain ⟨i, h1, h2⟩ := h; exact ⟨i, hv i h1, h2⟩
  · exact h
  · obtain ⟨i, h1, h2⟩ := h; exact ⟨i, hv i h1, h2⟩
  · exact h
  · exact h
  · exact h
  · exact h
  · exact h
  · trivial
theorem yPH_q {r r' : List Int} {m : mMem} {t u : yQp} (hc : ycq t = true) (he : yqe t u = true) (h : yPH gh r m u) : yPH gh r' m t := by
  unfold ycq at hc
  unfold yqe at he
  simp only [Bool.and_eq_true, zbe, Bool.not_eq_true'] at he hc
  obtain ⟨⟨e1, e2⟩, e3⟩ := he
  obtain ⟨⟨⟨⟨c1, c2⟩, c3⟩, c4⟩, c5⟩ := hc
  unfold yPH at h ⊢
  rw [e1] at c1 c2 c3 c4 c5
  rw [e1, e2, e3]
  split at h
  · exact h
  · exact h
  · exact h
  · rename_i e; rw [e] at c1; cases c1
  · exact h
  · exact h
  · rename_i e; rw [e] at c2; cases c2
  · exact h
  · exact h
  · rename_i e; rw [e] at c3; cases c3
  · exact h
  · rename_i e; rw [e] at c4; cases c4
  · exact h
  · rename_i e; rw [e] at c5; cases c5
  · exact h
  · exact h
  · exact h
  · exact h
  · exact h
  · trivial
/-- a stretch that lies clear of others -/
def ydj (q : Nat × Nat × Nat) (l : List (Nat × Nat)) : Bool := l.all fun w => Nat.ble q.2.2 w.1 || Nat.ble w.2 q.2.1
theorem ydj_ok {q : Nat × Nat × Nat} {l : List (Nat × Nat)} {j : Nat} (h : ydj q l = true) (h1 : q.2.1 ≤ j) (h2 : j < q.2.2) : ∀ w ∈ l, ¬ (w.1 ≤ j ∧ j < w.2) := fun w hw => by
  have := List.all_eq_true.mp h w hw
  simp only [Bool.or_eq_true, Nat.ble_eq] at this
  omega
/-- a stretch without a pin -/
def yp8 (q : Nat × Nat × Nat) : Bool := [85, 92, 99, 106, 113, 120, 127, 134].all fun j => Nat.ble q.2.2 j || Nat.ble (Nat.succ j) q.2.1
theorem yp8_ok {q : Nat × Nat × Nat} {j : Nat} (h : yp8 q = true) (h1 : q.2.1 ≤ j) (h2 : j < q.2.2) : ¬ (85 ≤ j ∧ j < 135 ∧ (j - 80) % 7 = 5) := by
  unfold yp8 at h
  simp only [List.all_cons, List.all_nil, Bool.and_true, Bool.and_eq_true, Bool.or_eq_true, Nat.ble_eq] at h
  rintro ⟨a, b, c⟩
  have : j = 85 ∨ j = 92 ∨ j = 99 ∨ j = 106 ∨ j = 113 ∨ j = 120 ∨ j = 127 ∨ j = 134 := by omega
  omega
/-- a stretch of places that it doesn't speak of -/
def yno (t : yQp) (q : Nat × Nat × Nat) : Bool := match t.1 with
  | 1 => !(Nat.beq q.1 62) && (!(Nat.beq q.1 61) || Nat.ble q.2.2 7 || Nat.ble 8 q.2.1)
  | 2 => !(Nat.beq q.1 t.2.1) && !(Nat.beq q.1 (t.2.1 + 1))
  | 3 => !(Nat.beq q.1 71)
  | 4 => !(Nat.beq q.1 71)
  | 5 => !(Nat.beq q.1 71) && !(Nat.beq q.1 72) && (!(Nat.beq q.1 70) || Nat.ble q.2.2 3 || Nat.ble 5 q.2.1)
  | 6 => !(Nat.beq q.1 t.2.1) || Nat.ble q.2.2 4 || Nat.ble 6 q.2.1
  | 7 => !(Nat.beq q.1 t.2.1) && !(Nat.beq q.1 t.2.2.1)
  | 8 => !(Nat.beq q.1 t.2.1) && !(Nat.beq q.1 t.2.2.1)
  | 9 => (!(Nat.beq q.1 75) || ydj q [(7, 8)]) && (!(Nat.beq q.1 t.2.1) || ydj q [(58, 74), (81, 136), (715, 969)])
  | 10 => (!(Nat.beq q.1 75) || ydj q [(7, 8)]) && (!(Nat.beq q.1 t.2.1) || Nat.ble q.2.2 27)
  | 11 => !(Nat.beq q.1 77) || ydj q [(4, 5), (42, 74), (80, 136)]
  | 12 => !(Nat.beq q.1 77) || ydj q [(4, 5), (42, 74), (80, 136)]
  | 13 => !(Nat.beq q.1 75) || ydj q [(5, 6), (7, 8)]
  | 15 => (!(Nat.beq q.1 75) || ydj q [(5, 6)]) && (!(Nat.beq q.1 77) || ydj q [(4, 5), (42, 74), (80, 136)])
  | 16 => !(Nat.beq q.1 77) || ydj q [(4, 5), (42, 74), (80, 136)]
  | 17 => !(Nat.beq q.1 77) || ydj q [(4, 5), (42, 74), (80, 136)]
  | 18 => (!(Nat.beq q.1 t.2.1) || ydj q [(20, 27)]) && !(Nat.beq q.1 2)
  | 19 => (!(Nat.beq q.1 t.2.1) || yp8 q) && !(Nat.beq q.1 12)
  | _ => true
theorem yro9_d {q : Nat × Nat × Nat} {j : Nat} (h : ydj q [(4, 5), (42, 74), (80, 136)] = true) (h1 : q.2.1 ≤ j) (h2 : j < q.2.2) : ¬ yro9 j := by
  have g := ydj_ok h h1 h2
  have a := g (4, 5) (by simp)
  have b := g (42, 74) (by simp)
  have c := g (80, 136) (by simp)
  dsimp only at a b c
  rintro (e | e | e) <;> omega
theorem nbe {a b : Nat} (h : Nat.beq a b = false) : a ≠ b := fun e => by rw [zbe.mpr e] at h; cases h
theorem yno_ok {t : yQp} {q : Nat × Nat × Nat} {p j : Nat} (h : yno t q = true) (hp : q.1 = p) (h1 : q.2.1 ≤ j) (h2 : j < q.2.2) : ¬ yIn t p j := by
  subst hp
  unfold yno at h
  unfold yIn
  split at h
  · simp only [Bool.and_eq_true, Bool.or_eq_true, Bool.not_eq_true', Nat.ble_eq] at h
    obtain ⟨a, b⟩ := h
    have := nbe a
    rintro (⟨e1, e2⟩ | e)
    · rcases b with (b | b) | b
      · exact nbe b e1
      · omega
      · omega
    · exact this e
  · simp only [Bool.and_eq_true, Bool.not_eq_true'] at h
    rintro (e | e)
    · exact nbe h.1 e
    · exact nbe h.2 e
  · simp only [Bool.not_eq_true'] at h
    exact fun e => nbe h e
  · simp only [Bool.not_eq_true'] at h
    exact fun e => nbe h e
  · simp only [Bool.and_eq_true, Bool.or_eq_true, Bool.not_eq_true', Nat.ble_eq] at h
    obtain ⟨⟨a, b⟩, c⟩ := h
    rintro (⟨e1, e2⟩ | e | e)
    · rcases c with (c | c) | c
      · exact nbe c e1
      · omega
      · omega
    · exact nbe a e
    · exact nbe b e
  · simp only [Bool.or_eq_true, Bool.not_eq_true', Nat.ble_eq] at h
    rintro ⟨e1, e2⟩
    rcases h with (h | h) | h
    · exact nbe h e1
    · omega
    · omega
  · simp only [Bool.and_eq_true, Bool.not_eq_true'] at h
    rintro (e | e)
    · exact nbe h.1 e
    · exact nbe h.2 e
  · simp only [Bool.and_eq_true, Bool.not_eq_true'] at h
    rintro (e | e)
    · exact nbe h.1 e
    · exact nbe h.2 e
  · simp only [Bool.and_eq_true, Bool.or_eq_true, Bool.not_eq_true'] at h
    obtain ⟨a, b⟩ := h
    rintro (⟨e1, e2⟩ | ⟨e1, e2⟩)
    · rcases a with a | a
      · exact nbe a e1
      · exact ydj_ok a h1 h2 (7, 8) (by simp) (by dsimp only; omega)
    · rcases b with b | b
      · exact nbe b e1
      · have g := ydj_ok b h1 h2
        have g1 := g (58, 74) (by simp)
        have g2 := g (81, 136) (by simp)
        have g3 := g (715, 969) (by simp)
        dsimp only at g1 g2 g3
        rcases ylm_rng e2 with e | e | e <;> omega
  · simp only [Bool.and_eq_true, Bool.or_eq_true, Bool.not_eq_true', Nat.ble_eq] at h
    obtain ⟨a, b⟩ := h
    rintro (⟨e1, e2⟩ | ⟨e1, e2⟩)
    · rcases a with a | a
      · exact nbe a e1
      · exact ydj_ok a h1 h2 (7, 8) (by simp) (by dsimp only; omega)
    · rcases b with b | b
      · exact nbe b e1
      · omega
  · simp only [Bool.or_eq_true, Bool.not_eq_true'] at h
    rintro ⟨e1, e2⟩
    rcases h with h | h
    · exact nbe h e1
    · exact yro9_d h h1 h2 e2
  · simp only [Bool.or_eq_true, Bool.not_eq_true'] at h
    rintro ⟨e1, e2⟩
    rcases h with h | h
    · exact nbe h e1
    · exact yro9_d h h1 h2 e2
  · simp only [Bool.or_eq_true, Bool.not_eq_true'] at h
    rintro ⟨e1, e2⟩
    rcases h with h | h
    · exact nbe h e1
    · have g := ydj_ok h h1 h2
      have g1 := g (5, 6) (by simp)
      have g2 := g (7, 8) (by simp)
      dsimp only at g1 g2
      omega
  · simp only [Bool.and_eq_true, Bool.or_eq_true, Bool.not_eq_true'] at h
    obtain ⟨a, b⟩ := h
    rintro (⟨e1, e2⟩ | ⟨e1, e2⟩)
    · rcases a with a | a
      · exact nbe a e1
      · exact ydj_ok a h1 h2 (5, 6) (by simp) (by dsimp only; omega)
    · rcases b with b | b
      · exact nbe b e1
      · exact yro9_d b h1 h2 e2
  · simp only [Bool.or_eq_true, Bool.not_eq_true'] at h
    rintro ⟨e1, e2⟩
    rcases h with h | h
    · exact nbe h e1
    · exact yro9_d h h1 h2 e2
  · simp only [Bool.or_eq_true, Bool.not_eq_true'] at h
    rintro ⟨e1, e2⟩
    rcases h with h | h
    · exact nbe h e1
    · exact yro9_d h h1 h2 e2
  · simp only [Bool.and_eq_true, Bool.or_eq_true, Bool.not_eq_true'] at h
    obtain ⟨a, b⟩ := h
    rintro (⟨e1, e2⟩ | ⟨e1, e2⟩)
    · rcases a with a | a
      · exact nbe a e1
      · have g := ydj_ok a h1 h2 (20, 27) (by simp)
        dsimp only at g
        omega
    · exact nbe b e1
  · simp only [Bool.and_eq_true, Bool.or_eq_true, Bool.not_eq_true'] at h
    obtain ⟨a, b⟩ := h
    rintro (⟨e1, e2⟩ | e1)
    · rcases a with a | a
      · exact nbe a e1
      · exact yp8_ok a h1 h2 e2
    · exact nbe b e1
  · exact fun e => e
def yfd (t : yQp) (mods : List (Nat × Nat × Nat)) : Bool := mods.all (yno t)
theorem yfd_ok {r : List Int} {m m' : mMem} {t : yQp} {mods : List (Nat × Nat × Nat)} (h : yfd t mods = true) (hf : yFr mods m m') (hp : yPH gh r m t) : yPH gh r m' t := by
  refine yPH_ag (fun p j hi => hf p j ?_) hp
  rintro ⟨q, hq, q1, q2, q3⟩
  exact yno_ok (List.all_eq_true.mp h q hq) q1 q2 q3 hi
/-! the sync: facts of the memory as it is -/
theorem ych_same {E : mEnv} {r : List Int} {m0 : mMem} {p j : Nat} : ∀ {es : List yE} {m : mMem}, ych E r m0 es m → (∀ e ∈ es, e.2.2.2 ≠ 0 → e.1 = p → ∀ i : Nat, zd r e.2.1 = some (i : Int) → i ≠ j) → yva m p j = yva m0 p j
  | [], _, h, _ => by rw [show _ = _ from h]
  | e :: es, m, h, hn => by
    obtain ⟨i, h1, h2⟩ := h
    have hn' : ∀ e ∈ es, e.2.2.2 ≠ 0 → e.1 = p → ∀ i : Nat, zd r e.2.1 = some (i : Int) → i ≠ j := fun e he => hn e (List.mem_cons_of_mem _ he)
    split at h2
    · exact ych_same h2.1 hn'
    · rename_i n0
      obtain ⟨m1, v, g1, g2, g3, g4⟩ := h2
      rw [g4 p j, if_neg, ych_same g1 hn']
      rintro ⟨e1, e2⟩
      exact hn e List.mem_cons_self n0 e1.symm i h1 e2.symm
def yfa (F : zF) : List yE → List yE → List yE
  | [], _ => []
  | e :: es, ws => bif ws.all fun w => !(Nat.beq w.1 e.1) || Nat.beq (yal F w.2.1 e.2.1) 1 then
      (e.1, e.2.1, e.2.2.1, 0) :: (bif Nat.beq e.2.2.2 0 then yfa F es ws else yfa F es (e :: ws))
    else (bif Nat.beq e.2.2.2 0 then yfa F es ws else yfa F es (e :: ws))
theorem yfa_ok {E : mEnv} {r : List Int} {F : zF} {m0 m : mMem} (hF : zFok r F) : ∀ {es ws : List yE} {m1 : mMem}, ych E r m0 es m1 → (∀ w ∈ ws, ∃ k : Nat, zd r w.2.1 = some (k : Int)) → (∀ p j : Nat, (∀ w ∈ ws, w.1 = p → zd r w.2.1 ≠ some (j : Int)) → yvx E m p j = yvx E m1 p j) → yFa E r m (yfa F es ws)
  | [], _, _, _, _, _ => fun e he => by cases he
  | e :: es, ws, m1, hc, hw, hd => by
    obtain ⟨i, h1, h2⟩ := hc
    have tail : yFa E r m (bif Nat.beq e.2.2.2 0 then yfa F es ws else yfa F es (e :: ws)) := by
      cases c : Nat.beq e.2.2.2 0 with
      | true =>
        rw [zbe.mp c] at h2
        exact yfa_ok hF h2.1 hw hd
      | false =>
        have n0 := nbe c
        split at h2
        · rename_i e0; exact absurd e0 n0
        · obtain ⟨m2, v, g1, g2, g3, g4⟩ := h2
          refine yfa_ok hF g1 (fun w hw9 => ?_) (fun p j hn => ?_)
          · rcases List.mem_cons.mp hw9 with rfl | hw9
            · exact ⟨i, h1⟩
            · exact hw w hw9
          · rw [hd p j (fun w hw9 => hn w (List.mem_cons_of_mem _ hw9)), yvx_wr g3 g4, if_neg]
            rintro ⟨e1, e2⟩
            exact hn e List.mem_cons_self e1.symm (by rw [h1, e2])
    unfold yfa
    cases c : (ws.all fun w => !(Nat.beq w.1 e.1) || Nat.beq (yal F w.2.1 e.2.1) 1) with
    | false => exact tail
    | true =>
      simp only [cond_true]
      intro e9 he9
      rcases List.mem_cons.mp he9 with rfl | he9
      · have hno : ∀ w ∈ ws, w.1 = e.1 → zd r w.2.1 ≠ some (i : Int) := by
          intro w hw9 e1 e2
          have := List.all_eq_true.mp c w hw9
          simp only [Bool.or_eq_true, Bool.not_eq_true'] at this
          rcases this with h | h
          · exact nbe h e1
          · exact (yal_ok hF e2 h1).2 (zbe.mp h) rfl
        have hval : ∃ v, yvx E m1 e.1 i = some v ∧ zvm r v e.2.2.1 := by
          split at h2
          · exact h2.2
          · obtain ⟨m2, v, g1, g2, g3, g4⟩ := h2
            exact ⟨v, by rw [yvx_wr g3 g4, if_pos ⟨rfl, rfl⟩], g2⟩
        obtain ⟨v, v1, v2⟩ := hval
        exact ⟨rfl, i, v, h1, by rw [hd _ _ hno]; exact v1, v2⟩
      · exact tail e9 he9
def yx0 (c : Option Int) (k : Int) : Bool := match c with
  | some d => zeq d k
  | none => false
theorem yx0_ok {c : Option Int} {k : Int} (h : yx0 c k = true) : c = some k := by
  unfold yx0 at h
  split at h
  · rw [zeq_iff.mp h]
  · cases h
/-- none of the places of ORDERS and of what is SWAPPED -/
def yfr9 (F : zF) (i : zV) : Bool := yin F i 0 3 || yin F i 5 41 || yin F i 74 79 || yge 2 F i 136 || yx0 ((yri F i yG2).map (·.1)) 0
theorem yfr9_ok {r : List Int} {F : zF} {i : zV} {j : Nat} (hF : zFok r F) (hi : zd r i = some (j : Int)) (h : yfr9 F i = true) : ¬ yro9 j := by
  unfold yfr9 at h
  simp only [Bool.or_eq_true] at h
  rcases h with (((h | h) | h) | h) | h
  · have := yin_ok hF hi h; rintro (e | e | e) <;> omega
  · have := yin_ok hF hi h; rintro (e | e | e) <;> omega
  · have := yin_ok hF hi h; rintro (e | e | e) <;> omega
  · have := yge_ok hF 2 hi h; rintro (e | e | e) <;> omega
  · have h := yx0_ok h
    rw [Option.map_eq_some_iff] at h
    obtain ⟨p, p1, p2⟩ := h
    obtain ⟨a, b, c, -⟩ := yrs2 (yri_ok hF hi p1)
    rintro (e | e | e)
    · omega
    · omega
    · have := c.mpr e.2.2; omega
/-- what was written doesn't touch it -/
def yut (F : zF) (t : yQp) (e : yE) : Bool := Nat.beq e.2.2.2 0 || (match t.1 with
  | 1 => !(Nat.beq e.1 62) && (!(Nat.beq e.1 61) || yle 2 F (zsh e.2.1 1) (zk 7) || yge 2 F e.2.1 8)
  | 2 => !(Nat.beq e.1 t.2.1) && !(Nat.beq e.1 (t.2.1 + 1))
  | 3 => !(Nat.beq e.1 71)
  | 4 => !(Nat.beq e.1 71)
  | 5 => !(Nat.beq e.1 71) && !(Nat.beq e.1 72) && (!(Nat.beq e.1 70) || yle 2 F (zsh e.2.1 1) (zk 3) || yge 2 F e.2.1 5)
  | 6 => !(Nat.beq e.1 t.2.1) || yle 2 F (zsh e.2.1 1) (zk 4) || yge 2 F e.2.1 6
  | 7 => !(Nat.beq e.1 t.2.1) && !(Nat.beq e.1 t.2.2.1)
  | 8 => !(Nat.beq e.1 t.2.1) && !(Nat.beq e.1 t.2.2.1)
  | 9 => (!(Nat.beq e.1 75) || yle 2 F (zsh e.2.1 1) (zk 7) || yge 2 F e.2.1 8) && (!(Nat.beq e.1 t.2.1) || yx0 (ycl9 F e.2.1) 0)
  | 10 => (!(Nat.beq e.1 75) || yle 2 F (zsh e.2.1 1) (zk 7) || yge 2 F e.2.1 8) && (!(Nat.beq e.1 t.2.1) || yle 2 F (zsh e.2.1 1) (zk 27))
  | 11 => !(Nat.beq e.1 77) || yfr9 F e.2.1
  | 12 => !(Nat.beq e.1 77) || yfr9 F e.2.1
  | 13 => !(Nat.beq e.1 75) || ((yle 2 F (zsh e.2.1 1) (zk 5) || yge 2 F e.2.1 6) && (yle 2 F (zsh e.2.1 1) (zk 7) || yge 2 F e.2.1 8))
  | 15 => (!(Nat.beq e.1 75) || yle 2 F (zsh e.2.1 1) (zk 5) || yge 2 F e.2.1 6) && (!(Nat.beq e.1 77) || yfr9 F e.2.1)
  | 16 => !(Nat.beq e.1 77) || yfr9 F e.2.1
  | 17 => !(Nat.beq e.1 77) || yfr9 F e.2.1
  | 18 => (!(Nat.beq e.1 t.2.1) || yle 2 F (zsh e.2.1 1) (zk 20) || yge 2 F e.2.1 27) && !(Nat.beq e.1 2)
  | 19 => (!(Nat.beq e.1 t.2.1) || yle 2 F (zsh e.2.1 1) (zk 85) || yge 2 F e.2.1 135 || ynp F e.2.1) && !(Nat.beq e.1 12)
  | _ => true)
theorem yut_ok {r : List Int} {F : zF} {t : yQp} {e : yE} {i : Nat} (hF : zFok r F) (hi : zd r e.2.1 = some (i : Int)) (h : yut F t e = true) (h0 : e.2.2.2 ≠ 0) : ¬ yIn t e.1 i := by
  unfold yut at h
  simp only [Bool.or_eq_true, zbe] at h
  rcases h with h | h
  · exact absurd h h0
  · unfold yIn
    have lo : ∀ c, yle 2 F (zsh e.2.1 1) (zk c) = true → (i : Int) + 1 ≤ c := fun c h => yle_ok hF 2 (zsh_d hi) (zk_d hF _) h
    have hi9 : ∀ c, yge 2 F e.2.1 c = true → c ≤ (i : Int) := fun c h => yge_ok hF 2 hi h
    split at h
    · simp only [Bool.and_eq_true, Bool.or_eq_true, Bool.not_eq_true'] at h
      obtain ⟨a, b⟩ := h
      rintro (⟨e1, e2⟩ | e9)
      · rcases b with (b | b) | b
        · exact nbe b e1
        · have := lo _ b; omega
        · have := hi9 _ b; omega
      · exact nbe a e9
    · simp only [Bool.and_eq_true, Bool.not_eq_true'] at h
      rintro (e9 | e9)
      · exact nbe h.1 e9
      · exact nbe h.2 e9
    · simp only [Bool.not_eq_true'] at h
      exact fun e9 => nbe h e9
    · simp only [Bool.not_eq_true'] at h
      exact fun e9 => nbe h e9
    · simp only [Bool.and_eq_true, Bool.or_eq_true, Bool.not_eq_true'] at h
      obtain ⟨⟨a, b⟩, c⟩ := h
      rintro (⟨e1, e2⟩ | e9 | e9)
      · rcases c with (c | c) | c
        · exact nbe c e1
        · have := lo _ c; omega
        · have := hi9 _ c; omega
      · exact nbe a e9
      · exact nbe b e9
    · simp only [Bool.or_eq_true, Bool.not_eq_true'] at h
      rintro ⟨e1, e2⟩
      rcases h with (h | h) | h
      · exact nbe h e1
      · have := lo _ h; omega
      · have := hi9 _ h; omega
    · simp only [Bool.and_eq_true, Bool.not_eq_true'] at h
      rintro (e9 | e9)
      · exact nbe h.1 e9
      · exact nbe h.2 e9
    · simp only [Bool.and_eq_true, Bool.not_eq_true'] at h
      rintro (e9 | e9)
      · exact nbe h.1 e9
      · exact nbe h.2 e9
    · simp only [Bool.and_eq_true, Bool.or_eq_true, Bool.not_eq_true'] at h
      obtain ⟨a, b⟩ := h
      rintro (⟨e1, e2⟩ | ⟨e1, e2⟩)
      · rcases a with (a | a) | a
        · exact nbe a e1
        · have := lo _ a; omega
        · have := hi9 _ a; omega
      · rcases b with b | b
        · exact nbe b e1
        · exact e2 (ycl9_ok hF hi (yx0_ok b))
    · simp only [Bool.and_eq_true, Bool.or_eq_true, Bool.not_eq_true'] at h
      obtain ⟨a, b⟩ := h
      rintro (⟨e1, e2⟩ | ⟨e1, e2⟩)
      · rcases a with (a | a) | a
        · exact nbe a e1
        · have := lo _ a; omega
        · have := hi9 _ a; omega
      · rcases b with b | b
        · exact nbe b e1
        · have := lo _ b; omega
    · simp only [Bool.or_eq_true, Bool.not_eq_true'] at h
      rintro ⟨e1, e2⟩
      rcases h with h | h
      · exact nbe h e1
      · exact yfr9_ok hF hi h e2
    · simp only [Bool.or_eq_true, Bool.not_eq_true'] at h
      rintro ⟨e1, e2⟩
      rcases h with h | h
      · exact nbe h e1
      · exact yfr9_ok hF hi h e2
    · simp only [Bool.and_eq_true, Bool.or_eq_true, Bool.not_eq_true'] at h
      rintro ⟨e1, e2⟩
      rcases h with h | ⟨a, b⟩
      · exact nbe h e1
      · rcases e2 with e2 | e2
        · rcases a with a | a
          · have := lo _ a; omega
          · have := hi9 _ a; omega
        · rcases b with b | b
          · have := lo _ b; omega
          · have := hi9 _ b; omega
    · simp only [Bool.and_eq_true, Bool.or_eq_true, Bool.not_eq_true'] at h
      obtain ⟨a, b⟩ := h
      rintro (⟨e1, e2⟩ | ⟨e1, e2⟩)
      · rcases a with (a | a) | a
        · exact nbe a e1
        · have := lo _ a; omega
        · have := hi9 _ a; omega
      · rcases b with b | b
        · exact nbe b e1
        · exact yfr9_ok hF hi b e2
    · simp only [Bool.or_eq_true, Bool.not_eq_true'] at h
      rintro ⟨e1, e2⟩
      rcases h with h | h
      · exact nbe h e1
      · exact yfr9_ok hF hi h e2
    · simp only [Bool.or_eq_true, Bool.not_eq_true'] at h
      rintro ⟨e1, e2⟩
      rcases h with h | h
      · exact nbe h e1
      · exact yfr9_ok hF hi h e2
    · simp only [Bool.and_eq_true, Bool.or_eq_true, Bool.not_eq_true'] at h
      obtain ⟨a, b⟩ := h
      rintro (⟨e1, e2⟩ | ⟨e1, e2⟩)
      · rcases a with (a | a) | a
        · exact nbe a e1
        · have := lo _ a; omega
        · have := hi9 _ a; omega
      · exact nbe b e1
    · simp only [Bool.and_eq_true, Bool.or_eq_true, Bool.not_eq_true'] at h
      obtain ⟨a, b⟩ := h
      rintro (⟨e1, e2⟩ | e1)
      · rcases a with ((a | a) | a) | a
        · exact nbe a e1
        · have := lo _ a; omega
        · have := hi9 _ a; omega
        · exact (ynp_ok hF hi a).2.2 e2.2.2
      · exact nbe b e1
    · exact fun e9 => e9
theorem yut_all {E : mEnv} {r : List Int} {F : zF} {m0 m : mMem} {es : List yE} {t : yQp} (hF : zFok r F) (hc : ych E r m0 es m) (h : es.all (yut F t) = true) (hp : yPH gh r m0 t) : yPH gh r m t := by
  refine yPH_ag (fun p j hi => ych_same hc fun e he h0 ep i hz hij => ?_) hp
  subst ep
  subst hij
  exact yut_ok hF hz (List.all_eq_true.mp h e he) h0 hi
end
