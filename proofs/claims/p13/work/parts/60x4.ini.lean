/-! THE START: what the constructors make fits the types -/
section
/-- what a value is known to be: an int, a reference, a long -/
def tV (a : zV) : Option (Nat × Int × Int) := match a.1 with
  | 1 => bif Nat.beq a.2.1 0 then some (1, a.2.2, a.2.2) else none
  | 2 => some (2, .ofNat a.2.1, .ofNat a.2.1)
  | 3 => some (3, 0, 0)
  | _ => none
theorem tV_ok {r : List Int} (h0 : r[0]? = some 0) {v : Value} {a : zV} {q : Nat × Int × Int} (hv : zvm r v a) (h : tV a = some q) : yrm v q.1 q.2.1 q.2.2 := by
  unfold tV at h
  unfold zvm at hv
  split at h
  · rename_i e
    rw [e] at hv
    obtain ⟨x, rfl, hx⟩ := hv
    cases c : Nat.beq a.2.1 0 with
    | false => rw [c] at h; cases h
    | true =>
      rw [c] at h
      cases h
      obtain ⟨u, u1, u2⟩ := zd_some.mp hx
      rw [zbe.mp c, h0] at u1
      cases u1
      show ∃ y : Int32, Value.int x = .int y ∧ a.2.2 ≤ y.toInt ∧ y.toInt ≤ a.2.2
      exact ⟨x, rfl, by omega, by omega⟩
  · rename_i e
    rw [e] at hv
    cases h
    show ∃ b : Nat, v = .ref b ∧ (Int.ofNat a.2.1) ≤ (b : Int) ∧ (b : Int) ≤ (Int.ofNat a.2.1)
    exact ⟨a.2.1, hv, Int.le_refl _, Int.le_refl _⟩
  · rename_i e
    rw [e] at hv
    cases h
    obtain ⟨x, rfl, -⟩ := hv
    exact ⟨x, rfl⟩
  · cases h
def tB (q : Nat × Int × Int) : Option (Nat × Int × Int) := match q.1 with
  | 0 => none
  | 1 => some (1, q.2.1, q.2.2)
  | _ => some (3, 0, 0)
theorem tB_ok {v : Value} {q a : Nat × Int × Int} (hv : zrm v q.1 q.2.1 q.2.2) (h : tB q = some a) : yrm v a.1 a.2.1 a.2.2 := by
  obtain ⟨t, l, u⟩ := q
  unfold tB at h
  dsimp only at hv h
  match t, hv, h with
  | 0, hv, h => cases h
  | 1, hv, h => cases h; exact hv
  | 2, hv, h =>
    cases h
    obtain ⟨x, rfl⟩ := hv
    exact ⟨x, rfl⟩
  | 3, hv, h =>
    cases h
    obtain ⟨x, rfl, -⟩ := hv
    exact ⟨x, rfl⟩
  | t + 4, hv, h =>
    cases h
    obtain ⟨x, rfl⟩ := hv
    exact ⟨x, rfl⟩
def tar (base : List zR) : zN → Nat → Option (Nat × Int × Int)
  | [], j => (match zba base j with
    | some q => tB q
    | none => none)
  | e :: es, j => bif Nat.beq e.1.2.1 0 then (bif zeq e.1.2.2 (.ofNat j) then tV e.2 else tar base es j) else none
theorem tar_ok {r : List Int} (h0 : r[0]? = some 0) {base : List zR} {j : Nat} {v : Value} {q : Nat × Int × Int} : ∀ {es : zN}, zak r base es j v → tar base es j = some q → yrm v q.1 q.2.1 q.2.2
  | [], hv, h => by
    obtain ⟨t, l, u, h1, h2⟩ := hv
    unfold tar at h
    rw [h1] at h
    exact tB_ok (q := (t, l, u)) h2 h
  | e :: es, hv, h => by
    obtain ⟨i, h1, h2⟩ := hv
    unfold tar at h
    cases c : Nat.beq e.1.2.1 0 with
    | false => rw [c] at h; cases h
    | true =>
      rw [c] at h
      simp only [cond_true] at h
      obtain ⟨u, u1, u2⟩ := zd_some.mp h1
      rw [zbe.mp c, h0] at u1
      cases u1
      cases c2 : zeq e.1.2.2 (.ofNat j) with
      | true =>
        rw [c2] at h
        simp only [cond_true] at h
        have e2 := zeq_iff.mp c2
        have : j = i := by
          have : (Int.ofNat j) = (j : Int) := rfl
          omega
        rw [if_pos this] at h2
        exact tV_ok h0 h2 h
      | false =>
        rw [c2] at h
        simp only [cond_false] at h
        have : ¬ j = i := fun e3 => by
          have : zeq e.1.2.2 (.ofNat j) = true := zeq_iff.mpr (by
            have : (Int.ofNat j) = (j : Int) := rfl
            omega)
          rw [this] at c2
          cases c2
        rw [if_neg this] at h2
        exact tar_ok h0 h2 h
def tat (z : zC) (j : Nat) : Option (Nat × Int × Int) := match z with
  | .inl (_, _, base, es) => tar base es j
  | .inr (_, as) => (match zln as j with
    | some a => tV a
    | none => none)
theorem tat_ok {r : List Int} (h0 : r[0]? = some 0) {c : mCell} {z : zC} {j : Nat} {v : Value} {q : Nat × Int × Int} (hz : zcm r c z) (hv : yv1 c j = some v) (h : tat z j = some q) : yrm v q.1 q.2.1 q.2.2 := by
  cases z with
  | inl x =>
    obtain ⟨t, n, base, es⟩ := x
    obtain ⟨f, rfl, hf⟩ := hz
    unfold yv1 at hv
    dsimp only at hv
    by_cases hj : j < n
    · rw [if_pos hj] at hv
      cases hv
      exact tar_ok h0 (hf j hj) h
    · rw [if_neg hj] at hv
      cases hv
  | inr x =>
    obtain ⟨ci, as⟩ := x
    obtain ⟨fs, rfl, hf⟩ := hz
    unfold tat at h
    dsimp only at h
    split at h
    · rename_i a ea
      obtain ⟨w, w1, w2⟩ := zln_ok hf ea
      have hv : fs[j]? = some v := hv
      rw [hv] at w1
      cases w1
      exact tV_ok h0 w2 h
    · cases h
def tsh (c : yC) (z : zC) : Bool := match z with
  | .inl (t, n, _, _) => Nat.beq c.1 1 && Nat.beq c.2.1 t && Nat.beq c.2.2.1 n
  | .inr (ci, as) => Nat.beq c.1 0 && Nat.beq c.2.1 ci && Nat.beq c.2.2.1 as.length
theorem tsh_ok {r : List Int} {c : mCell} {z : zC} {y : yC} (hz : zcm r c z) (h : tsh y z = true) : ysh y c := by
  cases z with
  | inl x =>
    obtain ⟨t, n, base, es⟩ := x
    obtain ⟨f, rfl, hf⟩ := hz
    unfold tsh at h
    simp only [Bool.and_eq_true, zbe] at h
    exact ⟨h.1.1, h.1.2, h.2⟩
  | inr x =>
    obtain ⟨ci, as⟩ := x
    obtain ⟨fs, rfl, hf⟩ := hz
    unfold tsh at h
    simp only [Bool.and_eq_true, zbe] at h
    exact ⟨h.1.1, h.1.2, by rw [zlm_len hf]; exact h.2⟩
theorem tsh_lt {y : yC} {c : mCell} {j : Nat} {v : Value} (h : ysh y c) (hv : yv1 c j = some v) : j < y.2.2.1 := by
  cases c with
  | inl x =>
    obtain ⟨t, n, f⟩ := x
    obtain ⟨-, -, h3⟩ := h
    unfold yv1 at hv
    dsimp only at hv
    by_cases hj : j < n
    · omega
    · rw [if_neg hj] at hv; cases hv
  | inr x =>
    obtain ⟨ci, fs⟩ := x
    obtain ⟨-, -, h3⟩ := h
    have hv : fs[j]? = some v := hv
    have := (List.getElem?_eq_some_iff.mp hv).1
    omega
def tfit (a q : Nat × Int × Int) : Bool := match q.1 with
  | 0 => true
  | 1 => Nat.beq a.1 1 && zle q.2.1 a.2.1 && zle a.2.2 q.2.2
  | 2 => Nat.beq a.1 2 && zle q.2.1 a.2.1 && zle a.2.2 q.2.2
  | _ => Nat.beq a.1 3
theorem tfit_ok {v : Value} {a q : Nat × Int × Int} (hv : yrm v a.1 a.2.1 a.2.2) (h : tfit a q = true) : yrm v q.1 q.2.1 q.2.2 := by
  obtain ⟨t, l, u⟩ := q
  unfold tfit at h
  dsimp only at h
  match t, h with
  | 0, h => exact trivial
  | 1, h =>
    simp only [Bool.and_eq_true, zle_iff] at h
    rw [zbe.mp h.1.1] at hv
    obtain ⟨x, rfl, h1, h2⟩ := hv
    show ∃ y : Int32, Value.int x = .int y ∧ l ≤ y.toInt ∧ y.toInt ≤ u
    exact ⟨x, rfl, by omega, by omega⟩
  | 2, h =>
    simp only [Bool.and_eq_true, zle_iff] at h
    rw [zbe.mp h.1.1] at hv
    obtain ⟨x, rfl, h1, h2⟩ := hv
    show ∃ y : Nat, Value.ref x = .ref y ∧ l ≤ (y : Int) ∧ (y : Int) ≤ u
    exact ⟨x, rfl, by omega, by omega⟩
  | t + 3, h =>
    have h : Nat.beq a.1 3 = true := h
    rw [zbe.mp h] at hv
    exact hv
def tok (k : yK) (z : zC) (j : Nat) : Bool := match tat z j with
  | some a => (match zba k.1 j with
    | some q => tfit a q
    | none => false) && (match yrs j k.2 with
    | some p => tfit a (1, p.1, p.2)
    | none => true)
  | none => false
theorem tok_ok {r : List Int} (h0 : r[0]? = some 0) {c : mCell} {z : zC} {j : Nat} {v : Value} {k : yK} (hz : zcm r c z) (hv : yv1 c j = some v) (h : tok k z j = true) : yok k j v := by
  unfold tok at h
  split at h
  · rename_i a ea
    have h9 := tat_ok h0 hz hv ea
    simp only [Bool.and_eq_true] at h
    obtain ⟨h1, h2⟩ := h
    refine ⟨?_, fun p hp => ?_⟩
    · split at h1
      · rename_i q eq
        exact ⟨q, eq, tfit_ok h9 h1⟩
      · cases h1
    · rw [hp] at h2
      exact tfit_ok (q := (1, p.1, p.2)) h9 h2
  · cases h
def tal (g : Nat → Bool) : Nat → Bool
  | 0 => true
  | n + 1 => g n && tal g n
theorem tal_ok {g : Nat → Bool} : ∀ {n : Nat}, tal g n = true → ∀ j, j < n → g j = true
  | 0, _, j, hj => by omega
  | n + 1, h, j, hj => by
    unfold tal at h
    rw [Bool.and_eq_true] at h
    by_cases e : j = n
    · rw [e]; exact h.1
    · exact tal_ok h.2 j (by omega)
def tcl (w : zT zC 7) (p : Nat) : Bool := tsh (ztg 7 yY p) (ztg 7 w p) && tal (tok (ykk yKk (ztg 7 yY p).2.2.2) (ztg 7 w p)) (ztg 7 yY p).2.2.1
theorem tcl_ok {r : List Int} (h0 : r[0]? = some 0) {m : mMem} {w : zT zC 7} (hm : zmm r m (85, w)) (h : tal (tcl w) 85 = true) : yTM yY yKk yNn m := by
  refine ⟨hm.1, by decide, fun p c hc => ?_⟩
  have hp : p < 85 := by
    have := (List.getElem?_eq_some_iff.mp hc).1
    have e : m.length = 85 := hm.1
    omega
  obtain ⟨c', e1, e2⟩ := hm.2.2 p hp
  rw [hc] at e1
  cases e1
  have h9 := tal_ok h p hp
  unfold tcl at h9
  rw [Bool.and_eq_true] at h9
  have hs := tsh_ok e2 h9.1
  exact ⟨hs, fun j v hv => tok_ok h0 e2 hv (tal_ok h9.2 j (tsh_lt hs hv))⟩
/-- this int stands there -/
def tz (w : zT zC 7) (p j : Nat) (l h : Int) : Bool := match tat (ztg 7 w p) j with
  | some a => Nat.beq a.1 1 && zle l a.2.1 && zle a.2.2 h
  | none => false
theorem tz_ok {r : List Int} (h0 : r[0]? = some 0) {m : mMem} {w : zT zC 7} (hm : zmm r m (85, w)) {p j : Nat} {l u : Int} (h : tz w p j l u = true) (hp : p < 85) {v : Value} (hv : yva m p j = some v) : ∃ x : Int32, v = .int x ∧ l ≤ x.toInt ∧ x.toInt ≤ u := by
  obtain ⟨c, e1, e2⟩ := hm.2.2 p hp
  unfold yva at hv
  rw [e1] at hv
  dsimp only at hv
  unfold tz at h
  split at h
  · rename_i a ea
    have h9 := tat_ok h0 e2 hv ea
    simp only [Bool.and_eq_true, zle_iff] at h
    rw [zbe.mp h.1.1] at h9
    obtain ⟨x, rfl, h1, h2⟩ := h9
    exact ⟨x, rfl, by omega, by omega⟩
  · cases h
def tli (w : zT zC 7) (j : Nat) : Bool := bif zeq (ylm j) 1 then tz w 77 j (-2147483648) 3 else bif zeq (ylm j) 2 then tz w 77 j (-2147483648) 15 else true
def tpr (w : zT zC 7) : Bool := tz w 77 4 0 0 && tz w 77 5 0 0 && tz w 75 21 0 0 && tz w 75 7 4 4 && tal (fun j => tz w 34 j 0 0 && tz w 4 j 0 0 && tz w 67 j 0 0) 120 && tal (fun j => tz w 71 j 0 0) 500 && tal (tli w) 969
def tst (w : zT zC 7) : Bool := [(0, 2), (1, 6), (2, 3), (3, 2), (4, 0), (5, 1), (6, 0)].all fun q : Nat × Int => tz w 2 q.1 q.2 q.2 && tz w 77 (20 + q.1) q.2 q.2
theorem tst_ok {r : List Int} (h0 : r[0]? = some 0) {m : mMem} {w : zT zC 7} (hm : zmm r m (85, w)) (hT : yTM yY yKk yNn m) (h : tst w = true) : yPH (0, 0) [0] m (18, 77, 0, (1, 0, 0)) := by
  unfold tst at h
  rw [List.all_eq_true] at h
  have key : ∀ (k : Nat) (c : Int), (k, c) ∈ ([(0, 2), (1, 6), (2, 3), (3, 2), (4, 0), (5, 1), (6, 0)] : List (Nat × Int)) → k < 7 → yva m 77 (20 + k) = yva m 2 k := fun k c hm9 hk => by
    have h9 := h (k, c) hm9
    simp only [Bool.and_eq_true] at h9
    have n2 : (ztg 7 yY 2).2.2.1 = 7 := by decide +kernel
    have n77 : (ztg 7 yY 77).2.2.1 = 969 := by decide +kernel
    obtain ⟨v, v1, -⟩ := yva_ex (p := 2) (j := k) hT (by decide) (by omega)
    obtain ⟨u, u1, -⟩ := yva_ex (p := 77) (j := 20 + k) hT (by decide) (by omega)
    obtain ⟨x, rfl, x1, x2⟩ := tz_ok h0 hm h9.1 (by omega) v1
    obtain ⟨y, rfl, y1, y2⟩ := tz_ok h0 hm h9.2 (by omega) u1
    rw [u1, v1, Int32.toInt_inj.mp (show y.toInt = x.toInt by omega)]
  intro k hk
  have hk' : k = 0 ∨ k = 1 ∨ k = 2 ∨ k = 3 ∨ k = 4 ∨ k = 5 ∨ k = 6 := by omega
  rcases hk' with rfl | rfl | rfl | rfl | rfl | rfl | rfl
  · exact key 0 2 (by decide) (by omega)
  · exact key 1 6 (by decide) (by omega)
  · exact key 2 3 (by decide) (by omega)
  · exact key 3 2 (by decide) (by omega)
  · exact key 4 0 (by decide) (by omega)
  · exact key 5 1 (by decide) (by omega)
  · exact key 6 0 (by decide) (by omega)
/-- this int stands at all of these -/
def tzs (w : zT zC 7) (l : List ((Nat × Nat) × Int)) : Bool := l.all fun q => Nat.ble (Nat.succ q.1.1) 85 && Nat.ble (Nat.succ q.1.2) (ztg 7 yY q.1.1).2.2.1 && tz w q.1.1 q.1.2 q.2 q.2
theorem tzs_ok {r : List Int} (h0 : r[0]? = some 0) {m : mMem} {w : zT zC 7} (hm : zmm r m (85, w)) (hT : yTM yY yKk yNn m) {l : List ((Nat × Nat) × Int)} (h : tzs w l = true) {q : Nat × Nat} {c : Int32} (hq : (q, c.toInt) ∈ l) : yva m q.1 q.2 = some (.int c) := by
  have h9 := List.all_eq_true.mp h _ hq
  simp only [Bool.and_eq_true, Nat.ble_eq] at h9
  obtain ⟨⟨a, b⟩, d⟩ := h9
  obtain ⟨v, v1, -⟩ := yva_ex (p := q.1) (j := q.2) hT (by show q.1 < 85; omega) (by omega)
  obtain ⟨x, rfl, x1, x2⟩ := tz_ok h0 hm d (by omega) v1
  rw [v1, Int32.toInt_inj.mp (show x.toInt = c.toInt by omega)]
def tzl : List ((Nat × Nat) × Int) := [((75, 21), 0), ((1, 14), 4), ((75, 5), 4), ((1, 15), 3), ((75, 6), 3), ((1, 16), 4), ((75, 7), 4), ((12, 0), (-1)), ((12, 1), (-1)), ((12, 2), (-1)), ((12, 3), (-1)), ((12, 4), (-1)), ((12, 5), (-1)), ((12, 6), (-1)), ((12, 7), (-1)), ((77, 85), (-1)), ((77, 92), (-1)), ((77, 99), (-1)), ((77, 106), (-1)), ((77, 113), (-1)), ((77, 120), (-1)), ((77, 127), (-1)), ((77, 134), (-1))]
theorem tst2 {r : List Int} (h0 : r[0]? = some 0) {m : mMem} {w : zT zC 7} (hm : zmm r m (85, w)) (hT : yTM yY yKk yNn m) (h : tzs w tzl = true) : yTlR yS0 m ∧ yPH (0, 0) [0] m (19, 77, 0, (1, 0, 0)) := by
  have key : ∀ (q : Nat × Nat) (c : Int32), (q, c.toInt) ∈ tzl → yva m q.1 q.2 = some (.int c) := fun q c hq => tzs_ok h0 hm hT h hq
  refine ⟨fun c hc => ?_, ?_⟩
  · unfold yS0 at hc
    simp only [List.mem_cons, List.not_mem_nil, or_false] at hc
    rcases hc with rfl | rfl | rfl | rfl
    · exact ⟨0, fun q hq => by simp only [List.mem_cons, List.not_mem_nil, or_false] at hq; subst hq; exact key _ 0 (by decide), by decide, by decide⟩
    · exact ⟨4, fun q hq => by simp only [List.mem_cons, List.not_mem_nil, or_false] at hq; rcases hq with rfl | rfl <;> exact key _ 4 (by decide), by decide, by decide⟩
    · exact ⟨3, fun q hq => by simp only [List.mem_cons, List.not_mem_nil, or_false] at hq; rcases hq with rfl | rfl <;> exact key _ 3 (by decide), by decide, by decide⟩
    · exact ⟨4, fun q hq => by simp only [List.mem_cons, List.not_mem_nil, or_false] at hq; rcases hq with rfl | rfl <;> exact key _ 4 (by decide), by decide, by decide⟩
  · apply yNw_to
    intro c hc
    unfold yNw at hc
    simp only [List.mem_cons, List.not_mem_nil, or_false] at hc
    rcases hc with rfl | rfl | rfl | rfl | rfl | rfl | rfl | rfl | rfl | rfl | rfl | rfl | rfl | rfl | rfl | rfl <;> exact ⟨-1, fun q hq => by simp only [List.mem_cons, List.not_mem_nil, or_false] at hq; subst hq; exact key _ (-1) (by decide), by decide, by decide⟩
theorem tpr_ok {r : List Int} (h0 : r[0]? = some 0) {m : mMem} {w : zT zC 7} (hm : zmm r m (85, w)) (hT : yTM yY yKk yNn m) (h : tpr w = true) : (∀ t ∈ yALW, yPH (0, 0) [0] m t) ∧ yva m 75 21 = some (.int 0) := by
  unfold tpr at h
  simp only [Bool.and_eq_true] at h
  obtain ⟨⟨⟨⟨⟨⟨h1, h2⟩, h3⟩, h4⟩, h5⟩, h6⟩, h7⟩ := h
  have at0 : ∀ (p j : Nat) (c : Int), p < 85 → j < (ztg 7 yY p).2.2.1 → tz w p j c c = true → ∃ x : Int32, yva m p j = some (.int x) ∧ x.toInt = c := fun p j c hp hj ht => by
    obtain ⟨v, v1, -⟩ := yva_ex (j := j) hT hp hj
    obtain ⟨x, rfl, x1, x2⟩ := tz_ok h0 hm ht hp v1
    exact ⟨x, v1, by omega⟩
  have lt : ∀ (p j : Nat) (x : Int32), p < 85 → yva m p j = some (.int x) → j < (ztg 7 yY p).2.2.1 := fun p j x hp hv => by
    by_cases hj : j < (ztg 7 yY p).2.2.1
    · exact hj
    · rw [yva_ge hT (by omega)] at hv
      cases hv
  obtain ⟨a, a1, a2⟩ := at0 77 4 0 (by omega) (by decide +kernel) h1
  obtain ⟨b, b1, b2⟩ := at0 77 5 0 (by omega) (by decide +kernel) h2
  obtain ⟨c, c1, c2⟩ := at0 75 21 0 (by omega) (by decide +kernel) h3
  obtain ⟨d, d1, d2⟩ := at0 75 7 4 (by omega) (by decide +kernel) h4
  have hc0 : c = 0 := Int32.toInt_inj.mp (c2.trans (by decide))
  subst hc0
  refine ⟨?_, c1⟩
  have z2 : ∀ (p : Nat), p < 85 → (ztg 7 yY p).2.2.1 = 120 → (∀ j, j < 120 → tz w p j 0 0 = true) → yPH (0, 0) [0] m (2, p, 0, (1, 0, 0)) := fun p hp hn ht j x y hx _ e => by
    have hj := lt p j x hp hx
    rw [hn] at hj
    obtain ⟨x', e1, e2⟩ := at0 p j 0 hp (by omega) (ht j hj)
    rw [e1] at hx
    cases hx
    omega
  have h5' : ∀ j, j < 120 → (tz w 34 j 0 0 = true ∧ tz w 4 j 0 0 = true) ∧ tz w 67 j 0 0 = true := fun j hj => by
    have := tal_ok h5 j hj
    simp only [Bool.and_eq_true] at this
    exact this
  intro t ht
  simp only [yALW, List.mem_cons, List.not_mem_nil, or_false] at ht
  rcases ht with rfl | rfl | rfl | rfl | rfl | rfl
  · exact ⟨a, b, a1, b1, Or.inl ⟨a2, b2⟩⟩
  · exact z2 34 (by omega) (by decide +kernel) fun j hj => (h5' j hj).1.1
  · exact z2 4 (by omega) (by decide +kernel) fun j hj => (h5' j hj).1.2
  · exact z2 67 (by omega) (by decide +kernel) fun j hj => (h5' j hj).2
  · refine ⟨d, d1, by omega, by omega, fun j x hx => ?_⟩
    have hj := lt 77 j x (by omega) hx
    have hj : j < 969 := by
      have e : (ztg 7 yY 77).2.2.1 = 969 := by decide +kernel
      rw [e] at hj
      exact hj
    have h9 := tal_ok h7 j hj
    unfold tli at h9
    rw [d2]
    refine ⟨fun e => ?_, fun e => ?_⟩
    · rw [e, show zeq 1 1 = true from rfl] at h9
      obtain ⟨x', e1, e2, e3⟩ := tz_ok h0 hm h9 (by omega) hx
      cases e1
      omega
    · rw [e, show zeq 2 1 = false from rfl, show zeq 2 2 = true from rfl] at h9
      obtain ⟨x', e1, e2, e3⟩ := tz_ok h0 hm h9 (by omega) hx
      cases e1
      have : (2 : Int) ^ (Int.toNat 4) = 16 := by decide
      omega
  · intro k hk x hx _
    have e : (ztg 7 yY 71).2.2.1 = 500 := by decide +kernel
    refine ⟨fun y hy => ?_, fun y hy => ?_⟩
    · obtain ⟨x', e1, e2⟩ := at0 71 (5 * k + 1) 0 (by omega) (by omega) (tal_ok h6 _ (by omega))
      rw [e1] at hy
      cases hy
      omega
    · obtain ⟨x', e1, e2⟩ := at0 71 (5 * k + 2) 0 (by omega) (by omega) (tal_ok h6 _ (by omega))
      rw [e1] at hy
      cases hy
      omega
end
