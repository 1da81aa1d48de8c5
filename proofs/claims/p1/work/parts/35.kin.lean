/-! the kinds of calls, each by the checker -/
def zst6 : zQ := fun p => bif Nat.beq p 1000 then some (0, 6, [(6, 1, zI0, zI1)], [((1, 0, 0), (1, 1, 0)), ((1, 0, 1), (1, 2, 0)), ((1, 0, 2), (1, 3, 0)), ((1, 0, 3), (1, 4, 0)), ((1, 0, 4), (1, 5, 0)), ((1, 0, 5), (1, 6, 0))]) else bif Nat.beq p 1001 then some (0, 7, [(1, 1, 1, 1), (2, 1, 1, 1), (3, 1, 1, 1), (4, 1, 0, 0), (5, 1, 0, 0), (6, 1, 0, 0), (7, 1, 0, 0)], []) else bif Nat.beq p 1002 then some (0, 7, [(1, 1, 99, 99), (2, 1, 99, 99), (3, 1, 99, 99), (4, 1, 8, 8), (5, 1, 64, 64), (6, 1, 99, 99), (7, 1, 9999, 9999)], []) else bif Nat.beq p 1003 then some (1, 10, [(1, 3, 23580851, 23580851), (2, 3, 21174436004, 21174436004), (3, 3, 522327635, 522327635), (4, 3, 463922, 463922), (5, 3, 6194, 6194), (6, 3, 12891444, 12891444), (7, 3, 525541, 525541), (8, 3, 272019, 272019), (9, 3, 446287027, 446287027), (10, 3, 17171758, 17171758)], []) else none
def zb0 : zB := [(1, zI0, zI1), (2, zI0, zI1), (3, zI0, zI1), (4, zI0, zI1), (5, zI0, zI1), (6, zI0, zI1)]
def zgood (L : List zU) : Bool := L.all fun o => Nat.beq o.1 1 && (eV o.2.1 (1, 0, 1) && (Nat.ble o.2.2.2.2.1 600002 && Nat.ble o.2.2.2.2.2 7302232))
def zkc (lo hi : Int) (b : zB) : Bool := match yex zE0 zst6 100 zcon4 100000 1000 300 zm_300 zm_300.2.2.2.2.1 40 zl1 [(1, 7, 0)] (8, (7, lo, hi) :: (b ++ zb0), [], []) (85, zw1) 1000 100000 with
  | some L => zgood L
  | none => false
def zP9 (r : mRes) : Prop := r.1 = .inr (some (.int 1)) ∧ r.2.2.1 ≤ 600002 ∧ r.2.2.2 ≤ 7302232
def zr7 (xs : Nat → Int32) : List Int := [0, (xs 0).toInt, (xs 1).toInt, (xs 2).toInt, (xs 3).toInt, (xs 4).toInt, (xs 5).toInt]
def zr8 (xs : Nat → Int32) (v : Int32) : List Int := [0, (xs 0).toInt, (xs 1).toInt, (xs 2).toInt, (xs 3).toInt, (xs 4).toInt, (xs 5).toInt, v.toInt]
def zKin (xs : Nat → Int32) (v : Int32) : Prop := ∀ ls st mem nc ns, zls (zr8 xs v) ls zl1 → zlm (zr8 xs v) st [(1, 7, 0)] → zmm (zr8 xs v) mem (85, zw1) → nc ≤ 1000 → ns ≤ 100000 → mGd (zE1 6 xs) zP9 1000 300 40 ls st mem nc ns
theorem ygo_env {a : Nat → Option mMeth} {b : Nat → List FieldType} {c c' : Nat → Option (Nat × Nat × (Nat → Value))} {d : Nat → String} {ro : zQ} {dn : Nat} {con : zK} {stop : Nat → Bool} {fu : Nat} : ∀ n, ygo (a, b, c, d) ro dn con stop fu n = ygo (a, b, c', d) ro dn con stop fu n := by
  intro n
  induction n with
  | zero => rfl
  | succ n ih =>
    funext dd mi M cur pc ls st F w nc ns
    unfold ygo
    rw [ih, yex_env (c := c) (c' := c')]
theorem zgood_ok {L : List zU} (h : zgood L = true) {E : mEnv} {r r' : List Int} {o : zU} {res : mRes} (ho : o ∈ L) (hu : zuo E r' o res) : zP9 res := by
  have := List.all_eq_true.mp h o ho
  simp only [Bool.and_eq_true, Nat.ble_eq, zbe] at this
  obtain ⟨g1, g2, g3, g4⟩ := this
  obtain ⟨u1, u2, u3, u4, u5⟩ := hu
  rw [g1] at u5
  simp only at u5
  obtain ⟨v, e1, e2⟩ := u5
  rw [eV_ok g2] at e2
  obtain ⟨x, rfl, hx⟩ := zvm_i e2 rfl
  obtain ⟨u, h1, h2⟩ := zd_some.mp hx
  rw [u1.2.1] at h1
  cases h1
  have : x = 1 := Int32.toInt_inj.mp (by rw [h2]; rfl)
  rw [this] at e1
  exact ⟨e1, by omega, by omega⟩
theorem zro6 (xs : Nat → Int32) (r : List Int) (hr : ∀ i, i < 7 → r[i]? = (zr7 xs)[i]?) : zRo (zE1 6 xs) r zst6 := by
  have z0 : r[0]? = some 0 := hr 0 (by decide)
  intro p t n base es h
  unfold zst6 at h
  cases c0 : Nat.beq p 1000 with
  | true =>
    rw [c0] at h
    cases h
    obtain rfl := zbe.mp c0
    refine ⟨Nat.le_refl _, fun j => .int (xs j), rfl, fun j hj => ?_⟩
    have key : ∀ (i : Nat), i < 6 → zvm r (.int (xs i)) (1, i + 1, 0) := fun i hi => by
      refine ⟨xs i, rfl, zd_some.mpr ⟨(xs i).toInt, ?_, by dsimp only; omega⟩⟩
      rw [hr (i + 1) (by omega)]
      match i, hi with
      | 0, _ => rfl
      | 1, _ => rfl
      | 2, _ => rfl
      | 3, _ => rfl
      | 4, _ => rfl
      | 5, _ => rfl
    have pl : ∀ (i : Nat), zd r (1, 0, (i : Int)) = some (i : Int) := fun i => zd_some.mpr ⟨0, z0, by dsimp only; omega⟩
    match j, hj with
    | 0, _ => exact ⟨0, pl 0, key 0 (by decide)⟩
    | 1, _ => exact ⟨0, pl 0, 1, pl 1, key 1 (by decide)⟩
    | 2, _ => exact ⟨0, pl 0, 1, pl 1, 2, pl 2, key 2 (by decide)⟩
    | 3, _ => exact ⟨0, pl 0, 1, pl 1, 2, pl 2, 3, pl 3, key 3 (by decide)⟩
    | 4, _ => exact ⟨0, pl 0, 1, pl 1, 2, pl 2, 3, pl 3, 4, pl 4, key 4 (by decide)⟩
    | 5, _ => exact ⟨0, pl 0, 1, pl 1, 2, pl 2, 3, pl 3, 4, pl 4, 5, pl 5, key 5 (by decide)⟩
  | false =>
    rw [c0] at h
    simp only [cond_false] at h
    cases c1 : Nat.beq p 1001 with
    | true =>
      rw [c1] at h
      cases h
      obtain rfl := zbe.mp c1
      refine ⟨by decide, _, rfl, fun j hj => ?_⟩
      match j, hj with
      | 0, _ => exact ⟨1, 1, 1, rfl, 1, rfl, by decide, by decide⟩
      | 1, _ => exact ⟨1, 1, 1, rfl, 1, rfl, by decide, by decide⟩
      | 2, _ => exact ⟨1, 1, 1, rfl, 1, rfl, by decide, by decide⟩
      | 3, _ => exact ⟨1, 0, 0, rfl, 0, rfl, by decide, by decide⟩
      | 4, _ => exact ⟨1, 0, 0, rfl, 0, rfl, by decide, by decide⟩
      | 5, _ => exact ⟨1, 0, 0, rfl, 0, rfl, by decide, by decide⟩
      | 6, _ => exact ⟨1, 0, 0, rfl, 0, rfl, by decide, by decide⟩
    | false =>
      rw [c1] at h
      simp only [cond_false] at h
      cases c2 : Nat.beq p 1002 with
      | true =>
        rw [c2] at h
        cases h
        obtain rfl := zbe.mp c2
        refine ⟨by decide, _, rfl, fun j hj => ?_⟩
        match j, hj with
        | 0, _ => exact ⟨1, 99, 99, rfl, 99, rfl, by decide, by decide⟩
        | 1, _ => exact ⟨1, 99, 99, rfl, 99, rfl, by decide, by decide⟩
        | 2, _ => exact ⟨1, 99, 99, rfl, 99, rfl, by decide, by decide⟩
        | 3, _ => exact ⟨1, 8, 8, rfl, 8, rfl, by decide, by decide⟩
        | 4, _ => exact ⟨1, 64, 64, rfl, 64, rfl, by decide, by decide⟩
        | 5, _ => exact ⟨1, 99, 99, rfl, 99, rfl, by decide, by decide⟩
        | 6, _ => exact ⟨1, 9999, 9999, rfl, 9999, rfl, by decide, by decide⟩
      | false =>
        rw [c2] at h
        simp only [cond_false] at h
        cases c3 : Nat.beq p 1003 with
        | true =>
          rw [c3] at h
          cases h
          obtain rfl := zbe.mp c3
          refine ⟨by decide, _, rfl, fun j hj => ?_⟩
          match j, hj with
          | 0, _ => exact ⟨3, 23580851, 23580851, rfl, 23580851, rfl, by decide, by decide⟩
          | 1, _ => exact ⟨3, 21174436004, 21174436004, rfl, 21174436004, rfl, by decide, by decide⟩
          | 2, _ => exact ⟨3, 522327635, 522327635, rfl, 522327635, rfl, by decide, by decide⟩
          | 3, _ => exact ⟨3, 463922, 463922, rfl, 463922, rfl, by decide, by decide⟩
          | 4, _ => exact ⟨3, 6194, 6194, rfl, 6194, rfl, by decide, by decide⟩
          | 5, _ => exact ⟨3, 12891444, 12891444, rfl, 12891444, rfl, by decide, by decide⟩
          | 6, _ => exact ⟨3, 525541, 525541, rfl, 525541, rfl, by decide, by decide⟩
          | 7, _ => exact ⟨3, 272019, 272019, rfl, 272019, rfl, by decide, by decide⟩
          | 8, _ => exact ⟨3, 446287027, 446287027, rfl, 446287027, rfl, by decide, by decide⟩
          | 9, _ => exact ⟨3, 17171758, 17171758, rfl, 17171758, rfl, by decide, by decide⟩
        | false => rw [c3] at h; cases h
theorem zkc_ok {lo hi : Int} {b : zB} (h : zkc lo hi b = true) {xs : Nat → Int32} {v : Int32} (h1 : lo ≤ v.toInt) (h2 : v.toInt ≤ hi) (hb : ∀ e ∈ b, ∃ u, (zr8 xs v)[e.1]? = some u ∧ e.2.1 ≤ u ∧ u ≤ e.2.2) : zKin xs v := by
  intro ls st mem nc ns hl hs hm hnc hns
  unfold zkc at h
  split at h
  · rename_i L e
    unfold zE0 at e
    rw [yex_env (c' := zro0 6 xs), yex_eq] at e
    refine zex_ok (E := zE1 6 xs) (zcon4_ok rfl rfl rfl) (fun mi M hM => zmt_sr rfl mi M hM) _ _ _ _ _ _ _ _ _ _ _ _ _ e rfl ⟨[], rfl⟩ (zr8 xs v) ls st mem nc ns zP9 (zro6 xs _ (fun i hi => ?_)) ⟨rfl, rfl, ?_, fun e he => (by cases he), fun e he => (by cases he)⟩ hl hs hm hnc hns (fun o ho r' res hx hu => zgood_ok (r := zr8 xs v) h ho hu)
    · match i, hi with
      | 0, _ => rfl
      | 1, _ => rfl
      | 2, _ => rfl
      | 3, _ => rfl
      | 4, _ => rfl
      | 5, _ => rfl
      | 6, _ => rfl
    · intro e he
      rcases List.mem_cons.mp he with rfl | he
      · exact ⟨v.toInt, rfl, h1, h2⟩
      · rcases List.mem_append.mp he with he | he
        · exact hb e he
        · simp only [zb0, List.mem_cons, List.not_mem_nil, or_false] at he
          rcases he with rfl | rfl | rfl | rfl | rfl | rfl <;> exact ⟨_, rfl, (zI32 _).1, (zI32 _).2⟩
  · cases h
