/-! locals, pushes, computing: one step of the checker -/
abbrev zL : Type := List (Nat × zV)
def zld : zL → Nat → Option zV
  | [], _ => none
  | q :: l, i => bif Nat.beq q.1 i then some q.2 else zld l i
def zrl : zL → Nat → zL
  | [], _ => []
  | q :: l, i => bif Nat.beq q.1 i then zrl l i else q :: zrl l i
/-- surely of one word -/
def zc1 (a : zV) : Bool := Nat.beq a.1 1 || Nat.beq a.1 2
def zrp (ls : zL) (i : Nat) : zL := match i with
  | 0 => ls
  | k + 1 => match zld ls k with
    | some b => bif zc1 b then ls else zrl ls k
    | none => ls
def zs1 (ls : zL) (i : Nat) (a : zV) : zL := (i, a) :: zrl (zrp ls i) i
def zs2 (ls : zL) (i : Nat) (a : zV) : zL := (i, a) :: zrl (zrl (zrp ls i) i) (Nat.succ i)
theorem zrl_ld {i j : Nat} : ∀ {ls : zL}, zld (zrl ls i) j = if j = i then none else zld ls j
  | [] => by simp [zrl, zld]
  | q :: l => by
    unfold zrl
    cases c : Nat.beq q.1 i with
    | true =>
      have e := zbe.mp c
      simp only [cond_true]
      rw [zrl_ld]
      by_cases h : j = i
      · rw [if_pos h, if_pos h]
      · rw [if_neg h, if_neg h]
        show zld l j = zld (q :: l) j
        unfold zld
        have : Nat.beq q.1 j = false := by rw [← Bool.not_eq_true, zbe]; omega
        rw [this]
        cases l <;> rfl
    | false =>
      have e : q.1 ≠ i := fun h => by rw [zbe.mpr h] at c; cases c
      simp only [cond_false]
      show zld (q :: zrl l i) j = _
      unfold zld
      cases c2 : Nat.beq q.1 j with
      | true =>
        have e2 := zbe.mp c2
        rw [if_neg (by omega)]
        rfl
      | false =>
        simp only [cond_false]
        rw [zrl_ld]
theorem zrp_ld {ls : zL} {i j : Nat} {b : zV} (h : zld (zrp ls i) j = some b) : zld ls j = some b ∧ (j + 1 = i → zc1 b = true) := by
  unfold zrp at h
  split at h
  · exact ⟨h, fun e => by omega⟩
  · rename_i k
    split at h
    · rename_i c hc
      cases c1 : zc1 c with
      | true =>
        rw [c1] at h
        refine ⟨h, fun e => ?_⟩
        have : j = k := by omega
        subst this
        simp only [cond_true] at h
        rw [hc] at h
        cases h
        exact c1
      | false =>
        rw [c1] at h
        simp only [cond_false] at h
        rw [zrl_ld] at h
        by_cases e : j = k
        · rw [if_pos e] at h; cases h
        · rw [if_neg e] at h
          exact ⟨h, fun e' => absurd (by omega) e⟩
    · rename_i hc
      refine ⟨h, fun e => ?_⟩
      have : j = k := by omega
      subst this
      rw [hc] at h
      cases h
def zls (r : List Int) (ls : mLs) (as : zL) : Prop := ∀ i a, zld as i = some a → ∃ v, mld ls i = some v ∧ zvm r v a
theorem zls.ex {r r' : List Int} (h : zX r r') {ls : mLs} {as : zL} (hl : zls r ls as) : zls r' ls as := fun i a e => by
  obtain ⟨v, e1, e2⟩ := hl i a e
  exact ⟨v, e1, e2.ex h⟩
theorem mld_flt {P : Nat × Value → Bool} {j : Nat} {v : Value} (hP : P (j, v) = true) : ∀ {ls : mLs}, mld ls j = some v → mld (ls.filter P) j = some v
  | [], h => by cases h
  | q :: l, h => by
    unfold mld at h
    by_cases e : q.1 = j
    · rw [if_pos e] at h
      cases h
      have : q = (j, q.2) := by rw [← e]
      rw [this] at hP ⊢
      rw [List.filter_cons_of_pos (by exact hP)]
      simp only [mld, if_true]
    · rw [if_neg e] at h
      by_cases hq : P q = true
      · rw [List.filter_cons_of_pos hq]
        unfold mld
        rw [if_neg e]
        exact mld_flt hP h
      · rw [List.filter_cons_of_neg hq]
        exact mld_flt hP h
theorem zvm_c1 {r : List Int} {v : Value} {a : zV} (h : zvm r v a) (hc : zc1 a = true) : v.category = 1 := by
  simp only [zc1, Bool.or_eq_true, zbe] at hc
  unfold zvm at h
  rcases hc with e | e <;> rw [e] at h
  · obtain ⟨x, rfl, -⟩ := h; rfl
  · rw [h]; rfl
theorem zls.s1 {r : List Int} {ls : mLs} {as : zL} (hl : zls r ls as) {i : Nat} {v : Value} {a : zV} (hv : zvm r v a) : zls r (mst1 ls i v) (zs1 as i a) := by
  intro j b hb
  unfold zs1 zld at hb
  cases c : Nat.beq i j with
  | true =>
    have e : i = j := zbe.mp c
    rw [c] at hb
    cases hb
    refine ⟨v, ?_, hv⟩
    unfold mst1 mld
    rw [if_pos e]
  | false =>
    have e : i ≠ j := fun h => by rw [zbe.mpr h] at c; cases c
    rw [c] at hb
    simp only [cond_false] at hb
    rw [zrl_ld, if_neg (fun h => e h.symm)] at hb
    obtain ⟨h1, h2⟩ := zrp_ld hb
    obtain ⟨w, w1, w2⟩ := hl j b h1
    refine ⟨w, ?_, w2⟩
    unfold mst1
    unfold mld
    rw [if_neg e]
    refine mld_flt ?_ w1
    have n1 : (j == i) = false := by simp; omega
    simp only [n1, Bool.not_false, Bool.true_and]
    by_cases h3 : j + 1 = i
    · have := zvm_c1 w2 (h2 h3)
      simp [this]
    · have n2 : (j + 1 == i) = false := by simp; omega
      simp only [n2, Bool.false_and, Bool.not_false]
theorem zls.s2 {r : List Int} {ls : mLs} {as : zL} (hl : zls r ls as) {i : Nat} {v : Value} {a : zV} (hv : zvm r v a) : zls r (mst2 ls i v) (zs2 as i a) := by
  intro j b hb
  unfold zs2 zld at hb
  cases c : Nat.beq i j with
  | true =>
    have e : i = j := zbe.mp c
    rw [c] at hb
    cases hb
    refine ⟨v, ?_, hv⟩
    unfold mst2 mld
    rw [if_pos e]
  | false =>
    have e : i ≠ j := fun h => by rw [zbe.mpr h] at c; cases c
    rw [c] at hb
    simp only [cond_false] at hb
    rw [zrl_ld] at hb
    by_cases e2 : j = Nat.succ i
    · rw [if_pos e2] at hb; cases hb
    · rw [if_neg e2, zrl_ld, if_neg (fun h => e h.symm)] at hb
      obtain ⟨h1, h2⟩ := zrp_ld hb
      obtain ⟨w, w1, w2⟩ := hl j b h1
      refine ⟨w, ?_, w2⟩
      unfold mst2
      unfold mld
      rw [if_neg e]
      refine mld_flt ?_ w1
      have n1 : (j == i) = false := by simp; omega
      have n3 : (j == i + 1) = false := by simp; omega
      simp only [n1, n3, Bool.not_false, Bool.true_and]
      by_cases h3 : j + 1 = i
      · have := zvm_c1 w2 (h2 h3)
        simp [this]
      · have n2 : (j + 1 == i) = false := by simp; omega
        simp only [n2, Bool.false_and, Bool.not_false]
/-- the kind of a told value -/
def zkd (k : Nat) (a : zV) : Bool := match k with
  | 0 => Nat.beq a.1 1
  | 1 => Nat.ble 3 a.1
  | 2 => Nat.beq a.1 2
  | _ => false
theorem zkd_ok {r : List Int} {k : Nat} {v : Value} {a : zV} (h : zvm r v a) (hk : zkd k a = true) : mkind k v = true := by
  unfold zkd at hk
  split at hk
  · rw [zbe] at hk
    unfold zvm at h
    rw [hk] at h
    obtain ⟨x, rfl, -⟩ := h
    rfl
  · rw [Nat.ble_eq] at hk
    unfold zvm at h
    split at h
    · omega
    · omega
    · omega
    · obtain ⟨x, rfl, -⟩ := h; rfl
    · obtain ⟨x, rfl⟩ := h; rfl
  · rw [zbe] at hk
    unfold zvm at h
    rw [hk] at h
    rw [h]; rfl
  · cases hk
abbrev zO : Type := Nat × zL × List zV × zF × zW
def zro (r : List Int) (pc : Nat) (ls : mLs) (st : List Value) (mem : mMem) (o : zO) : Prop :=
  o.1 = pc ∧ zls r ls o.2.1 ∧ zlm r st o.2.2.1 ∧ zFok r o.2.2.2.1 ∧ zmm r mem o.2.2.2.2
/-- one of these is so behind a plain step -/
def zSt (E : mEnv) (r : List Int) (nL : Nat) (q : mIns) (pc : Nat) (ls : mLs) (st : List Value) (mem : mMem) (L : List zO) : Prop :=
  ∃ pc' ls' st' mem' r', mplain E nL q pc ls st mem = some (pc', ls', st', mem') ∧ zX r r' ∧ ∃ o ∈ L, zro r' pc' ls' st' mem' o
theorem zlm_cons {r : List Int} {st : List Value} {a : zV} {as : List zV} (h : zlm r st (a :: as)) : ∃ v vs, st = v :: vs ∧ zvm r v a ∧ zlm r vs as := by
  cases st with
  | nil => exact h.elim
  | cons v vs => exact ⟨v, vs, rfl, h.1, h.2⟩
theorem zvm_i {r : List Int} {v : Value} {a : zV} (h : zvm r v a) (e : Nat.beq a.1 1 = true) : ∃ x : Int32, v = .int x ∧ zd r a = some x.toInt := by
  unfold zvm at h
  rw [zbe.mp e] at h
  exact h
theorem zvm_r {r : List Int} {v : Value} {a : zV} (h : zvm r v a) (e : Nat.beq a.1 2 = true) : v = .ref a.2.1 := by
  unfold zvm at h
  rw [zbe.mp e] at h
  exact h
theorem zvm_l {r : List Int} {v : Value} {a : zV} (h : zvm r v a) (e : Nat.ble 3 a.1 = true) : ∃ x : Int64, v = .long x := by
  rw [Nat.ble_eq] at e
  unfold zvm at h
  split at h
  · omega
  · omega
  · omega
  · obtain ⟨x, rfl, -⟩ := h; exact ⟨x, rfl⟩
  · exact h
theorem zvm_l3 {r : List Int} {v : Value} {a : zV} (h : zvm r v a) (e : Nat.beq a.1 3 = true) : ∃ x : Int64, v = .long x ∧ zd r a = some x.toInt := by
  unfold zvm at h
  rw [zbe.mp e] at h
  exact h
theorem zvm_int {r : List Int} {x : Int32} {a : zV} (e : a.1 = 1) (h : zd r a = some x.toInt) : zvm r (.int x) a := by
  unfold zvm
  rw [e]
  exact ⟨x, rfl, h⟩
theorem zvm_lng {r : List Int} {x : Int64} {a : zV} (e : a.1 = 3) (h : zd r a = some x.toInt) : zvm r (.long x) a := by
  unfold zvm
  rw [e]
  exact ⟨x, rfl, h⟩
/-- a constant as a told value -/
def zcv (v : Value) : Option zV := match v with
  | .int x => zfi x.toInt fun c => some (1, 0, c)
  | .long x => zfi x.toInt fun c => some (3, 0, c)
  | .ref p => some (2, p, 0)
  | _ => none
theorem zcv_ok {r : List Int} {F : zF} (hF : zFok r F) {v : Value} {a : zV} (h : zcv v = some a) : zvm r v a := by
  unfold zcv at h
  split at h
  · rw [zfi_eq] at h; cases h
    exact zvm_int rfl (zd_some.mpr ⟨0, hF.2.1, by dsimp only; omega⟩)
  · rw [zfi_eq] at h; cases h
    exact zvm_lng rfl (zd_some.mpr ⟨0, hF.2.1, by dsimp only; omega⟩)
  · cases h; rfl
  · cases h
/-- computes with one number -/
def zun (F : zF) (i : Instr) (a : zV) : Option (zV × zF) := match zlh F a with
  | some (l, h) =>
    bif zeq l h then (match mun i (Int32.ofInt l) with
      | some z => zfi z.toInt fun c => some ((1, 0, c), F)
      | none => none)
    else (match i with
    | .i2b => bif zle (.negSucc 127) l && zle h (.ofNat 127) then some (a, F) else some ((1, F.1, 0), zfr F (.negSucc 127) (.ofNat 127))
    | .ineg => some ((1, F.1, 0), zfr F zI0 zI1)
    | .i2c => some ((1, F.1, 0), zfr F zI0 zI1)
    | _ => none)
  | none => none
theorem zi2b (x : Int32) : x.toInt8.toInt32.toInt = x.toInt.bmod 256 := by
  rw [Int8.toInt_toInt32, Int32.toInt_toInt8]
theorem zun_ok {r : List Int} {F F' : zF} {i : Instr} {a c : zV} {x : Int32} (hF : zFok r F) (h1 : a.1 = 1) (hx : zd r a = some x.toInt) (h : zun F i a = some (c, F')) :
    ∃ z r', mun i x = some z ∧ zX r r' ∧ zFok r' F' ∧ zd r' c = some z.toInt ∧ c.1 = 1 := by
  unfold zun at h
  split at h
  · rename_i l hh e
    obtain ⟨b1, b2⟩ := zlh_ok hF e hx
    cases c0 : zeq l hh with
    | true =>
      have e0 := zeq_iff.mp c0
      rw [c0] at h
      simp only [cond_true] at h
      have ex : Int32.ofInt l = x := by
        have : l = x.toInt := by omega
        rw [this, Int32.ofInt_toInt]
      rw [ex] at h
      cases hz : mun i x with
      | none => rw [hz] at h; cases h
      | some z =>
        rw [hz] at h
        simp only [zfi_eq] at h
        cases h
        exact ⟨z, r, rfl, zX.rf, hF, zd_some.mpr ⟨0, hF.2.1, by dsimp only; omega⟩, rfl⟩
    | false =>
      rw [c0] at h
      simp only [cond_false] at h
      split at h
      · cases c1 : (zle (.negSucc 127) l && zle hh (.ofNat 127)) with
        | true =>
          rw [c1] at h
          cases h
          simp only [Bool.and_eq_true, zle_iff] at c1
          refine ⟨_, r, rfl, zX.rf, hF, ?_, h1⟩
          rw [zi2b, hx]
          congr 1
          have k1 : (Int.negSucc 127 : Int) = -128 := rfl
          have k2 : (Int.ofNat 127 : Int) = 127 := rfl
          rw [k1, k2] at c1
          exact (Int.bmod_eq_of_le (by omega) (by omega)).symm
        | false =>
          rw [c1] at h
          cases h
          have k1 : (Int.negSucc 127 : Int) = -128 := rfl
          have k2 : (Int.ofNat 127 : Int) = 127 := rfl
          have m1 : Int.negSucc 127 ≤ x.toInt8.toInt32.toInt := by rw [zi2b, k1]; exact Int.le_bmod (by omega)
          have m2 : x.toInt8.toInt32.toInt ≤ Int.ofNat 127 := by
            rw [zi2b, k2]
            have := Int.bmod_lt (x := x.toInt) (m := 256) (by omega)
            omega
          obtain ⟨g1, g2, g3⟩ := zfr_ok hF m1 m2
          exact ⟨_, _, rfl, g3, g1, zd_some.mpr ⟨_, g2, by simp⟩, rfl⟩
      · cases h
        obtain ⟨m1, m2⟩ := zI32 (-x)
        obtain ⟨g1, g2, g3⟩ := zfr_ok hF m1 m2
        exact ⟨_, _, rfl, g3, g1, zd_some.mpr ⟨_, g2, by simp⟩, rfl⟩
      · cases h
        obtain ⟨m1, m2⟩ := zI32 ((x.toUInt32 % 65536).toInt32)
        obtain ⟨g1, g2, g3⟩ := zfr_ok hF m1 m2
        exact ⟨_, _, rfl, g3, g1, zd_some.mpr ⟨_, g2, by simp⟩, rfl⟩
      · cases h
  · cases h
