/-! reading and writing an array's places -/
def zhu (F : zF) : zN → (Nat × Int × Int) → Option (Nat × Int × Int)
  | [], p => some p
  | e :: es, p => bif Nat.beq e.2.1 p.1 && (Nat.beq p.1 1 || Nat.beq p.1 3) then (match zlh F e.2 with
      | some (l, h) => zhu F es (p.1, zmin l p.2.1, zmax h p.2.2)
      | none => none) else none
theorem zhu_wk {F : zF} {v : Value} : ∀ {es : zN} {p q : Nat × Int × Int}, zhu F es p = some q → zrm v p.1 p.2.1 p.2.2 → zrm v q.1 q.2.1 q.2.2
  | [], p, q, h, hv => by cases h; exact hv
  | e :: es, p, q, h, hv => by
    unfold zhu at h
    cases c : (Nat.beq e.2.1 p.1 && (Nat.beq p.1 1 || Nat.beq p.1 3)) with
    | false => rw [c] at h; cases h
    | true =>
      rw [c] at h
      simp only [cond_true] at h
      cases hl : zlh F e.2 with
      | none => rw [hl] at h; cases h
      | some lh =>
        obtain ⟨l, hh⟩ := lh
        rw [hl] at h
        exact zhu_wk h (hv.wk (zmin_l _ _).2 (zmax_l _ _).2)
theorem zvm_rm {r : List Int} {F : zF} {v : Value} {a : zV} {l h : Int} (hF : zFok r F) (hv : zvm r v a) (hl : zlh F a = some (l, h)) (ht : a.1 = 1 ∨ a.1 = 3) : zrm v a.1 l h := by
  unfold zvm at hv
  rcases ht with e | e <;> rw [e] at hv ⊢
  · obtain ⟨x, rfl, hx⟩ := hv
    obtain ⟨b1, b2⟩ := zlh_ok hF hl hx
    exact ⟨x, rfl, b1, b2⟩
  · obtain ⟨x, rfl, hx⟩ := hv
    obtain ⟨b1, b2⟩ := zlh_ok hF hl hx
    exact ⟨x, rfl, b1, b2⟩
theorem zhu_ok {r : List Int} {F : zF} {base : List zR} {j : Nat} {v : Value} (hF : zFok r F) : ∀ {es : zN} {p q : Nat × Int × Int}, zak r base es j v →
    (∀ t l h, zba base j = some (t, l, h) → zrm v t l h → zrm v p.1 p.2.1 p.2.2) → zhu F es p = some q → zrm v q.1 q.2.1 q.2.2
  | [], p, q, hv, hb, h => by
    cases h
    obtain ⟨t, l, hh, e, hv⟩ := hv
    exact hb t l hh e hv
  | e :: es, p, q, hv, hb, h => by
    unfold zhu at h
    cases c : (Nat.beq e.2.1 p.1 && (Nat.beq p.1 1 || Nat.beq p.1 3)) with
    | false => rw [c] at h; cases h
    | true =>
      rw [c] at h
      simp only [cond_true] at h
      simp only [Bool.and_eq_true, Bool.or_eq_true, zbe] at c
      cases hl : zlh F e.2 with
      | none => rw [hl] at h; cases h
      | some lh =>
        obtain ⟨l, hh⟩ := lh
        rw [hl] at h
        obtain ⟨i, h1, h2⟩ := hv
        by_cases hj : j = i
        · rw [if_pos hj] at h2
          have g := zvm_rm hF h2 hl (by rw [c.1]; exact c.2)
          rw [c.1] at g
          exact zhu_wk h (g.wk (zmin_l _ _).1 (zmax_l _ _).1)
        · rw [if_neg hj] at h2
          exact zhu_ok (p := (p.1, zmin l p.2.1, zmax hh p.2.2)) hF h2 (fun t l h e hv => (hb t l h e hv).wk (zmin_l _ _).2 (zmax_l _ _).2) h
/-- what a place in these ranges is called -/
def zpk (F : zF) (i : zV) (es : zN) (p : Nat × Int × Int) : Option (zV × zF × zN) := match p.1 with
  | 0 => none
  | 1 => bif zeq p.2.1 p.2.2 then some ((1, 0, p.2.1), F, es) else some ((1, F.1, 0), zfr F p.2.1 p.2.2, (i, (1, F.1, 0)) :: es)
  | 3 => bif zeq p.2.1 p.2.2 then some ((3, 0, p.2.1), F, es) else some ((3, F.1, 0), zfr F p.2.1 p.2.2, (i, (3, F.1, 0)) :: es)
  | _ => some ((4, 0, 0), F, es)
/-- behind a read: all that was, and the value -/
def zrdk (r : List Int) (base : List zR) (es : zN) (j : Nat) (v : Value) (a : zV) (F' : zF) (es' : zN) : Prop :=
  ∃ r', zX r r' ∧ zFok r' F' ∧ zvm r' v a ∧ a.1 ≠ 0 ∧ ∀ k w, zak r base es k w → (k = j → w = v) → zak r' base es' k w
theorem zpk_ok {r : List Int} {F F' : zF} {i a : zV} {j : Nat} {base : List zR} {v : Value} {es es' : zN} {p : Nat × Int × Int} (hF : zFok r F) (hi : zd r i = some (j : Int)) (hv : zrm v p.1 p.2.1 p.2.2)
    (h : zpk F i es p = some (a, F', es')) : zrdk r base es j v a F' es' := by
  obtain ⟨t, l, hh⟩ := p
  unfold zpk at h
  unfold zrm at hv
  dsimp only at h hv
  split at h
  · cases h
  · obtain ⟨x, rfl, h1, h2⟩ := hv
    cases c : zeq l hh with
    | true =>
      rw [c] at h
      cases h
      have := zeq_iff.mp c
      exact ⟨r, zX.rf, hF, ⟨x, rfl, zd_some.mpr ⟨0, hF.2.1, by dsimp only; omega⟩⟩, by dsimp only; decide, fun k w hk _ => hk⟩
    | false =>
      rw [c] at h
      cases h
      obtain ⟨g1, g2, g3⟩ := zfr_ok hF h1 h2
      have hz : zvm (r ++ [x.toInt]) (.int x) (1, F.1, 0) := ⟨x, rfl, zd_some.mpr ⟨_, g2, by simp⟩⟩
      refine ⟨_, g3, g1, hz, by dsimp only; decide, fun k w hk hw => ?_⟩
      refine ⟨j, g3.den hi, ?_⟩
      by_cases hkj : k = j
      · rw [if_pos hkj, hw hkj]; exact hz
      · rw [if_neg hkj]; exact hk.ex g3
  · obtain ⟨x, rfl, h1, h2⟩ := hv
    cases c : zeq l hh with
    | true =>
      rw [c] at h
      cases h
      have := zeq_iff.mp c
      exact ⟨r, zX.rf, hF, ⟨x, rfl, zd_some.mpr ⟨0, hF.2.1, by dsimp only; omega⟩⟩, by dsimp only; decide, fun k w hk _ => hk⟩
    | false =>
      rw [c] at h
      cases h
      obtain ⟨g1, g2, g3⟩ := zfr_ok hF h1 h2
      have hz : zvm (r ++ [x.toInt]) (.long x) (3, F.1, 0) := ⟨x, rfl, zd_some.mpr ⟨_, g2, by simp⟩⟩
      refine ⟨_, g3, g1, hz, by dsimp only; decide, fun k w hk hw => ?_⟩
      refine ⟨j, g3.den hi, ?_⟩
      by_cases hkj : k = j
      · rw [if_pos hkj, hw hkj]; exact hz
      · rw [if_neg hkj]; exact hk.ex g3
  · rename_i n0 n1 n3
    cases h
    split at hv
    · exact absurd rfl n0
    · exact absurd rfl n1
    · exact absurd rfl n3
    · exact ⟨r, zX.rf, hF, hv, by decide, fun k w hk _ => hk⟩
/-- reads a place -/
def zrd (F : zF) (base : List zR) (es : zN) (i : zV) : Option (zV × zF × zN) := match zsc F i es with
  | (0, a) => bif Nat.beq a.1 0 then none else some (a, F, es)
  | (1, _) => (match zlh F i with
    | some (l, h) => (match zbh base l h with
      | some p => zpk F i es p
      | none => none)
    | none => none)
  | _ => (match zlh F i with
    | some (l, h) => (match zbh base l h with
      | some p => (match zhu F es p with
        | some q => zpk F i es q
        | none => none)
      | none => none)
    | none => none)
theorem zrd_ok {r : List Int} {F F' : zF} {i a : zV} {j : Nat} {base : List zR} {v : Value} {es es' : zN} (hF : zFok r F) (hi : zd r i = some (j : Int)) (hv : zak r base es j v)
    (h : zrd F base es i = some (a, F', es')) : zrdk r base es j v a F' es' := by
  obtain ⟨g0, g1⟩ := zsc_ok hF hi hv
  unfold zrd at h
  split at h
  · rename_i a0 e
    rw [e] at g0
    cases c : Nat.beq a0.1 0 with
    | true => rw [c] at h; cases h
    | false =>
      rw [c] at h
      cases h
      exact ⟨r, zX.rf, hF, g0 rfl, (fun e0 => by rw [zbe.mpr e0] at c; cases c), fun k w hk _ => hk⟩
  · rename_i a0 e
    rw [e] at g1
    split at h
    · rename_i l hh e2
      obtain ⟨b1, b2⟩ := zlh_ok hF e2 hi
      split at h
      · rename_i p e3
        obtain ⟨t, l', h', e4, hv'⟩ := g1 rfl
        exact zpk_ok hF hi (zbh_ok b1 b2 e3 e4 hv') h
      · cases h
    · cases h
  · split at h
    · rename_i l hh e2
      obtain ⟨b1, b2⟩ := zlh_ok hF e2 hi
      split at h
      · rename_i p e3
        split at h
        · rename_i q e4
          exact zpk_ok hF hi (zhu_ok hF hv (fun t l h e hv => zbh_ok b1 b2 e3 e hv) e4) h
        · cases h
      · cases h
    · cases h
/-- what is surely this place goes -/
def zrw (F : zF) (i : zV) : zN → zN
  | [] => []
  | e :: es => match zal F i e.1 with
    | 0 => zrw F i es
    | _ => e :: zrw F i es
theorem zrw_ok {r : List Int} {F : zF} {i : zV} {j k : Nat} {base : List zR} {w : Value} (hF : zFok r F) (hi : zd r i = some (j : Int)) (hkj : k ≠ j) : ∀ {es : zN}, zak r base es k w → zak r base (zrw F i es) k w
  | [], h => h
  | e :: es, h => by
    obtain ⟨m, h1, h2⟩ := h
    obtain ⟨g0, -⟩ := zal_ok hF hi h1
    unfold zrw
    split
    · rename_i c
      have := g0 c
      rw [if_neg (by omega)] at h2
      exact zrw_ok hF hi hkj h2
    · refine ⟨m, h1, ?_⟩
      by_cases hkm : k = m
      · rw [if_pos hkm] at h2 ⊢; exact h2
      · rw [if_neg hkm] at h2 ⊢; exact zrw_ok hF hi hkj h2
/-- within an array -/
def zix (F : zF) (n : Nat) (i : zV) : Bool := match zlh F i with
  | some (l, h) => zle 0 l && zle (h + 1) (.ofNat n)
  | none => false
theorem zix_ok {r : List Int} {F : zF} {n : Nat} {i : zV} {x : Int32} (hF : zFok r F) (hx : zd r i = some x.toInt) (h : zix F n i = true) :
    mIn x n = true ∧ zd r i = some (x.toNatClampNeg : Int) ∧ x.toNatClampNeg < n := by
  unfold zix at h
  split at h
  · rename_i l hh e
    obtain ⟨b1, b2⟩ := zlh_ok hF e hx
    simp only [Bool.and_eq_true, zle_iff, Int.ofNat_eq_natCast] at h
    have e0 : (x.toNatClampNeg : Int) = x.toInt := by
      have : x.toNatClampNeg = x.toInt.toNat := rfl
      rw [this]; omega
    have hlt : x.toNatClampNeg < n := by omega
    refine ⟨?_, by rw [e0]; exact hx, hlt⟩
    unfold mIn
    have n1 : ¬ x < 0 := by
      rw [Int32.lt_iff_toInt_lt]
      have : (0 : Int32).toInt = 0 := rfl
      rw [this]; omega
    have n2 : ¬ n ≤ x.toNatClampNeg := by omega
    simp only [n1, n2, decide_false, Bool.or_self, Bool.not_false]
  · cases h
