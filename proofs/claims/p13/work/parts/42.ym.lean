/-! TYPED MEMORY: each place holds what its cell's type says, always; beside it what is known of single places, told by what was read and written since (the latest first). -/
abbrev yG : Type := Nat × Nat × Nat × List (Int × Int)
/-- ranges; ranges by residues (in one stretch of places) -/
abbrev yK : Type := List zR × List yG
/-- 0 an object, 1 an array; class, or type of an array; how many places; the number of its type -/
abbrev yC : Type := Nat × Nat × Nat × Nat
def ykk : List (Nat × yK) → Nat → yK
  | [], _ => ([], [])
  | q :: l, i => bif Nat.beq q.1 i then q.2 else ykk l i
def yv1 (c : mCell) (j : Nat) : Option Value := match c with
  | .inl (_, n, f) => if j < n then some (f j) else none
  | .inr (_, fs) => fs[j]?
def yva (mem : mMem) (p j : Nat) : Option Value := match mem[p]? with
  | some c => yv1 c j
  | none => none
def yvx (E : mEnv) (mem : mMem) (p j : Nat) : Option Value := if p < 1000 then yva mem p j else match E.2.2.1 p with
  | some (_, n, f) => if j < n then some (f j) else none
  | none => none
def yrm (v : Value) (t : Nat) (l h : Int) : Prop := match t with
  | 0 => True
  | 1 => ∃ x : Int32, v = .int x ∧ l ≤ x.toInt ∧ x.toInt ≤ h
  | 2 => ∃ a : Nat, v = .ref a ∧ l ≤ (a : Int) ∧ (a : Int) ≤ h
  | _ => ∃ x : Int64, v = .long x
def yrs (j : Nat) : List yG → Option (Int × Int)
  | [q] => if q.1 ≤ j ∧ j < q.2.1 then q.2.2.2[(j - q.1) % q.2.2.1]? else none
  | _ => none
/-- what a place of a type may hold -/
def yok (k : yK) (j : Nat) (v : Value) : Prop := (∃ q, zba k.1 j = some q ∧ yrm v q.1 q.2.1 q.2.2) ∧ ∀ p, yrs j k.2 = some p → yrm v 1 p.1 p.2
def ysh (c : yC) (m : mCell) : Prop := match m with
  | .inl (t, n, _) => c.1 = 1 ∧ c.2.1 = t ∧ c.2.2.1 = n
  | .inr (ci, fs) => c.1 = 0 ∧ c.2.1 = ci ∧ c.2.2.1 = fs.length
def yTM (Y : zT yC 7) (K : List (Nat × yK)) (N : Nat) (mem : mMem) : Prop :=
  mem.length = N ∧ N ≤ 128 ∧ ∀ p c, mem[p]? = some c → ysh (ztg 7 Y p) c ∧ ∀ j v, yv1 c j = some v → yok (ykk K (ztg 7 Y p).2.2.2) j v
/-- one place is put anew -/
def ywr (m1 : mMem) (p i : Nat) (v : Value) (m : mMem) : Prop := ∀ q j, yva m q j = if q = p ∧ j = i then some v else yva m1 q j
/-- cell, place, value, 0: read or 1: written -/
abbrev yE : Type := Nat × zV × zV × Nat
def ych (E : mEnv) (r : List Int) (m0 : mMem) : List yE → mMem → Prop
  | [], m => m = m0
  | e :: es, m => ∃ i : Nat, zd r e.2.1 = some (i : Int) ∧ (match e.2.2.2 with
      | 0 => ych E r m0 es m ∧ ∃ v, yvx E m e.1 i = some v ∧ zvm r v e.2.2.1
      | _ => ∃ m1 v, ych E r m0 es m1 ∧ zvm r v e.2.2.1 ∧ e.1 < 1000 ∧ ywr m1 e.1 i v m)
theorem ych.ex {E : mEnv} {r r' : List Int} (h : zX r r') {m0 : mMem} : ∀ {es : List yE} {m : mMem}, ych E r m0 es m → ych E r' m0 es m
  | [], _, hc => hc
  | e :: es, m, hc => by
    obtain ⟨i, h1, h2⟩ := hc
    refine ⟨i, h.den h1, ?_⟩
    split at h2
    · rename_i e0
      obtain ⟨h3, v, h4, h5⟩ := h2
      exact ⟨ych.ex h h3, v, h4, h5.ex h⟩
    · obtain ⟨m1, v, h3, h4, h5⟩ := h2
      exact ⟨m1, v, ych.ex h h3, h4.ex h, h5⟩
theorem ych.fact {E : mEnv} {r : List Int} {m0 m : mMem} {es : List yE} (h : ych E r m0 es m) {p i : Nat} {a b : zV} {v : Value} (hi : zd r a = some (i : Int)) (hv : yvx E m p i = some v) (hb : zvm r v b) : ych E r m0 ((p, a, b, 0) :: es) m :=
  ⟨i, hi, h, v, hv, hb⟩
theorem ych.write {E : mEnv} {r : List Int} {m0 m m' : mMem} {es : List yE} (h : ych E r m0 es m) {p i : Nat} {a b : zV} {v : Value} (hp : p < 1000) (hi : zd r a = some (i : Int)) (hb : zvm r v b) (hw : ywr m p i v m') : ych E r m0 ((p, a, b, 1) :: es) m' :=
  ⟨i, hi, m, v, h, hb, hp, hw⟩
/-- what is known of a place: 0 this value; 1 nothing was written there; 2 who knows -/
def yfi (F : zF) (p : Nat) (i : zV) : List yE → Nat × zV
  | [] => (1, (0, 0, 0))
  | e :: es => bif Nat.beq e.1 p then (match yal F i e.2.1 with
      | 0 => (0, e.2.2.1)
      | 1 => yfi F p i es
      | _ => bif Nat.beq e.2.2.2 0 then yfi F p i es else (2, (0, 0, 0)))
    else yfi F p i es
theorem yvx_wr {E : mEnv} {m1 m : mMem} {p i q j : Nat} {v : Value} (hp : p < 1000) (hw : ywr m1 p i v m) : yvx E m q j = if q = p ∧ j = i then some v else yvx E m1 q j := by
  unfold yvx
  by_cases h : q < 1000
  · rw [if_pos h, if_pos h]; exact hw q j
  · rw [if_neg h, if_neg h, if_neg (fun e => h (by rw [e.1]; exact hp))]
theorem yfi_ok {E : mEnv} {r : List Int} {F : zF} {m0 : mMem} {p j : Nat} {i : zV} (hF : zFok r F) (hi : zd r i = some (j : Int)) : ∀ {es : List yE} {m : mMem} {v : Value} {a : zV},
    ych E r m0 es m → yvx E m p j = some v → yfi F p i es = (0, a) → zvm r v a
  | [], _, _, _, _, _, h => by cases h
  | e :: es, m, v, a, hc, hv, h => by
    obtain ⟨k, h1, h2⟩ := hc
    have ha := yal_ok hF hi h1
    unfold yfi at h
    -- behind this entry
    have go : yfi F p i es = (0, a) → (e.2.2.2 = 0 ∨ ¬ (p = e.1 ∧ j = k)) → zvm r v a := by
      intro h hk
      split at h2
      · exact yfi_ok hF hi h2.1 hv h
      · rename_i n0
        obtain ⟨m1, w, g1, g2, g3, g4⟩ := h2
        rcases hk with hk | hk
        · exact absurd hk n0
        · rw [yvx_wr g3 g4, if_neg hk] at hv
          exact yfi_ok hF hi g1 hv h
    cases c : Nat.beq e.1 p with
    | true =>
      rw [c] at h
      simp only [cond_true] at h
      have c := zbe.mp c
      split at h
      · rename_i e0
        cases h
        have e9 := ha.1 e0
        have ej : j = k := by omega
        subst ej
        split at h2
        · obtain ⟨-, w, g1, g2⟩ := h2
          rw [c, hv] at g1
          cases g1
          exact g2
        · obtain ⟨m1, w, g1, g2, g3, g4⟩ := h2
          rw [yvx_wr g3 g4, if_pos ⟨c.symm, rfl⟩] at hv
          cases hv
          exact g2
      · rename_i e1
        exact go h (Or.inr fun e9 => ha.2 e1 (by omega))
      · cases c2 : Nat.beq e.2.2.2 0 with
        | true => rw [c2] at h; exact go h (Or.inl (zbe.mp c2))
        | false => rw [c2] at h; cases h
    | false =>
      rw [c] at h
      refine go h (Or.inr fun e9 => ?_)
      have : Nat.beq e.1 p = true := zbe.mpr e9.1.symm
      rw [this] at c
      cases c
/-- the range by the residue, where it is known -/
def yri (F : zF) (i : zV) : List yG → Option (Int × Int)
  | [q] => bif yin F i q.1 (q.2.1 - 1) then (match i.2.1 with
      | 0 => q.2.2.2[((i.2.2 - q.1) % q.2.2.1).toNat]?
      | s + 1 => (match yfc F (Nat.succ s) F.2.2.2 with
        | some (_, n) => bif zeq n q.2.2.1 then q.2.2.2[((i.2.2 - q.1) % q.2.2.1).toNat]? else none
        | none => none)) else none
  | _ => none
theorem yri_ok {r : List Int} {F : zF} {i : zV} {j : Nat} {p : Int × Int} (hF : zFok r F) (hi : zd r i = some (j : Int)) : ∀ {l : List yG}, yri F i l = some p → yrs j l = some p
  | [], h => by cases h
  | _ :: _ :: _, h => by cases h
  | [q], h => by
    unfold yri at h
    simp only at h
    cases c : yin F i q.1 (q.2.1 - 1) with
    | false => rw [c] at h; cases h
    | true =>
      rw [c] at h
      simp only [cond_true] at h
      obtain ⟨b1, b2⟩ := yin_ok hF hi c
      have hin : q.1 ≤ j ∧ j < q.2.1 := ⟨by omega, by omega⟩
      unfold yrs
      simp only
      rw [if_pos hin]
      obtain ⟨u, hu, hj⟩ := zd_some.mp hi
      have key : ∀ w : Int, u = w * q.2.2.1 → ((i.2.2 - q.1) % q.2.2.1).toNat = (j - q.1) % q.2.2.1 := by
        intro w hw
        have e : ((j - q.1 : Nat) : Int) = (i.2.2 - q.1) + w * q.2.2.1 := by omega
        have e2 : (((j - q.1) % q.2.2.1 : Nat) : Int) = (i.2.2 - q.1) % q.2.2.1 := by
          rw [Int.natCast_emod, e, Int.add_mul_emod_self_right]
        omega
      split at h
      · rename_i e0
        rw [e0, hF.2.1] at hu
        cases hu
        rw [← key 0 (by simp)]
        exact h
      · rename_i s es
        split at h
        · rename_i x n ef
          cases c2 : zeq n q.2.2.1 with
          | false => rw [c2] at h; cases h
          | true =>
            rw [c2] at h
            have c2 := zeq_iff.mp c2
            obtain ⟨w, w1, w2, w3⟩ := yfc_ok hF hF.2.2.2.2 ef
            rw [es, w2] at hu
            cases hu
            rw [← key w (by rw [c2])]
            exact h
        · cases h
/-- what a place may hold, told of all that it may be -/
def yhl (F : zF) (k : yK) (n : Int) (i : zV) : Option (Nat × Int × Int) := match yri F i k.2 with
  | some p => some (1, p)
  | none => match zlh F i with
    | some (a, b) => zbh k.1 (zmax a 0) (zmin b (n - 1))
    | none => none
theorem yrm.wk {v : Value} {t : Nat} {l h l' h' : Int} (hv : yrm v t l h) (h1 : l' ≤ l) (h2 : h ≤ h') : yrm v t l' h' := by
  unfold yrm at hv ⊢
  split at hv
  · trivial
  · obtain ⟨x, e, i1, i2⟩ := hv; exact ⟨x, e, by omega, by omega⟩
  · obtain ⟨x, e, i1, i2⟩ := hv; exact ⟨x, e, by omega, by omega⟩
  · exact hv
theorem ybh_ok {v : Value} {j : Nat} {a b : Int} (h1 : a ≤ (j : Int)) (h2 : (j : Int) ≤ b) : ∀ {base : List zR} {t t' : Nat} {l h l' h' : Int}, zbh base a b = some (t, l, h) → zba base j = some (t', l', h') → yrm v t' l' h' → yrm v t l h
  | [], _, _, _, _, _, _, hb, _, _ => by cases hb
  | q :: base, t, t', l, h, l', h', hb, hj, hv => by
    unfold zbh at hb
    unfold zba at hj
    cases c1 : zle (.ofNat q.1) a with
    | true =>
      rw [c1] at hb
      have := zle_iff.mp c1
      have e : Nat.ble (Nat.succ j) q.1 = false := by
        rw [← Bool.not_eq_true, Nat.ble_eq]
        simp only [Int.ofNat_eq_natCast] at this
        omega
      rw [e] at hj
      exact ybh_ok h1 h2 hb hj hv
    | false =>
      rw [c1] at hb
      simp only [cond_false] at hb
      cases c2 : zle (.ofNat (Nat.succ b.toNat)) (.ofNat q.1) with
      | true =>
        rw [c2] at hb
        have := zle_iff.mp c2
        have e : Nat.ble (Nat.succ j) q.1 = true := by
          rw [Nat.ble_eq]
          simp only [Int.ofNat_eq_natCast] at this
          omega
        rw [e] at hj
        simp only [cond_true] at hb hj
        rw [hb] at hj
        cases hj
        exact hv
      | false =>
        rw [c2] at hb
        simp only [cond_false] at hb
        cases hp : zbh base a b with
        | none => rw [hp] at hb; cases hb
        | some p =>
          obtain ⟨pt, pl, ph⟩ := p
          rw [hp] at hb
          simp only at hb
          cases c3 : Nat.beq pt q.2.1 with
          | false => rw [c3] at hb; cases hb
          | true =>
            rw [c3] at hb
            simp only [cond_true] at hb
            cases hb
            obtain ⟨m1, m2⟩ := zmin_l pl q.2.2.1
            obtain ⟨m3, m4⟩ := zmax_l ph q.2.2.2
            cases e : Nat.ble (Nat.succ j) q.1 with
            | true =>
              rw [e] at hj
              simp only [cond_true] at hj
              have eq : q.2 = (t', l', h') := Option.some.inj hj
              rw [eq] at m1 m2 m3 m4
              rw [zbe.mp c3, eq]
              exact hv.wk (by simpa [eq] using m2) (by simpa [eq] using m4)
            | false =>
              rw [e] at hj
              exact (ybh_ok h1 h2 hp hj hv).wk m1 m3
theorem yhl_ok {r : List Int} {F : zF} {k : yK} {n : Int} {j : Nat} {i : zV} {v : Value} {t : Nat} {l h : Int} (hF : zFok r F) (hi : zd r i = some (j : Int)) (hj : (j : Int) < n) (hv : yok k j v) (h9 : yhl F k n i = some (t, l, h)) : yrm v t l h := by
  unfold yhl at h9
  split at h9
  · rename_i p e
    cases h9
    exact hv.2 _ (yri_ok hF hi e)
  · split at h9
    · rename_i a b e
      obtain ⟨b1, b2⟩ := zlh_ok hF e hi
      obtain ⟨⟨q1, q2, q3⟩, e1, e2⟩ := hv.1
      exact ybh_ok (zmax_le.mpr ⟨b1, by omega⟩) (zmin_le.mpr ⟨b2, by omega⟩) h9 e1 e2
    · cases h9
