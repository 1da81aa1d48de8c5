/-! THE CHECKER'S DOMAIN: numbers told by symbols (symbol 0 is 0) and offsets; intervals, differences, and what was computed already. -/
abbrev zV : Type := Nat × Nat × Int
abbrev zB : Type := List (Nat × Int × Int)
abbrev zM : Type := List (Nat × zV × zV × Nat)
/-- how many symbols; intervals; differences; what was computed -/
abbrev zF : Type := Nat × zB × List (Nat × Nat × Int) × zM
def zfn {β : Type} (n : Nat) (k : Nat → β) : β := match n with
  | 0 => k 0
  | m + 1 => k (Nat.succ m)
theorem zfn_eq {β : Type} (n : Nat) (k : Nat → β) : zfn n k = k n := by cases n <;> rfl
def zfi {β : Type} (z : Int) (k : Int → β) : β := match z with
  | .ofNat n => zfn n (fun n => k (.ofNat n))
  | .negSucc n => zfn n (fun n => k (.negSucc n))
theorem zfi_eq {β : Type} (z : Int) (k : Int → β) : zfi z k = k z := by cases z <;> simp only [zfi, zfn_eq]
def zle (a b : Int) : Bool := match a, b with
  | .ofNat m, .ofNat n => Nat.ble m n
  | .negSucc _, .ofNat _ => true
  | .ofNat _, .negSucc _ => false
  | .negSucc m, .negSucc n => Nat.ble n m
theorem zle_iff {a b : Int} : zle a b = true ↔ a ≤ b := by
  cases a <;> cases b <;> simp only [zle, Nat.ble_eq, Int.ofNat_eq_natCast, Int.negSucc_eq, reduceCtorEq, true_iff, false_iff] <;> omega
theorem zle_not {a b : Int} : zle a b = false ↔ b < a := by
  rw [← Bool.not_eq_true, zle_iff]; omega
/-- equal numbers -/
def zeq (a b : Int) : Bool := match a, b with
  | .ofNat m, .ofNat n => Nat.beq m n
  | .negSucc m, .negSucc n => Nat.beq m n
  | _, _ => false
theorem zeq_iff {a b : Int} : zeq a b = true ↔ a = b := by
  cases a <;> cases b <;> simp only [zeq, Nat.beq_eq, Int.ofNat.injEq, Int.negSucc.injEq, reduceCtorEq]
theorem zbe {m n : Nat} : Nat.beq m n = true ↔ m = n := by rw [Nat.beq_eq]
def zI0 : Int := .negSucc 2147483647
def zI1 : Int := .ofNat 2147483647
theorem zI0e : zI0 = -2147483648 := rfl
theorem zI1e : zI1 = 2147483647 := rfl
theorem zI32 (x : Int32) : zI0 ≤ x.toInt ∧ x.toInt ≤ zI1 := by
  have h1 := x.le_toInt
  have h2 := x.toInt_lt
  rw [zI0e, zI1e]
  omega
/-- what a told number is -/
def zd (r : List Int) (a : zV) : Option Int := (r[a.2.1]?).map (· + a.2.2)
theorem zd_some {r : List Int} {a : zV} {x : Int} : zd r a = some x ↔ ∃ v, r[a.2.1]? = some v ∧ x = v + a.2.2 := by
  unfold zd
  rw [Option.map_eq_some_iff]
  constructor
  · rintro ⟨v, h1, h2⟩; exact ⟨v, h1, h2.symm⟩
  · rintro ⟨v, h1, h2⟩; exact ⟨v, h1, h2.symm⟩
/-- more symbols -/
def zX (r r' : List Int) : Prop := ∃ t, r' = r ++ t
theorem zX.rf {r : List Int} : zX r r := ⟨[], (List.append_nil r).symm⟩
theorem zX.tr {a b c : List Int} (h1 : zX a b) (h2 : zX b c) : zX a c := by
  obtain ⟨t, rfl⟩ := h1
  obtain ⟨u, rfl⟩ := h2
  exact ⟨t ++ u, List.append_assoc _ _ _⟩
theorem zX.get {r r' : List Int} (h : zX r r') {i : Nat} {v : Int} (hv : r[i]? = some v) : r'[i]? = some v := by
  obtain ⟨t, rfl⟩ := h
  rw [List.getElem?_append_left (List.getElem?_eq_some_iff.mp hv).1]
  exact hv
theorem zX.den {r r' : List Int} (h : zX r r') {a : zV} {x : Int} (ha : zd r a = some x) : zd r' a = some x := by
  rw [zd_some] at ha ⊢
  obtain ⟨v, h1, h2⟩ := ha
  exact ⟨v, h.get h1, h2⟩
/-- int operations by number -/
def zon : Instr → Nat
  | .iadd => 1
  | .isub => 2
  | .imul => 3
  | .iand => 4
  | .ior => 5
  | .ixor => 6
  | .ishl => 7
  | .ishr => 8
  | .iushr => 9
  | .idiv => 10
  | .irem => 11
  | _ => 0
def zop (n : Nat) (x y : Int32) : Option Int32 := match n with
  | 1 => some (x + y)
  | 2 => some (x - y)
  | 3 => some (x * y)
  | 4 => some (x &&& y)
  | 5 => some (x ||| y)
  | 6 => some (x ^^^ y)
  | 7 => some (x <<< (y &&& 31))
  | 8 => some (x >>> (y &&& 31))
  | 9 => some ((x.toUInt32 >>> (y.toUInt32 &&& Int32.toUInt32 31)).toInt32)
  | 10 => if y = 0 then none else some (x / y)
  | 11 => if y = 0 then none else some (x - x / y * y)
  | _ => none
theorem zop_eq (i : Instr) (x y : Int32) : mbin i x y = zop (zon i) x y := by
  cases i <;> rfl
def zmok (r : List Int) (e : Nat × zV × zV × Nat) : Prop :=
  ∃ x y z : Int32, zd r e.2.1 = some x.toInt ∧ zd r e.2.2.1 = some y.toInt ∧ zop e.1 x y = some z ∧ r[e.2.2.2]? = some z.toInt
def zFok (r : List Int) (F : zF) : Prop :=
  r.length = F.1 ∧ r[0]? = some 0 ∧ (∀ e ∈ F.2.1, ∃ v, r[e.1]? = some v ∧ e.2.1 ≤ v ∧ v ≤ e.2.2) ∧ (∀ e ∈ F.2.2.1, ∃ u v, r[e.1]? = some u ∧ r[e.2.1]? = some v ∧ u + e.2.2 ≤ v) ∧ ∀ e ∈ F.2.2.2, zmok r e
def zbn : zB → Nat → Option (Int × Int)
  | [], _ => none
  | e :: l, i => bif Nat.beq e.1 i then some e.2 else zbn l i
theorem zbn_mem {b : zB} {i : Nat} {p : Int × Int} (h : zbn b i = some p) : (i, p) ∈ b := by
  induction b with
  | nil => cases h
  | cons e l ih =>
    unfold zbn at h
    cases hc : Nat.beq e.1 i with
    | true =>
      rw [hc] at h
      obtain rfl := zbe.mp hc
      obtain rfl : e.2 = p := by simpa using h
      exact List.mem_cons_self
    | false =>
      rw [hc] at h
      exact List.mem_cons_of_mem _ (ih h)
/-- the interval of a told number -/
def zlh (F : zF) (a : zV) : Option (Int × Int) := match a.2.1 with
  | 0 => some (a.2.2, a.2.2)
  | s + 1 => match zbn F.2.1 (Nat.succ s) with
    | some p => some (p.1 + a.2.2, p.2 + a.2.2)
    | none => none
theorem zlh_ok {r : List Int} {F : zF} {a : zV} {l h x : Int} (hF : zFok r F) (hl : zlh F a = some (l, h)) (hx : zd r a = some x) : l ≤ x ∧ x ≤ h := by
  obtain ⟨v, h1, rfl⟩ := zd_some.mp hx
  unfold zlh at hl
  cases hs : a.2.1 with
  | zero =>
    rw [hs] at hl h1
    rw [hF.2.1] at h1
    cases h1
    cases hl
    omega
  | succ s =>
    rw [hs] at hl h1
    dsimp only at hl
    cases hb : zbn F.2.1 (Nat.succ s) with
    | none => rw [hb] at hl; cases hl
    | some p =>
      rw [hb] at hl
      cases hl
      obtain ⟨v', e1, e2, e3⟩ := hF.2.2.1 _ (zbn_mem hb)
      dsimp only at e1 e2 e3
      rw [h1] at e1
      cases e1
      omega
/-- a new symbol -/
def zfr (F : zF) (l h : Int) : zF := (Nat.succ F.1, (F.1, l, h) :: F.2.1, F.2.2.1, F.2.2.2)
theorem zfr_ok {r : List Int} {F : zF} {l h v : Int} (hF : zFok r F) (h1 : l ≤ v) (h2 : v ≤ h) :
    zFok (r ++ [v]) (zfr F l h) ∧ (r ++ [v])[F.1]? = some v ∧ zX r (r ++ [v]) := by
  have hx : zX r (r ++ [v]) := ⟨[v], rfl⟩
  have hg : (r ++ [v])[F.1]? = some v := by rw [← hF.1]; simp
  refine ⟨⟨?_, hx.get hF.2.1, ?_, ?_, ?_⟩, hg, hx⟩
  · simp [zfr, hF.1]
  · intro e he
    rcases List.mem_cons.mp he with rfl | he
    · exact ⟨v, hg, h1, h2⟩
    · obtain ⟨u, e1, e2⟩ := hF.2.2.1 e he
      exact ⟨u, hx.get e1, e2⟩
  · intro e he
    obtain ⟨u, w, e1, e2, e3⟩ := hF.2.2.2.1 e he
    exact ⟨u, w, hx.get e1, hx.get e2, e3⟩
  · intro e he
    obtain ⟨x, y, z, e1, e2, e3, e4⟩ := hF.2.2.2.2 e he
    exact ⟨x, y, z, hx.den e1, hx.den e2, e3, hx.get e4⟩
/-- a further interval -/
theorem zFok.bd {r : List Int} {F : zF} (hF : zFok r F) {i : Nat} {v l h : Int} (hv : r[i]? = some v) (h1 : l ≤ v) (h2 : v ≤ h) : zFok r (F.1, (i, l, h) :: F.2.1, F.2.2.1, F.2.2.2) := by
  refine ⟨hF.1, hF.2.1, ?_, hF.2.2.2.1, hF.2.2.2.2⟩
  intro e he
  rcases List.mem_cons.mp he with rfl | he
  · exact ⟨v, hv, h1, h2⟩
  · exact hF.2.2.1 e he
theorem zFok.df {r : List Int} {F : zF} (hF : zFok r F) {i j : Nat} {u v c : Int} (hu : r[i]? = some u) (hv : r[j]? = some v) (h : u + c ≤ v) : zFok r (F.1, F.2.1, (i, j, c) :: F.2.2.1, F.2.2.2) := by
  refine ⟨hF.1, hF.2.1, hF.2.2.1, ?_, hF.2.2.2.2⟩
  intro e he
  rcases List.mem_cons.mp he with rfl | he
  · exact ⟨u, v, hu, hv, h⟩
  · exact hF.2.2.2.1 e he
theorem zFok.mm {r : List Int} {F : zF} (hF : zFok r F) {e : Nat × zV × zV × Nat} (h : zmok r e) : zFok r (F.1, F.2.1, F.2.2.1, e :: F.2.2.2) := by
  refine ⟨hF.1, hF.2.1, hF.2.2.1, hF.2.2.2.1, ?_⟩
  intro e' he
  rcases List.mem_cons.mp he with rfl | he
  · exact h
  · exact hF.2.2.2.2 e' he
/-- a ≤ b, from now on; none: that can't be -/
def zmin (a b : Int) : Int := bif zle a b then a else b
def zmax (a b : Int) : Int := bif zle a b then b else a
theorem zmin_le {a b x : Int} : x ≤ zmin a b ↔ x ≤ a ∧ x ≤ b := by
  unfold zmin
  cases h : zle a b with
  | true => have := zle_iff.mp h; simp only [cond_true]; omega
  | false => have := zle_not.mp h; simp only [cond_false]; omega
theorem zmax_le {a b x : Int} : zmax a b ≤ x ↔ a ≤ x ∧ b ≤ x := by
  unfold zmax
  cases h : zle a b with
  | true => have := zle_iff.mp h; simp only [cond_true]; omega
  | false => have := zle_not.mp h; simp only [cond_false]; omega
def zas (F : zF) (a b : zV) : Option zF :=
  match zlh F a, zlh F b with
  | some (la, ha), some (lb, hb) =>
    bif zle ha lb then some F else
    bif zle la hb then
      bif Nat.beq a.2.1 b.2.1 then (bif zle a.2.2 b.2.2 then some F else none) else
      match a.2.1, b.2.1 with
      | 0, 0 => none
      | 0, t + 1 => zfi (la - b.2.2) fun l => some (F.1, (Nat.succ t, l, hb - b.2.2) :: F.2.1, F.2.2.1, F.2.2.2)
      | s + 1, 0 => zfi (hb - a.2.2) fun h => some (F.1, (Nat.succ s, la - a.2.2, h) :: F.2.1, F.2.2.1, F.2.2.2)
      | s + 1, t + 1 => zfi (zmin ha hb - a.2.2) fun h => zfi (zmax la lb - b.2.2) fun l =>
          some (F.1, (Nat.succ s, la - a.2.2, h) :: (Nat.succ t, l, hb - b.2.2) :: F.2.1, (Nat.succ s, Nat.succ t, a.2.2 - b.2.2) :: F.2.2.1, F.2.2.2)
    else none
  | _, _ => some F
theorem zas_ok {r : List Int} {F : zF} {a b : zV} {x y : Int} (hF : zFok r F) (hx : zd r a = some x) (hy : zd r b = some y) (h : x ≤ y) :
    ∃ F', zas F a b = some F' ∧ zFok r F' := by
  unfold zas
  cases ea : zlh F a with
  | none => exact ⟨F, rfl, hF⟩
  | some p =>
    cases eb : zlh F b with
    | none => exact ⟨F, rfl, hF⟩
    | some q =>
      obtain ⟨la, ha⟩ := p
      obtain ⟨lb, hb⟩ := q
      obtain ⟨i1, i2⟩ := zlh_ok hF ea hx
      obtain ⟨j1, j2⟩ := zlh_ok hF eb hy
      obtain ⟨u, hu, hxu⟩ := zd_some.mp hx
      obtain ⟨v, hv, hyv⟩ := zd_some.mp hy
      simp only
      cases c1 : zle ha lb with
      | true => exact ⟨F, rfl, hF⟩
      | false =>
        have c2 : zle la hb = true := zle_iff.mpr (by omega)
        rw [c2]
        simp only [cond_false, cond_true]
        cases c3 : Nat.beq a.2.1 b.2.1 with
        | true =>
          have e3 := zbe.mp c3
          rw [e3, hv] at hu
          cases hu
          have c4 : zle a.2.2 b.2.2 = true := zle_iff.mpr (by omega)
          rw [c4]
          exact ⟨F, rfl, hF⟩
        | false =>
          simp only [cond_false]
          cases es : a.2.1 with
          | zero =>
            cases et : b.2.1 with
            | zero => rw [es, et] at c3; cases c3
            | succ t =>
              simp only [zfi_eq]
              rw [et] at hv
              exact ⟨_, rfl, hF.bd hv (by omega) (by omega)⟩
          | succ s =>
            cases et : b.2.1 with
            | zero =>
              simp only [zfi_eq]
              rw [es] at hu
              exact ⟨_, rfl, hF.bd hu (by omega) (by omega)⟩
            | succ t =>
              simp only [zfi_eq]
              rw [es] at hu
              rw [et] at hv
              have m1 : x ≤ zmin ha hb := zmin_le.mpr ⟨i2, by omega⟩
              have m2 : zmax la lb ≤ y := zmax_le.mpr ⟨by omega, j1⟩
              refine ⟨_, rfl, ?_⟩
              have g1 := hF.bd hv (l := zmax la lb - b.2.2) (h := hb - b.2.2) (by omega) (by omega)
              have g2 := g1.bd hu (l := la - a.2.2) (h := zmin ha hb - a.2.2) (by omega) (by omega)
              exact g2.df hu hv (by omega)
