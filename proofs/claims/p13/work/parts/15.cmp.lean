/-! comparing, computing -/
def zsh (a : zV) (n : Int) : zV := (a.1, a.2.1, a.2.2 + n)
theorem zsh_d {r : List Int} {a : zV} {x n : Int} (h : zd r a = some x) : zd r (zsh a n) = some (x + n) := by
  obtain ⟨v, h1, rfl⟩ := zd_some.mp h
  exact zd_some.mpr ⟨v, h1, by simp only [zsh]; omega⟩
def zk (c : Int) : zV := (1, 0, c)
theorem zk_d {r : List Int} {F : zF} (hF : zFok r F) (c : Int) : zd r (zk c) = some c := zd_some.mpr ⟨0, hF.2.1, by simp only [zk]; omega⟩
/-- a = b, from now on -/
def zeqs (F : zF) (a b : zV) : Option zF := match zas F a b with
  | some F1 => zas F1 b a
  | none => none
theorem zeqs_ok {r : List Int} {F : zF} {a b : zV} {x : Int} (hF : zFok r F) (hx : zd r a = some x) (hy : zd r b = some x) :
    ∃ F', zeqs F a b = some F' ∧ zFok r F' := by
  obtain ⟨F1, e1, h1⟩ := zas_ok hF hx hy (Int.le_refl x)
  unfold zeqs
  rw [e1]
  exact zas_ok h1 hy hx (Int.le_refl x)
/-- a ≠ b, from now on -/
def znes (F : zF) (a b : zV) : Option zF :=
  bif Nat.beq a.2.1 b.2.1 then (bif zeq a.2.2 b.2.2 then none else some F) else
  match zlh F a, zlh F b with
  | some (la, ha), some (lb, hb) =>
    bif zeq lb hb then
      (bif zeq la ha then (bif zeq la lb then none else some F)
      else bif zeq la lb then zas F (zk (lb + 1)) a else bif zeq ha lb then zas F a (zk (lb - 1)) else some F)
    else bif zeq la ha then
      (bif zeq lb la then zas F (zk (la + 1)) b else bif zeq hb la then zas F b (zk (la - 1)) else some F)
    else some F
  | _, _ => some F
theorem znes_ok {r : List Int} {F : zF} {a b : zV} {x y : Int} (hF : zFok r F) (hx : zd r a = some x) (hy : zd r b = some y) (h : x ≠ y) :
    ∃ F', znes F a b = some F' ∧ zFok r F' := by
  unfold znes
  cases c0 : Nat.beq a.2.1 b.2.1 with
  | true =>
    simp only [cond_true]
    obtain ⟨u, hu, hxu⟩ := zd_some.mp hx
    obtain ⟨v, hv, hyv⟩ := zd_some.mp hy
    rw [zbe.mp c0, hv] at hu
    cases hu
    cases c1 : zeq a.2.2 b.2.2 with
    | true => exact absurd (by rw [hxu, hyv, zeq_iff.mp c1]) h
    | false => exact ⟨F, rfl, hF⟩
  | false =>
    simp only [cond_false]
    cases ea : zlh F a with
    | none => exact ⟨F, rfl, hF⟩
    | some p =>
      cases eb : zlh F b with
      | none => exact ⟨F, rfl, hF⟩
      | some q =>
        obtain ⟨la, ha⟩ := p
        obtain ⟨lb, hb⟩ := q
        obtain ⟨i1, i2⟩ := zlh_ok hF ea hx
        obtain ⟨j1, j2⟩ := zlh_ok hF eb hy
        simp only
        cases c1 : zeq lb hb with
        | true =>
          have e1 := zeq_iff.mp c1
          simp only [cond_true]
          cases c2 : zeq la ha with
          | true =>
            have e2 := zeq_iff.mp c2
            simp only [cond_true]
            cases c3 : zeq la lb with
            | true => have e3 := zeq_iff.mp c3; exact absurd (by omega) h
            | false => exact ⟨F, rfl, hF⟩
          | false =>
            simp only [cond_false]
            cases c3 : zeq la lb with
            | true => have e3 := zeq_iff.mp c3; exact zas_ok hF (zk_d hF _) hx (by omega)
            | false =>
              simp only [cond_false]
              cases c4 : zeq ha lb with
              | true => have e4 := zeq_iff.mp c4; exact zas_ok hF hx (zk_d hF _) (by omega)
              | false => exact ⟨F, rfl, hF⟩
        | false =>
          simp only [cond_false]
          cases c2 : zeq la ha with
          | true =>
            have e2 := zeq_iff.mp c2
            simp only [cond_true]
            cases c3 : zeq lb la with
            | true => have e3 := zeq_iff.mp c3; exact zas_ok hF (zk_d hF _) hy (by omega)
            | false =>
              simp only [cond_false]
              cases c4 : zeq hb la with
              | true => have e4 := zeq_iff.mp c4; exact zas_ok hF hy (zk_d hF _) (by omega)
              | false => exact ⟨F, rfl, hF⟩
          | false => exact ⟨F, rfl, hF⟩
/-- a condition: what is known where it is so, and where it isn't -/
def zcnd (F : zF) (c : Jvm.ClassFile.Cond) (a b : zV) : Option zF × Option zF := match c with
  | .eq => (zeqs F a b, znes F a b)
  | .ne => (znes F a b, zeqs F a b)
  | .lt => (zas F (zsh a 1) b, zas F b a)
  | .ge => (zas F b a, zas F (zsh a 1) b)
  | .gt => (zas F (zsh b 1) a, zas F a b)
  | .le => (zas F a b, zas F (zsh b 1) a)
theorem zcnd_ok {r : List Int} {F : zF} {c : Jvm.ClassFile.Cond} {a b : zV} {x y : Int32} (hF : zFok r F) (hx : zd r a = some x.toInt) (hy : zd r b = some y.toInt) :
    (mcond c x y = true → ∃ F', (zcnd F c a b).1 = some F' ∧ zFok r F') ∧ (mcond c x y = false → ∃ F', (zcnd F c a b).2 = some F' ∧ zFok r F') := by
  have heq : x = y ↔ x.toInt = y.toInt := Int32.toInt_inj.symm
  cases c <;> simp only [mcond, zcnd, decide_eq_true_eq, decide_eq_false_iff_not, Bool.not_eq_true', Bool.not_eq_false', Int32.lt_iff_toInt_lt, Int32.le_iff_toInt_le]
  · refine ⟨fun h => ?_, fun h => ?_⟩
    · subst h; exact zeqs_ok hF hx hy
    · exact znes_ok hF hx hy (fun e => h (heq.mpr e))
  · refine ⟨fun h => ?_, fun h => ?_⟩
    · exact znes_ok hF hx hy (fun e => h (heq.mpr e))
    · subst h; exact zeqs_ok hF hx hy
  · exact ⟨fun h => zas_ok hF (zsh_d hx) hy (by omega), fun h => zas_ok hF hy hx (by omega)⟩
  · exact ⟨fun h => zas_ok hF hy hx (by omega), fun h => zas_ok hF (zsh_d hx) hy (by omega)⟩
  · exact ⟨fun h => zas_ok hF (zsh_d hy) hx (by omega), fun h => zas_ok hF hx hy (by omega)⟩
  · exact ⟨fun h => zas_ok hF hx hy (by omega), fun h => zas_ok hF (zsh_d hy) hx (by omega)⟩
/-- within int -/
def zin (l h : Int) : Bool := zle zI0 l && zle h zI1
theorem zin_iff {l h : Int} : zin l h = true ↔ zI0 ≤ l ∧ h ≤ zI1 := by simp only [zin, Bool.and_eq_true, zle_iff]
theorem zbm {z : Int} (h0 : zI0 ≤ z) (h1 : z ≤ zI1) : z.bmod (2 ^ 32) = z := by
  rw [zI0e] at h0
  rw [zI1e] at h1
  exact Int.bmod_eq_of_le (by omega) (by omega)
theorem zadd_i {x y : Int32} (h0 : zI0 ≤ x.toInt + y.toInt) (h1 : x.toInt + y.toInt ≤ zI1) : (x + y).toInt = x.toInt + y.toInt := by
  rw [Int32.toInt_add, zbm h0 h1]
theorem zsub_i {x y : Int32} (h0 : zI0 ≤ x.toInt - y.toInt) (h1 : x.toInt - y.toInt ≤ zI1) : (x - y).toInt = x.toInt - y.toInt := by
  rw [Int32.toInt_sub, zbm h0 h1]
theorem zmul_i {x y : Int32} (h0 : zI0 ≤ x.toInt * y.toInt) (h1 : x.toInt * y.toInt ≤ zI1) : (x * y).toInt = x.toInt * y.toInt := by
  rw [Int32.toInt_mul, zbm h0 h1]
/-- the interval of a result -/
def ziv (op : Nat) (la ha lb hb : Int) : Int × Int := match op with
  | 1 => bif zin (la + lb) (ha + hb) then (la + lb, ha + hb) else (zI0, zI1)
  | 2 => bif zin (la - hb) (ha - lb) then (la - hb, ha - lb) else (zI0, zI1)
  | 3 => bif zle 0 la && zle 0 lb && zle (ha * hb) zI1 then (la * lb, ha * hb) else (zI0, zI1)
  | _ => (zI0, zI1)
theorem ziv_ok {op : Nat} {la ha lb hb : Int} {x y z : Int32} (h : zop op x y = some z) (i1 : la ≤ x.toInt) (i2 : x.toInt ≤ ha) (j1 : lb ≤ y.toInt) (j2 : y.toInt ≤ hb) :
    (ziv op la ha lb hb).1 ≤ z.toInt ∧ z.toInt ≤ (ziv op la ha lb hb).2 := by
  unfold ziv
  split
  · cases h
    cases c : zin (la + lb) (ha + hb) with
    | false => exact zI32 _
    | true =>
      obtain ⟨c1, c2⟩ := zin_iff.mp c
      rw [zadd_i (by omega) (by omega)]
      simp only [cond_true]
      omega
  · cases h
    cases c : zin (la - hb) (ha - lb) with
    | false => exact zI32 _
    | true =>
      obtain ⟨c1, c2⟩ := zin_iff.mp c
      rw [zsub_i (by omega) (by omega)]
      simp only [cond_true]
      omega
  · cases h
    cases c : (zle 0 la && zle 0 lb && zle (ha * hb) zI1) with
    | false => exact zI32 _
    | true =>
      simp only [Bool.and_eq_true, zle_iff] at c
      obtain ⟨⟨c1, c2⟩, c3⟩ := c
      have m1 : la * lb ≤ x.toInt * y.toInt := Int.mul_le_mul i1 j1 c2 (by omega)
      have m2 : x.toInt * y.toInt ≤ ha * hb := Int.mul_le_mul i2 j2 (by omega) (by omega)
      have m3 : 0 ≤ la * lb := Int.mul_nonneg c1 c2
      have z0 : zI0 ≤ x.toInt * y.toInt := by rw [zI0e]; omega
      rw [zmul_i z0 (by omega)]
      exact ⟨m1, m2⟩
  · exact zI32 _
/-- equal told numbers -/
def zve (a b : zV) : Bool := Nat.beq a.2.1 b.2.1 && zeq a.2.2 b.2.2
theorem zve_d {r : List Int} {a b : zV} (h : zve a b = true) : zd r a = zd r b := by
  simp only [zve, Bool.and_eq_true, zbe, zeq_iff] at h
  simp only [zd, h.1, h.2]
def zml : zM → Nat → zV → zV → Option Nat
  | [], _, _, _ => none
  | e :: l, op, a, b => bif Nat.beq e.1 op && zve e.2.1 a && zve e.2.2.1 b then some e.2.2.2 else zml l op a b
theorem zml_ok {r : List Int} {m : zM} {op : Nat} {a b : zV} {n : Nat} (hm : ∀ e ∈ m, zmok r e) (h : zml m op a b = some n) : zmok r (op, a, b, n) := by
  induction m with
  | nil => cases h
  | cons e l ih =>
    unfold zml at h
    cases hc : (Nat.beq e.1 op && zve e.2.1 a && zve e.2.2.1 b) with
    | true =>
      rw [hc] at h
      simp only [cond_true] at h
      cases h
      simp only [Bool.and_eq_true, zbe] at hc
      obtain ⟨⟨c1, c2⟩, c3⟩ := hc
      obtain ⟨x, y, z, e1, e2, e3, e4⟩ := hm e List.mem_cons_self
      exact ⟨x, y, z, by rw [← zve_d c2]; exact e1, by rw [← zve_d c3]; exact e2, by rw [← c1]; exact e3, e4⟩
    | false =>
      rw [hc] at h
      exact ih (fun e he => hm e (List.mem_cons_of_mem _ he)) h
/-- computes with two numbers: a symbol that is there, or a new one -/
def zbj (F : zF) (op : Nat) (a b : zV) (la ha lb hb : Int) : Option (zV × zF) :=
    bif !(Nat.ble 1 op && Nat.ble op 11) || (Nat.ble 10 op && zle lb 0 && zle 0 hb) then none else
    match zml F.2.2.2 op a b with
    | some n => some ((1, n, 0), F)
    | none => match ziv op la ha lb hb with
      | (l, h) => zfi l fun l => zfi h fun h => some ((1, F.1, 0), ((zfr F l h).1, (zfr F l h).2.1, (zfr F l h).2.2.1, (op, a, b, F.1) :: (zfr F l h).2.2.2))
theorem zop_some {op : Nat} {x y : Int32} (h1 : 1 ≤ op) (h2 : op ≤ 11) (h3 : op < 10 ∨ y ≠ 0) : ∃ z, zop op x y = some z := by
  have : op = 1 ∨ op = 2 ∨ op = 3 ∨ op = 4 ∨ op = 5 ∨ op = 6 ∨ op = 7 ∨ op = 8 ∨ op = 9 ∨ op = 10 ∨ op = 11 := by omega
  rcases this with rfl | rfl | rfl | rfl | rfl | rfl | rfl | rfl | rfl | rfl | rfl <;> simp only [zop] <;> first | exact ⟨_, rfl⟩ | skip
  · rw [if_neg (h3.resolve_left (by omega))]; exact ⟨_, rfl⟩
  · rw [if_neg (h3.resolve_left (by omega))]; exact ⟨_, rfl⟩
theorem zbj_ok {r : List Int} {F F' : zF} {op : Nat} {a b c : zV} {la ha lb hb : Int} {x y : Int32} (hF : zFok r F) (hx : zd r a = some x.toInt) (hy : zd r b = some y.toInt)
    (i1 : la ≤ x.toInt) (i2 : x.toInt ≤ ha) (j1 : lb ≤ y.toInt) (j2 : y.toInt ≤ hb) (h : zbj F op a b la ha lb hb = some (c, F')) :
    ∃ z r', zop op x y = some z ∧ zX r r' ∧ zFok r' F' ∧ zd r' c = some z.toInt ∧ c.1 = 1 := by
  unfold zbj at h
  cases c0 : (!(Nat.ble 1 op && Nat.ble op 11) || (Nat.ble 10 op && zle lb 0 && zle 0 hb)) with
  | true => rw [c0] at h; cases h
  | false =>
    rw [c0] at h
    simp only [cond_false] at h
    simp only [Bool.or_eq_false_iff, Bool.not_eq_false', Bool.and_eq_true, Nat.ble_eq] at c0
    obtain ⟨⟨k1, k2⟩, k3⟩ := c0
    have hy0 : op < 10 ∨ y ≠ 0 := by
      by_cases h10 : op < 10
      · exact Or.inl h10
      · right
        rintro rfl
        have : (Nat.ble 10 op && zle lb 0 && zle 0 hb) = true := by
          simp only [Bool.and_eq_true, Nat.ble_eq, zle_iff]
          have e0 : (0 : Int32).toInt = 0 := rfl
          rw [e0] at j1 j2
          exact ⟨⟨by omega, j1⟩, j2⟩
        rw [this] at k3
        cases k3
    obtain ⟨z, hz⟩ := zop_some (x := x) k1 k2 hy0
    cases hm : zml F.2.2.2 op a b with
    | some n =>
      rw [hm] at h
      cases h
      obtain ⟨x', y', z', e1, e2, e3, e4⟩ := zml_ok hF.2.2.2.2 hm
      dsimp only at e1 e2 e3 e4
      rw [hx] at e1
      rw [hy] at e2
      have ex : x = x' := Int32.toInt_inj.mp (by simpa using e1)
      have ey : y = y' := Int32.toInt_inj.mp (by simpa using e2)
      subst ex
      subst ey
      exact ⟨z', r, e3, zX.rf, hF, zd_some.mpr ⟨_, e4, by simp⟩, rfl⟩
    | none =>
      rw [hm] at h
      simp only [zfi_eq] at h
      have hi := ziv_ok hz i1 i2 j1 j2
      cases h
      obtain ⟨g1, g2, g3⟩ := zfr_ok hF hi.1 hi.2
      refine ⟨z, r ++ [z.toInt], hz, g3, ?_, zd_some.mpr ⟨_, g2, by simp⟩, rfl⟩
      exact g1.mm ⟨x, y, z, g3.den hx, g3.den hy, hz, g2⟩
/-- computes with two numbers -/
def zbi (F : zF) (op : Nat) (a b : zV) : Option (zV × zF) := match zlh F a, zlh F b with
  | some (la, ha), some (lb, hb) =>
    bif zeq lb hb then
      (bif Nat.beq op 1 && zin (la + lb) (ha + lb) then zfi (a.2.2 + lb) fun c => some ((1, a.2.1, c), F) else
      bif Nat.beq op 2 && zin (la - lb) (ha - lb) then zfi (a.2.2 - lb) fun c => some ((1, a.2.1, c), F) else
      bif zeq la ha then (match zop op (Int32.ofInt la) (Int32.ofInt lb) with
        | some z => zfi z.toInt fun c => some ((1, 0, c), F)
        | none => none) else
      zbj F op a b la ha lb hb)
    else bif zeq la ha && Nat.beq op 1 && zin (la + lb) (la + hb) then zfi (b.2.2 + la) fun c => some ((1, b.2.1, c), F)
    else bif Nat.beq op 2 && Nat.beq a.2.1 b.2.1 && zin (a.2.2 - b.2.2) (a.2.2 - b.2.2) then zfi (a.2.2 - b.2.2) fun c => some ((1, 0, c), F)
    else zbj F op a b la ha lb hb
  | _, _ => none
theorem zbi_ok {r : List Int} {F F' : zF} {op : Nat} {a b c : zV} {x y : Int32} (hF : zFok r F) (hx : zd r a = some x.toInt) (hy : zd r b = some y.toInt) (h : zbi F op a b = some (c, F')) :
    ∃ z r', zop op x y = some z ∧ zX r r' ∧ zFok r' F' ∧ zd r' c = some z.toInt ∧ c.1 = 1 := by
  unfold zbi at h
  cases ea : zlh F a with
  | none => rw [ea] at h; cases h
  | some p =>
    cases eb : zlh F b with
    | none => rw [ea, eb] at h; cases h
    | some q =>
      obtain ⟨la, ha⟩ := p
      obtain ⟨lb, hb⟩ := q
      obtain ⟨i1, i2⟩ := zlh_ok hF ea hx
      obtain ⟨j1, j2⟩ := zlh_ok hF eb hy
      obtain ⟨u, hu, hxu⟩ := zd_some.mp hx
      obtain ⟨v, hv, hyv⟩ := zd_some.mp hy
      rw [ea, eb] at h
      simp only [zfi_eq] at h
      cases c1 : zeq lb hb with
      | true =>
        have e1 := zeq_iff.mp c1
        rw [c1] at h
        simp only [cond_true] at h
        cases c2 : (Nat.beq op 1 && zin (la + lb) (ha + lb)) with
        | true =>
          rw [c2] at h
          simp only [cond_true] at h
          cases h
          simp only [Bool.and_eq_true, zbe, zin_iff] at c2
          obtain ⟨rfl, c3, c4⟩ := c2
          refine ⟨x + y, r, rfl, zX.rf, hF, zd_some.mpr ⟨u, hu, ?_⟩, rfl⟩
          rw [zadd_i (by omega) (by omega)]
          dsimp only
          omega
        | false =>
          rw [c2] at h
          simp only [cond_false] at h
          cases c3 : (Nat.beq op 2 && zin (la - lb) (ha - lb)) with
          | true =>
            rw [c3] at h
            simp only [cond_true] at h
            cases h
            simp only [Bool.and_eq_true, zbe, zin_iff] at c3
            obtain ⟨rfl, c4, c5⟩ := c3
            refine ⟨x - y, r, rfl, zX.rf, hF, zd_some.mpr ⟨u, hu, ?_⟩, rfl⟩
            rw [zsub_i (by omega) (by omega)]
            dsimp only
            omega
          | false =>
            rw [c3] at h
            simp only [cond_false] at h
            cases c4 : zeq la ha with
            | true =>
              have e4 := zeq_iff.mp c4
              rw [c4] at h
              simp only [cond_true] at h
              have ex : Int32.ofInt la = x := by
                have : la = x.toInt := by omega
                rw [this, Int32.ofInt_toInt]
              have ey : Int32.ofInt lb = y := by
                have : lb = y.toInt := by omega
                rw [this, Int32.ofInt_toInt]
              rw [ex, ey] at h
              cases hz : zop op x y with
              | none => rw [hz] at h; cases h
              | some z =>
                rw [hz] at h
                cases h
                exact ⟨z, r, rfl, zX.rf, hF, zd_some.mpr ⟨0, hF.2.1, by dsimp only; omega⟩, rfl⟩
            | false =>
              rw [c4] at h
              exact zbj_ok hF hx hy i1 i2 j1 j2 h
      | false =>
        rw [c1] at h
        simp only [cond_false] at h
        cases c2 : (zeq la ha && Nat.beq op 1 && zin (la + lb) (la + hb)) with
        | true =>
          rw [c2] at h
          simp only [cond_true] at h
          cases h
          simp only [Bool.and_eq_true, zbe, zin_iff, zeq_iff] at c2
          obtain ⟨⟨c3, rfl⟩, c4, c5⟩ := c2
          refine ⟨x + y, r, rfl, zX.rf, hF, zd_some.mpr ⟨v, hv, ?_⟩, rfl⟩
          rw [zadd_i (by omega) (by omega)]
          dsimp only
          omega
        | false =>
          rw [c2] at h
          simp only [cond_false] at h
          cases c3 : (Nat.beq op 2 && Nat.beq a.2.1 b.2.1 && zin (a.2.2 - b.2.2) (a.2.2 - b.2.2)) with
          | true =>
            rw [c3] at h
            simp only [cond_true] at h
            cases h
            simp only [Bool.and_eq_true, zbe, zin_iff] at c3
            obtain ⟨⟨rfl, c4⟩, c5, c6⟩ := c3
            rw [c4, hv] at hu
            cases hu
            refine ⟨x - y, r, rfl, zX.rf, hF, zd_some.mpr ⟨0, hF.2.1, ?_⟩, rfl⟩
            rw [zsub_i (by omega) (by omega)]
            dsimp only
            omega
          | false =>
            rw [c3] at h
            exact zbj_ok hF hx hy i1 i2 j1 j2 h
