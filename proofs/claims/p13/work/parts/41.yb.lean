/-! computing, with more known of the results -/
theorem yn0 {x : Int32} (h : 0 ≤ x.toInt) : x.toInt = (x.toBitVec.toNat : Int) ∧ x.toBitVec.toNat < 2147483648 := by
  have e : x.toInt = x.toBitVec.toInt := rfl
  rw [e, BitVec.toInt_eq_toNat_cond] at h ⊢
  have := x.toBitVec.isLt
  split at h
  · rename_i c
    rw [if_pos c]
    exact ⟨rfl, by omega⟩
  · rename_i c
    omega
theorem yn1 {x : Int32} (h : x.toBitVec.toNat < 2147483648) : x.toInt = (x.toBitVec.toNat : Int) := by
  have e : x.toInt = x.toBitVec.toInt := rfl
  rw [e, BitVec.toInt_eq_toNat_cond, if_pos (by omega)]
theorem yand {x y : Int32} (hx : 0 ≤ x.toInt) (hy : 0 ≤ y.toInt) : 0 ≤ (x &&& y).toInt ∧ (x &&& y).toInt ≤ x.toInt ∧ (x &&& y).toInt ≤ y.toInt := by
  obtain ⟨e1, l1⟩ := yn0 hx
  obtain ⟨e2, l2⟩ := yn0 hy
  have e3 : (x &&& y).toBitVec.toNat = x.toBitVec.toNat &&& y.toBitVec.toNat := by rw [Int32.toBitVec_and, BitVec.toNat_and]
  have a1 : x.toBitVec.toNat &&& y.toBitVec.toNat ≤ x.toBitVec.toNat := Nat.and_le_left
  have a2 : x.toBitVec.toNat &&& y.toBitVec.toNat ≤ y.toBitVec.toNat := Nat.and_le_right
  rw [yn1 (x := x &&& y) (by rw [e3]; omega), e3]
  omega
theorem yxor {x y : Int32} (hx : 0 ≤ x.toInt) (hy : 0 ≤ y.toInt) : 0 ≤ (x ^^^ y).toInt ∧ (x.toInt ≤ 255 → y.toInt ≤ 255 → (x ^^^ y).toInt ≤ 255) := by
  obtain ⟨e1, l1⟩ := yn0 hx
  obtain ⟨e2, l2⟩ := yn0 hy
  have e3 : (x ^^^ y).toBitVec.toNat = x.toBitVec.toNat ^^^ y.toBitVec.toNat := by rw [Int32.toBitVec_xor, BitVec.toNat_xor]
  have a1 : x.toBitVec.toNat ^^^ y.toBitVec.toNat < 2 ^ 31 := Nat.xor_lt_two_pow (by omega) (by omega)
  rw [yn1 (x := x ^^^ y) (by rw [e3]; omega), e3]
  refine ⟨by omega, fun h1 h2 => ?_⟩
  have a2 : x.toBitVec.toNat ^^^ y.toBitVec.toNat < 2 ^ 8 := Nat.xor_lt_two_pow (by omega) (by omega)
  omega
theorem yxorn {x y : Int32} (hx : x.toInt < 0) (hy : 0 ≤ y.toInt) : (x ^^^ y).toInt < 0 := by
  have e : ∀ z : Int32, z.toInt = z.toBitVec.toInt := fun _ => rfl
  rw [e] at hx hy ⊢
  have m1 : x.toBitVec.msb = true := by rw [BitVec.msb_eq_toInt]; exact decide_eq_true hx
  have m2 : y.toBitVec.msb = false := by rw [BitVec.msb_eq_toInt]; exact decide_eq_false (by omega)
  have m3 : (x ^^^ y).toBitVec.msb = true := by rw [Int32.toBitVec_xor, BitVec.msb_xor, m1, m2]; rfl
  rw [BitVec.msb_eq_toInt] at m3
  exact of_decide_eq_true m3
theorem yshl {y : Int32} (h1 : 0 ≤ y.toInt) (h2 : y.toInt ≤ 7) : 1 ≤ ((1 : Int32) <<< (y &&& 31)).toInt ∧ ((1 : Int32) <<< (y &&& 31)).toInt ≤ 128 := by
  have : y.toInt = 0 ∨ y.toInt = 1 ∨ y.toInt = 2 ∨ y.toInt = 3 ∨ y.toInt = 4 ∨ y.toInt = 5 ∨ y.toInt = 6 ∨ y.toInt = 7 := by omega
  have key : ∀ k : Int, y.toInt = k → y = Int32.ofInt k := fun k e => by rw [← e, Int32.ofInt_toInt]
  rcases this with e | e | e | e | e | e | e | e <;> rw [key _ e] <;> decide
theorem yrem {x y : Int32} (hy : 1 ≤ y.toInt) : (x - x / y * y).toInt = x.toInt.tmod y.toInt := by
  have hx0 := zI32 x
  have hy0 := zI32 y
  rw [zI0e, zI1e] at hx0 hy0
  have hd := Int.mul_tdiv_add_tmod x.toInt y.toInt
  have b1 : x.toInt.tmod y.toInt < y.toInt := Int.tmod_lt_of_pos _ (by omega)
  have q0 : (x / y).toInt = x.toInt.tdiv y.toInt := by
    rw [Int32.toInt_div]
    refine zbm ?_ ?_
    · rw [zI0e]
      rcases Int.lt_or_le x.toInt 0 with h | h
      · have := Int.neg_tdiv x.toInt y.toInt
        have h2 : (-x.toInt).tdiv y.toInt ≤ -x.toInt := Int.tdiv_le_self _ (by omega)
        omega
      · have := Int.tdiv_nonneg h (by omega : (0 : Int) ≤ y.toInt)
        omega
    · rw [zI1e]
      rcases Int.lt_or_le x.toInt 0 with h | h
      · have := Int.neg_tdiv x.toInt y.toInt
        have h2 : 0 ≤ (-x.toInt).tdiv y.toInt := Int.tdiv_nonneg (by omega) (by omega)
        omega
      · have h2 : x.toInt.tdiv y.toInt ≤ x.toInt := Int.tdiv_le_self _ h
        omega
  have sg : (0 ≤ x.toInt → 0 ≤ x.toInt.tmod y.toInt) ∧ (x.toInt ≤ 0 → x.toInt.tmod y.toInt ≤ 0 ∧ -y.toInt < x.toInt.tmod y.toInt) := by
    refine ⟨fun h => Int.tmod_nonneg _ h, fun h => ?_⟩
    have e := Int.neg_tmod x.toInt y.toInt
    have h1 : 0 ≤ (-x.toInt).tmod y.toInt := Int.tmod_nonneg _ (by omega)
    have h2 : (-x.toInt).tmod y.toInt < y.toInt := Int.tmod_lt_of_pos _ (by omega)
    omega
  have hm : y.toInt * x.toInt.tdiv y.toInt = x.toInt.tdiv y.toInt * y.toInt := Int.mul_comm _ _
  have p0 : (x / y * y).toInt = (x / y).toInt * y.toInt := by
    refine zmul_i ?_ ?_ <;> rw [q0] <;> first | rw [zI0e] | rw [zI1e]
    · rcases Int.lt_or_le x.toInt 0 with h | h
      · have := sg.2 (by omega); omega
      · have := sg.1 h; omega
    · rcases Int.lt_or_le x.toInt 0 with h | h
      · have := sg.2 (by omega); omega
      · have := sg.1 h; omega
  have bd : zI0 ≤ x.toInt.tmod y.toInt ∧ x.toInt.tmod y.toInt ≤ zI1 := by
    rw [zI0e, zI1e]
    rcases Int.lt_or_le x.toInt 0 with h | h
    · have := sg.2 (by omega); omega
    · have := sg.1 h; omega
  have e9 : x.toInt - (x / y * y).toInt = x.toInt.tmod y.toInt := by rw [p0, q0]; omega
  rw [zsub_i (by rw [e9]; exact bd.1) (by rw [e9]; exact bd.2), e9]
theorem yrem_b {x y : Int32} (hy : 1 ≤ y.toInt) : (0 ≤ x.toInt → 0 ≤ (x - x / y * y).toInt) ∧ (x.toInt ≤ 0 → (x - x / y * y).toInt ≤ 0) ∧ (x - x / y * y).toInt ≤ y.toInt - 1 ∧ 1 - y.toInt ≤ (x - x / y * y).toInt := by
  rw [yrem hy]
  have b1 : x.toInt.tmod y.toInt < y.toInt := Int.tmod_lt_of_pos _ (by omega)
  have e := Int.neg_tmod x.toInt y.toInt
  have b2 : (-x.toInt).tmod y.toInt < y.toInt := Int.tmod_lt_of_pos _ (by omega)
  refine ⟨fun h => Int.tmod_nonneg _ h, fun h => ?_, by omega, by omega⟩
  have h1 : 0 ≤ (-x.toInt).tmod y.toInt := Int.tmod_nonneg _ (by omega)
  omega
/-- what more is known of a result -/
def yrv (op : Nat) (la ha lb hb : Int) : Option (Int × Int) := match op with
  | 3 => bif zeq lb hb && zle 0 lb && zin (la * lb) (ha * lb) then some (la * lb, ha * lb) else
      bif zeq la ha && zle 0 la && zin (la * lb) (la * hb) then some (la * lb, la * hb) else none
  | 4 => bif zle 0 la && zle 0 lb then some (0, zmin ha hb) else none
  | 6 => bif zle 0 la && zle 0 lb then (bif zle ha 255 && zle hb 255 then some (0, 255) else some (0, zI1)) else
      bif zle ha (.negSucc 0) && zle 0 lb then some (zI0, .negSucc 0) else none
  | 7 => bif zeq la 1 && zeq ha 1 && zle 0 lb && zle hb 7 then some (1, 128) else none
  | 11 => bif zle 1 lb then some ((bif zle 0 la then 0 else 1 - hb), (bif zle ha 0 then 0 else hb - 1)) else none
  | _ => none
theorem yrv_ok {op : Nat} {la ha lb hb l h : Int} {x y z : Int32} (hz : zop op x y = some z) (i1 : la ≤ x.toInt) (i2 : x.toInt ≤ ha) (j1 : lb ≤ y.toInt) (j2 : y.toInt ≤ hb) (h9 : yrv op la ha lb hb = some (l, h)) :
    l ≤ z.toInt ∧ z.toInt ≤ h := by
  unfold yrv at h9
  split at h9
  · cases hz
    simp only [Bool.cond_eq_ite] at h9
    split at h9
    · rename_i c
      cases h9
      simp only [Bool.and_eq_true, zeq_iff, zle_iff, zin_iff] at c
      obtain ⟨⟨c1, c2⟩, c3, c4⟩ := c
      have e : y.toInt = lb := by omega
      have m1 : la * lb ≤ x.toInt * lb := Int.mul_le_mul_of_nonneg_right i1 c2
      have m2 : x.toInt * lb ≤ ha * lb := Int.mul_le_mul_of_nonneg_right i2 c2
      rw [zmul_i (by rw [e]; omega) (by rw [e]; omega), e]
      exact ⟨m1, m2⟩
    · split at h9
      · rename_i c
        cases h9
        simp only [Bool.and_eq_true, zeq_iff, zle_iff, zin_iff] at c
        obtain ⟨⟨c1, c2⟩, c3, c4⟩ := c
        have e : x.toInt = la := by omega
        have m1 : la * lb ≤ la * y.toInt := Int.mul_le_mul_of_nonneg_left j1 c2
        have m2 : la * y.toInt ≤ la * hb := Int.mul_le_mul_of_nonneg_left j2 c2
        rw [zmul_i (by rw [e]; omega) (by rw [e]; omega), e]
        exact ⟨m1, m2⟩
      · cases h9
  · cases hz
    simp only [Bool.cond_eq_ite] at h9
    split at h9
    · rename_i c
      cases h9
      simp only [Bool.and_eq_true, zle_iff] at c
      obtain ⟨g1, g2, g3⟩ := yand (x := x) (y := y) (by omega) (by omega)
      exact ⟨g1, zmin_le.mpr ⟨by omega, by omega⟩⟩
    · cases h9
  · cases hz
    simp only [Bool.cond_eq_ite] at h9
    split at h9
    · rename_i c
      simp only [Bool.and_eq_true, zle_iff] at c
      obtain ⟨g1, g2⟩ := yxor (x := x) (y := y) (by omega) (by omega)
      split at h9
      · rename_i c2
        cases h9
        simp only [Bool.and_eq_true, zle_iff] at c2
        exact ⟨g1, g2 (by omega) (by omega)⟩
      · cases h9
        exact ⟨g1, (zI32 _).2⟩
    · split at h9
      · rename_i c
        cases h9
        simp only [Bool.and_eq_true, zle_iff] at c
        have hc := c.1
        rw [show (Int.negSucc 0) = -1 from rfl] at hc
        have := yxorn (x := x) (y := y) (by omega) (by omega)
        exact ⟨(zI32 _).1, by rw [show (Int.negSucc 0) = -1 from rfl]; omega⟩
      · cases h9
  · cases hz
    simp only [Bool.cond_eq_ite] at h9
    split at h9
    · rename_i c
      cases h9
      simp only [Bool.and_eq_true, zeq_iff, zle_iff] at c
      have e : x = 1 := Int32.toInt_inj.mp (by rw [show (1 : Int32).toInt = 1 from rfl]; omega)
      subst e
      exact yshl (by omega) (by omega)
    · cases h9
  · cases c : zle 1 lb with
    | false => rw [c] at h9; cases h9
    | true =>
      rw [c] at h9
      cases h9
      have c := zle_iff.mp c
      have hy0 : ¬ y = 0 := by
        rintro rfl
        rw [show (0 : Int32).toInt = 0 from rfl] at j1
        omega
      simp only [zop] at hz
      rw [if_neg hy0] at hz
      cases hz
      obtain ⟨g1, g2, g3, g4⟩ := yrem_b (x := x) (y := y) (by omega)
      constructor
      · cases c2 : zle 0 la with
        | true => have := zle_iff.mp c2; exact g1 (by omega)
        | false => simp only [cond_false]; omega
      · cases c2 : zle ha 0 with
        | true => have := zle_iff.mp c2; exact g2 (by omega)
        | false => simp only [cond_false]; omega
  · cases h9
def yr2 (k0 : Nat) (op : Nat) (a b c : zV) (la ha lb hb : Int) (F : zF) : Option zF := match op with
  | 1 => bif zin (la + lb) (ha + hb) then (match yas k0 F (zsh a lb) c with
    | none => none
    | some F1 => match yas k0 F1 (zsh b la) c with
      | none => none
      | some F2 => match yas k0 F2 c (zsh a hb) with
        | none => none
        | some F3 => yas k0 F3 c (zsh b ha)) else some F
  | 4 => bif zle 0 la && zle 0 lb then (match yas k0 F c a with
    | none => none
    | some F1 => yas k0 F1 c b) else some F
  | _ => some F
theorem yr2_ok {r : List Int} {k0 op : Nat} {a b c : zV} {la ha lb hb : Int} {F : zF} {x y z : Int32} (hF : zFok r F) (hx : zd r a = some x.toInt) (hy : zd r b = some y.toInt) (hc : zd r c = some z.toInt)
    (hz : zop op x y = some z) (i1 : la ≤ x.toInt) (i2 : x.toInt ≤ ha) (j1 : lb ≤ y.toInt) (j2 : y.toInt ≤ hb) : ∃ F', yr2 k0 op a b c la ha lb hb F = some F' ∧ zFok r F' := by
  unfold yr2
  split
  · cases hz
    rw [Bool.cond_eq_ite]
    split
    · rename_i c9
      obtain ⟨c1, c2⟩ := zin_iff.mp c9
      have e : (x + y).toInt = x.toInt + y.toInt := zadd_i (by omega) (by omega)
      obtain ⟨F1, e1, h1⟩ := yas_ok (k0 := k0) hF (zsh_d (n := lb) hx) hc (by omega)
      obtain ⟨F2, e2, h2⟩ := yas_ok (k0 := k0) h1 (zsh_d (n := la) hy) hc (by omega)
      obtain ⟨F3, e3, h3⟩ := yas_ok (k0 := k0) h2 hc (zsh_d (n := hb) hx) (by omega)
      rw [e1]
      simp only [e2, e3]
      exact yas_ok h3 hc (zsh_d (n := ha) hy) (by omega)
    · exact ⟨F, rfl, hF⟩
  · cases hz
    rw [Bool.cond_eq_ite]
    split
    · rename_i c9
      simp only [Bool.and_eq_true, zle_iff] at c9
      obtain ⟨g1, g2, g3⟩ := yand (x := x) (y := y) (by omega) (by omega)
      obtain ⟨F1, e1, h1⟩ := yas_ok (k0 := k0) hF hc hx g2
      rw [e1]
      exact yas_ok h1 hc hy g3
    · exact ⟨F, rfl, hF⟩
  · exact ⟨F, rfl, hF⟩
def ybi (k0 : Nat) (F : zF) (op : Nat) (a b : zV) : Option (zV × zF) := match zbi F op a b with
  | none => none
  | some (c, F1) => bif Nat.beq c.2.1 F.1 then (match zlh F a, zlh F b with
      | some (la, ha), some (lb, hb) => (match yr2 k0 op a b c la ha lb hb (match yrv op la ha lb hb with
          | some (l, h) => zfi l fun l => zfi h fun h => (F1.1, (c.2.1, l - c.2.2, h - c.2.2) :: F1.2.1, F1.2.2.1, F1.2.2.2)
          | none => F1) with
        | some F2 => some (c, F2)
        | none => none)
      | _, _ => some (c, F1)) else some (c, F1)
theorem ybi_ok {r : List Int} {k0 : Nat} {F F' : zF} {op : Nat} {a b c : zV} {x y : Int32} (hF : zFok r F) (hx : zd r a = some x.toInt) (hy : zd r b = some y.toInt) (h : ybi k0 F op a b = some (c, F')) :
    ∃ z r', zop op x y = some z ∧ zX r r' ∧ zFok r' F' ∧ zd r' c = some z.toInt ∧ c.1 = 1 := by
  unfold ybi at h
  split at h
  · cases h
  · rename_i c1 F1 e1
    obtain ⟨z, r', g1, g2, g3, g4, g5⟩ := zbi_ok hF hx hy e1
    rw [Bool.cond_eq_ite] at h
    split at h
    · split at h
      · rename_i la ha lb hb ea eb
        obtain ⟨i1, i2⟩ := zlh_ok hF ea hx
        obtain ⟨j1, j2⟩ := zlh_ok hF eb hy
        have hG : zFok r' (match yrv op la ha lb hb with
          | some (l, h) => zfi l fun l => zfi h fun h => (F1.1, (c1.2.1, l - c1.2.2, h - c1.2.2) :: F1.2.1, F1.2.2.1, F1.2.2.2)
          | none => F1) := by
          split
          · rename_i l h9 ev
            simp only [zfi_eq]
            obtain ⟨k1, k2⟩ := yrv_ok g1 i1 i2 j1 j2 ev
            obtain ⟨v, v1, v2⟩ := zd_some.mp g4
            exact g3.bd v1 (by omega) (by omega)
          · exact g3
        obtain ⟨F2, e2, h2⟩ := yr2_ok (k0 := k0) hG (g2.den hx) (g2.den hy) g4 g1 i1 i2 j1 j2
        rw [e2] at h
        cases h
        exact ⟨z, r', g1, g2, h2, g4, g5⟩
      · cases h
        exact ⟨z, r', g1, g2, g3, g4, g5⟩
    · cases h
      exact ⟨z, r', g1, g2, g3, g4, g5⟩
