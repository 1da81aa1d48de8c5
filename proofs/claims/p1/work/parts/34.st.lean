/-! comparing of states -/
def eV (a b : zV) : Bool := Nat.beq a.1 b.1 && (Nat.beq a.2.1 b.2.1 && zeq a.2.2 b.2.2)
theorem eV_ok {a b : zV} (h : eV a b = true) : a = b := by
  simp only [eV, Bool.and_eq_true, zbe, zeq_iff] at h
  obtain ⟨a1, a2, a3⟩ := a
  obtain ⟨b1, b2, b3⟩ := b
  obtain ⟨h1, h2, h3⟩ := h
  dsimp only at h1 h2 h3
  rw [h1, h2, h3]
def eLs {α : Type} (e : α → α → Bool) : List α → List α → Bool
  | [], [] => true
  | a :: l, b :: m => e a b && eLs e l m
  | _, _ => false
theorem eLs_ok {α : Type} {e : α → α → Bool} (he : ∀ a b, e a b = true → a = b) : ∀ {l m : List α}, eLs e l m = true → l = m
  | [], [], _ => rfl
  | a :: l, b :: m, h => by
    simp only [eLs, Bool.and_eq_true] at h
    rw [he a b h.1, eLs_ok he h.2]
  | [], _ :: _, h => by cases h
  | _ :: _, [], h => by cases h
def eR (a b : zR) : Bool := Nat.beq a.1 b.1 && (Nat.beq a.2.1 b.2.1 && (zeq a.2.2.1 b.2.2.1 && zeq a.2.2.2 b.2.2.2))
theorem eR_ok (a b : zR) (h : eR a b = true) : a = b := by
  simp only [eR, Bool.and_eq_true, zbe, zeq_iff] at h
  obtain ⟨a1, a2, a3, a4⟩ := a
  obtain ⟨b1, b2, b3, b4⟩ := b
  obtain ⟨h1, h2, h3, h4⟩ := h
  dsimp only at h1 h2 h3 h4
  rw [h1, h2, h3, h4]
def eE (a b : zV × zV) : Bool := eV a.1 b.1 && eV a.2 b.2
theorem eE_ok (a b : zV × zV) (h : eE a b = true) : a = b := by
  simp only [eE, Bool.and_eq_true] at h
  exact Prod.ext (eV_ok h.1) (eV_ok h.2)
def eC : zC → zC → Bool
  | .inl (t, n, b, es), .inl (t', n', b', es') => Nat.beq t t' && (Nat.beq n n' && (eLs eR b b' && eLs eE es es'))
  | .inr (c, fs), .inr (c', fs') => Nat.beq c c' && eLs eV fs fs'
  | _, _ => false
theorem eC_ok : ∀ (a b : zC), eC a b = true → a = b
  | .inl (t, n, b, es), .inl (t', n', b', es'), h => by
    simp only [eC, Bool.and_eq_true, zbe] at h
    rw [h.1, h.2.1, eLs_ok eR_ok h.2.2.1, eLs_ok eE_ok h.2.2.2]
  | .inr (c, fs), .inr (c', fs'), h => by
    simp only [eC, Bool.and_eq_true, zbe] at h
    rw [h.1, eLs_ok (fun a b h => eV_ok h) h.2]
  | .inl _, .inr _, h => by cases h
  | .inr _, .inl _, h => by cases h
def eT : (n : Nat) → zT zC n → zT zC n → Bool
  | 0, a, b => eC a b
  | n + 1, a, b => eT n (show zT zC n × zT zC n from a).1 (show zT zC n × zT zC n from b).1 && eT n (show zT zC n × zT zC n from a).2 (show zT zC n × zT zC n from b).2
theorem eT_ok : ∀ (n : Nat) (a b : zT zC n), eT n a b = true → a = b
  | 0, a, b, h => eC_ok a b h
  | n + 1, a, b, h => by
    simp only [eT, Bool.and_eq_true] at h
    exact Prod.ext (eT_ok n _ _ h.1) (eT_ok n _ _ h.2)
def eLc (a b : Nat × zV) : Bool := Nat.beq a.1 b.1 && eV a.2 b.2
theorem eLc_ok (a b : Nat × zV) (h : eLc a b = true) : a = b := by
  simp only [eLc, Bool.and_eq_true, zbe] at h
  exact Prod.ext h.1 (eV_ok h.2)
/-! the state behind the constructors (place 23 of the law) -/
def zE0 : mEnv := (zmt, zft_, fun _ => none, zxn)
def zd0 : zC := .inr (0, [])
def zt0 : (n : Nat) → zT zC n
  | 0 => zd0
  | n + 1 => zp2 (zt0 n) (zt0 n)
def zw1c_0 : zC := .inr (10, [(2, 1, 0), (2, 31, 0), (2, 61, 0), (2, 66, 0), (2, 70, 0), (2, 74, 0)])
def zw1c_1 : zC := .inr (9, [(2, 2, 0), (2, 3, 0), (2, 7, 0), (2, 8, 0), (2, 9, 0), (2, 10, 0), (2, 11, 0), (2, 12, 0), (2, 13, 0), (2, 17, 0), (2, 23, 0), (2, 25, 0), (2, 26, 0), (2, 29, 0), (1, 0, 4), (1, 0, 3), (1, 0, 4), (1, 0, 0)])
def zw1c_2 : zC := .inl (0, 7, [(7, 1, 0, 0)], [((1, 0, 5), (1, 0, 1)), ((1, 0, 3), (1, 0, 2)), ((1, 0, 2), (1, 0, 3)), ((1, 0, 1), (1, 0, 6)), ((1, 0, 0), (1, 0, 2))])
def zw1c_3 : zC := .inr (3, [(2, 4, 0), (2, 5, 0), (2, 6, 0), (1, 0, 0), (1, 0, 0)])
def zw1c_4 : zC := .inl (0, 120, [(120, 1, 0, 0)], [])
def zw1c_5 : zC := .inl (0, 120, [(120, 1, 0, 0)], [])
def zw1c_6 : zC := .inl (1, 121, [(121, 3, 0, 0)], [])
def zw1c_7 : zC := .inl (1, 10, [(10, 3, 0, 0)], [])
def zw1c_8 : zC := .inl (0, 2, [(2, 1, 0, 0)], [])
def zw1c_9 : zC := .inl (0, 512, [(512, 1, 0, 0)], [])
def zw1c_10 : zC := .inl (0, 8, [(8, 1, (-1), (-1))], [])
def zw1c_11 : zC := .inl (0, 8, [(8, 1, 0, 0)], [])
def zw1c_12 : zC := .inl (0, 8, [(8, 1, (-1), (-1))], [])
def zw1c_13 : zC := .inr (2, [(2, 14, 0), (2, 15, 0), (2, 16, 0), (1, 0, 0), (1, 0, 0), (1, 0, 0), (1, 0, 0), (1, 0, 0), (1, 0, 0), (1, 0, 0)])
def zw1c_14 : zC := .inl (0, 16, [(16, 1, 0, 0)], [])
def zw1c_15 : zC := .inl (0, 16, [(16, 1, 0, 0)], [])
def zw1c_16 : zC := .inl (0, 8, [(8, 1, 0, 0)], [])
def zw1c_17 : zC := .inr (7, [(2, 18, 0), (2, 19, 0), (2, 20, 0), (2, 21, 0), (2, 22, 0)])
def zw1c_18 : zC := .inl (0, 8, [(8, 1, 0, 0)], [])
def zw1c_19 : zC := .inl (0, 8, [(8, 1, 0, 0)], [])
def zw1c_20 : zC := .inl (0, 8, [(8, 1, 0, 0)], [])
def zw1c_21 : zC := .inl (0, 8, [(8, 1, 0, 0)], [])
def zw1c_22 : zC := .inl (0, 64, [(64, 1, 0, 0)], [])
def zw1c_23 : zC := .inr (4, [(2, 24, 0), (1, 0, 0)])
def zw1c_24 : zC := .inl (0, 9, [(9, 1, 0, 0)], [])
def zw1c_25 : zC := .inr (0, [(1, 0, 4), (1, 0, 0), (1, 0, 0), (1, 0, 0)])
def zw1c_26 : zC := .inr (5, [(2, 27, 0), (2, 28, 0)])
def zw1c_27 : zC := .inl (1, 9, [(9, 3, 0, 0)], [])
def zw1c_28 : zC := .inl (0, 3, [(3, 1, (-1), (-1))], [])
def zw1c_29 : zC := .inr (1, [(2, 30, 0), (1, 0, 0), (1, 0, 0)])
def zw1c_30 : zC := .inl (0, 256, [(256, 1, 0, 0)], [])
def zw1c_31 : zC := .inr (9, [(2, 32, 0), (2, 33, 0), (2, 37, 0), (2, 38, 0), (2, 39, 0), (2, 40, 0), (2, 41, 0), (2, 42, 0), (2, 43, 0), (2, 47, 0), (2, 53, 0), (2, 55, 0), (2, 56, 0), (2, 59, 0), (1, 0, 4), (1, 0, 3), (1, 0, 4), (1, 0, 0)])
def zw1c_32 : zC := .inl (0, 7, [(7, 1, 0, 0)], [((1, 0, 5), (1, 0, 1)), ((1, 0, 3), (1, 0, 2)), ((1, 0, 2), (1, 0, 3)), ((1, 0, 1), (1, 0, 6)), ((1, 0, 0), (1, 0, 2))])
def zw1c_33 : zC := .inr (3, [(2, 34, 0), (2, 35, 0), (2, 36, 0), (1, 0, 0), (1, 0, 0)])
def zw1c_34 : zC := .inl (0, 120, [(120, 1, 0, 0)], [])
def zw1c_35 : zC := .inl (0, 120, [(120, 1, 0, 0)], [])
def zw1c_36 : zC := .inl (1, 121, [(121, 3, 0, 0)], [])
def zw1c_37 : zC := .inl (1, 10, [(10, 3, 0, 0)], [])
def zw1c_38 : zC := .inl (0, 2, [(2, 1, 0, 0)], [])
def zw1c_39 : zC := .inl (0, 512, [(512, 1, 0, 0)], [])
def zw1c_40 : zC := .inl (0, 8, [(8, 1, (-1), (-1))], [])
def zw1c_41 : zC := .inl (0, 8, [(8, 1, 0, 0)], [])
def zw1c_42 : zC := .inl (0, 8, [(8, 1, (-1), (-1))], [])
def zw1c_43 : zC := .inr (2, [(2, 44, 0), (2, 45, 0), (2, 46, 0), (1, 0, 0), (1, 0, 0), (1, 0, 0), (1, 0, 0), (1, 0, 0), (1, 0, 0), (1, 0, 0)])
def zw1c_44 : zC := .inl (0, 16, [(16, 1, 0, 0)], [])
def zw1c_45 : zC := .inl (0, 16, [(16, 1, 0, 0)], [])
def zw1c_46 : zC := .inl (0, 8, [(8, 1, 0, 0)], [])
def zw1c_47 : zC := .inr (7, [(2, 48, 0), (2, 49, 0), (2, 50, 0), (2, 51, 0), (2, 52, 0)])
def zw1c_48 : zC := .inl (0, 8, [(8, 1, 0, 0)], [])
def zw1c_49 : zC := .inl (0, 8, [(8, 1, 0, 0)], [])
def zw1c_50 : zC := .inl (0, 8, [(8, 1, 0, 0)], [])
def zw1c_51 : zC := .inl (0, 8, [(8, 1, 0, 0)], [])
def zw1c_52 : zC := .inl (0, 64, [(64, 1, 0, 0)], [])
def zw1c_53 : zC := .inr (4, [(2, 54, 0), (1, 0, 0)])
def zw1c_54 : zC := .inl (0, 9, [(9, 1, 0, 0)], [])
def zw1c_55 : zC := .inr (0, [(1, 0, 4), (1, 0, 0), (1, 0, 0), (1, 0, 0)])
def zw1c_56 : zC := .inr (5, [(2, 57, 0), (2, 58, 0)])
def zw1c_57 : zC := .inl (1, 9, [(9, 3, 0, 0)], [])
def zw1c_58 : zC := .inl (0, 3, [(3, 1, (-1), (-1))], [])
def zw1c_59 : zC := .inr (1, [(2, 60, 0), (1, 0, 0), (1, 0, 0)])
def zw1c_60 : zC := .inl (0, 256, [(256, 1, 0, 0)], [])
def zw1c_61 : zC := .inr (6, [(2, 62, 0), (2, 63, 0), (2, 64, 0), (2, 65, 0), (1, 0, 0), (1, 0, 0), (1, 0, (-1)), (1, 0, 0)])
def zw1c_62 : zC := .inl (0, 201, [(201, 1, 0, 0)], [])
def zw1c_63 : zC := .inl (0, 201, [(201, 1, 0, 0)], [])
def zw1c_64 : zC := .inl (0, 201, [(201, 1, 0, 0)], [])
def zw1c_65 : zC := .inl (2, 300, [(300, 1, 0, 0)], [])
def zw1c_66 : zC := .inr (3, [(2, 67, 0), (2, 68, 0), (2, 69, 0), (1, 0, 0), (1, 0, 0)])
def zw1c_67 : zC := .inl (0, 120, [(120, 1, 0, 0)], [])
def zw1c_68 : zC := .inl (0, 120, [(120, 1, 0, 0)], [])
def zw1c_69 : zC := .inl (1, 121, [(121, 3, 0, 0)], [])
def zw1c_70 : zC := .inr (8, [(2, 71, 0), (2, 72, 0), (2, 73, 0), (1, 0, 0), (1, 0, 0), (1, 0, 0), (1, 0, 0), (1, 0, 0), (1, 0, 0)])
def zw1c_71 : zC := .inl (0, 500, [(500, 1, 0, 0)], [])
def zw1c_72 : zC := .inl (0, 5, [(5, 1, 0, 0)], [])
def zw1c_73 : zC := .inl (0, 5, [(5, 1, 0, 0)], [])
def zw1c_74 : zC := .inl (0, 3, [(3, 1, 0, 0)], [])
def zw1c_75 : zC := .inr (11, [(1, 0, 0), (2, 76, 0), (2, 77, 0), (2, 78, 0), (2, 79, 0), (1, 0, 4), (1, 0, 3), (1, 0, 4), (3, 0, 0), (3, 0, 0), (1, 0, 0), (1, 0, 0), (1, 0, 0), (2, 80, 0), (2, 81, 0), (2, 82, 0), (2, 83, 0), (1, 0, 0), (1, 0, 0), (1, 0, 0), (1, 0, 0), (1, 0, 0), (2, 81, 0), (1, 0, 0), (1, 0, 0), (1, 0, 0), (1, 0, (-1)), (1, 0, 0), (1, 0, 0), (1, 0, 0), (1, 0, 0), (1, 0, 0), (1, 0, 0), (1, 0, 0), (1, 0, 0)])
def zw1c_76 : zC := .inl (0, 3, [(3, 1, 0, 0)], [])
def zw1c_77 : zC := .inl (0, 969, [(20, 1, 0, 0), (27, 1, 0, 0), (969, 1, 0, 0)], [((1, 0, 134), (1, 0, (-1))), ((1, 0, 129), (1, 0, (-1))), ((1, 0, 127), (1, 0, (-1))), ((1, 0, 122), (1, 0, (-1))), ((1, 0, 120), (1, 0, (-1))), ((1, 0, 115), (1, 0, (-1))), ((1, 0, 113), (1, 0, (-1))), ((1, 0, 108), (1, 0, (-1))), ((1, 0, 106), (1, 0, (-1))), ((1, 0, 101), (1, 0, (-1))), ((1, 0, 99), (1, 0, (-1))), ((1, 0, 94), (1, 0, (-1))), ((1, 0, 92), (1, 0, (-1))), ((1, 0, 87), (1, 0, (-1))), ((1, 0, 85), (1, 0, (-1))), ((1, 0, 80), (1, 0, (-1))), ((1, 0, 41), (1, 0, (-1))), ((1, 0, 40), (1, 0, (-1))), ((1, 0, 39), (1, 0, (-1))), ((1, 0, 3), (1, 0, 4)), ((1, 0, 25), (1, 0, 1)), ((1, 0, 23), (1, 0, 2)), ((1, 0, 22), (1, 0, 3)), ((1, 0, 21), (1, 0, 6)), ((1, 0, 20), (1, 0, 2))])
def zw1c_78 : zC := .inl (0, 969, [(969, 1, 0, 0)], [])
def zw1c_79 : zC := .inl (0, 969, [(969, 1, 0, 0)], [])
def zw1c_80 : zC := .inl (2, 300, [(300, 1, 0, 0)], [])
def zw1c_81 : zC := .inl (0, 120, [(120, 1, 0, 0)], [])
def zw1c_82 : zC := .inl (0, 120, [(120, 1, 0, 0)], [])
def zw1c_83 : zC := .inl (0, 200, [(200, 1, 0, 0)], [])
def zw1c_84 : zC := .inl (1, 1, [(1, 3, 0, 0)], [])
def zw1t_000000 : zT zC 1 := zp2 (show zT zC 0 from zw1c_0) (show zT zC 0 from zw1c_64)
def zw1t_000001 : zT zC 1 := zp2 (show zT zC 0 from zw1c_32) (show zT zC 0 from zd0)
def zw1t_00000 : zT zC 2 := zp2 zw1t_000000 zw1t_000001
def zw1t_000010 : zT zC 1 := zp2 (show zT zC 0 from zw1c_16) (show zT zC 0 from zw1c_80)
def zw1t_000011 : zT zC 1 := zp2 (show zT zC 0 from zw1c_48) (show zT zC 0 from zd0)
def zw1t_00001 : zT zC 2 := zp2 zw1t_000010 zw1t_000011
def zw1t_0000 : zT zC 3 := zp2 zw1t_00000 zw1t_00001
def zw1t_000100 : zT zC 1 := zp2 (show zT zC 0 from zw1c_8) (show zT zC 0 from zw1c_72)
def zw1t_000101 : zT zC 1 := zp2 (show zT zC 0 from zw1c_40) (show zT zC 0 from zd0)
def zw1t_00010 : zT zC 2 := zp2 zw1t_000100 zw1t_000101
def zw1t_000110 : zT zC 1 := zp2 (show zT zC 0 from zw1c_24) (show zT zC 0 from zd0)
def zw1t_000111 : zT zC 1 := zp2 (show zT zC 0 from zw1c_56) (show zT zC 0 from zd0)
def zw1t_00011 : zT zC 2 := zp2 zw1t_000110 zw1t_000111
def zw1t_0001 : zT zC 3 := zp2 zw1t_00010 zw1t_00011
def zw1t_000 : zT zC 4 := zp2 zw1t_0000 zw1t_0001
def zw1t_001000 : zT zC 1 := zp2 (show zT zC 0 from zw1c_4) (show zT zC 0 from zw1c_68)
def zw1t_001001 : zT zC 1 := zp2 (show zT zC 0 from zw1c_36) (show zT zC 0 from zd0)
def zw1t_00100 : zT zC 2 := zp2 zw1t_001000 zw1t_001001
def zw1t_001010 : zT zC 1 := zp2 (show zT zC 0 from zw1c_20) (show zT zC 0 from zw1c_84)
def zw1t_001011 : zT zC 1 := zp2 (show zT zC 0 from zw1c_52) (show zT zC 0 from zd0)
def zw1t_00101 : zT zC 2 := zp2 zw1t_001010 zw1t_001011
def zw1t_0010 : zT zC 3 := zp2 zw1t_00100 zw1t_00101
def zw1t_001100 : zT zC 1 := zp2 (show zT zC 0 from zw1c_12) (show zT zC 0 from zw1c_76)
def zw1t_001101 : zT zC 1 := zp2 (show zT zC 0 from zw1c_44) (show zT zC 0 from zd0)
def zw1t_00110 : zT zC 2 := zp2 zw1t_001100 zw1t_001101
def zw1t_001110 : zT zC 1 := zp2 (show zT zC 0 from zw1c_28) (show zT zC 0 from zd0)
def zw1t_001111 : zT zC 1 := zp2 (show zT zC 0 from zw1c_60) (show zT zC 0 from zd0)
def zw1t_00111 : zT zC 2 := zp2 zw1t_001110 zw1t_001111
def zw1t_0011 : zT zC 3 := zp2 zw1t_00110 zw1t_00111
def zw1t_001 : zT zC 4 := zp2 zw1t_0010 zw1t_0011
def zw1t_00 : zT zC 5 := zp2 zw1t_000 zw1t_001
def zw1t_010000 : zT zC 1 := zp2 (show zT zC 0 from zw1c_2) (show zT zC 0 from zw1c_66)
def zw1t_010001 : zT zC 1 := zp2 (show zT zC 0 from zw1c_34) (show zT zC 0 from zd0)
def zw1t_01000 : zT zC 2 := zp2 zw1t_010000 zw1t_010001
def zw1t_010010 : zT zC 1 := zp2 (show zT zC 0 from zw1c_18) (show zT zC 0 from zw1c_82)
def zw1t_010011 : zT zC 1 := zp2 (show zT zC 0 from zw1c_50) (show zT zC 0 from zd0)
def zw1t_01001 : zT zC 2 := zp2 zw1t_010010 zw1t_010011
def zw1t_0100 : zT zC 3 := zp2 zw1t_01000 zw1t_01001
def zw1t_010100 : zT zC 1 := zp2 (show zT zC 0 from zw1c_10) (show zT zC 0 from zw1c_74)
def zw1t_010101 : zT zC 1 := zp2 (show zT zC 0 from zw1c_42) (show zT zC 0 from zd0)
def zw1t_01010 : zT zC 2 := zp2 zw1t_010100 zw1t_010101
def zw1t_010110 : zT zC 1 := zp2 (show zT zC 0 from zw1c_26) (show zT zC 0 from zd0)
def zw1t_010111 : zT zC 1 := zp2 (show zT zC 0 from zw1c_58) (show zT zC 0 from zd0)
def zw1t_01011 : zT zC 2 := zp2 zw1t_010110 zw1t_010111
def zw1t_0101 : zT zC 3 := zp2 zw1t_01010 zw1t_01011
def zw1t_010 : zT zC 4 := zp2 zw1t_0100 zw1t_0101
def zw1t_011000 : zT zC 1 := zp2 (show zT zC 0 from zw1c_6) (show zT zC 0 from zw1c_70)
def zw1t_011001 : zT zC 1 := zp2 (show zT zC 0 from zw1c_38) (show zT zC 0 from zd0)
def zw1t_01100 : zT zC 2 := zp2 zw1t_011000 zw1t_011001
def zw1t_011010 : zT zC 1 := zp2 (show zT zC 0 from zw1c_22) (show zT zC 0 from zd0)
def zw1t_011011 : zT zC 1 := zp2 (show zT zC 0 from zw1c_54) (show zT zC 0 from zd0)
def zw1t_01101 : zT zC 2 := zp2 zw1t_011010 zw1t_011011
def zw1t_0110 : zT zC 3 := zp2 zw1t_01100 zw1t_01101
def zw1t_011100 : zT zC 1 := zp2 (show zT zC 0 from zw1c_14) (show zT zC 0 from zw1c_78)
def zw1t_011101 : zT zC 1 := zp2 (show zT zC 0 from zw1c_46) (show zT zC 0 from zd0)
def zw1t_01110 : zT zC 2 := zp2 zw1t_011100 zw1t_011101
def zw1t_011110 : zT zC 1 := zp2 (show zT zC 0 from zw1c_30) (show zT zC 0 from zd0)
def zw1t_011111 : zT zC 1 := zp2 (show zT zC 0 from zw1c_62) (show zT zC 0 from zd0)
def zw1t_01111 : zT zC 2 := zp2 zw1t_011110 zw1t_011111
def zw1t_0111 : zT zC 3 := zp2 zw1t_01110 zw1t_01111
def zw1t_011 : zT zC 4 := zp2 zw1t_0110 zw1t_0111
def zw1t_01 : zT zC 5 := zp2 zw1t_010 zw1t_011
def zw1t_0 : zT zC 6 := zp2 zw1t_00 zw1t_01
def zw1t_100000 : zT zC 1 := zp2 (show zT zC 0 from zw1c_1) (show zT zC 0 from zw1c_65)
def zw1t_100001 : zT zC 1 := zp2 (show zT zC 0 from zw1c_33) (show zT zC 0 from zd0)
def zw1t_10000 : zT zC 2 := zp2 zw1t_100000 zw1t_100001
def zw1t_100010 : zT zC 1 := zp2 (show zT zC 0 from zw1c_17) (show zT zC 0 from zw1c_81)
def zw1t_100011 : zT zC 1 := zp2 (show zT zC 0 from zw1c_49) (show zT zC 0 from zd0)
def zw1t_10001 : zT zC 2 := zp2 zw1t_100010 zw1t_100011
def zw1t_1000 : zT zC 3 := zp2 zw1t_10000 zw1t_10001
def zw1t_100100 : zT zC 1 := zp2 (show zT zC 0 from zw1c_9) (show zT zC 0 from zw1c_73)
def zw1t_100101 : zT zC 1 := zp2 (show zT zC 0 from zw1c_41) (show zT zC 0 from zd0)
def zw1t_10010 : zT zC 2 := zp2 zw1t_100100 zw1t_100101
def zw1t_100110 : zT zC 1 := zp2 (show zT zC 0 from zw1c_25) (show zT zC 0 from zd0)
def zw1t_100111 : zT zC 1 := zp2 (show zT zC 0 from zw1c_57) (show zT zC 0 from zd0)
def zw1t_10011 : zT zC 2 := zp2 zw1t_100110 zw1t_100111
def zw1t_1001 : zT zC 3 := zp2 zw1t_10010 zw1t_10011
def zw1t_100 : zT zC 4 := zp2 zw1t_1000 zw1t_1001
def zw1t_101000 : zT zC 1 := zp2 (show zT zC 0 from zw1c_5) (show zT zC 0 from zw1c_69)
def zw1t_101001 : zT zC 1 := zp2 (show zT zC 0 from zw1c_37) (show zT zC 0 from zd0)
def zw1t_10100 : zT zC 2 := zp2 zw1t_101000 zw1t_101001
def zw1t_101010 : zT zC 1 := zp2 (show zT zC 0 from zw1c_21) (show zT zC 0 from zd0)
def zw1t_101011 : zT zC 1 := zp2 (show zT zC 0 from zw1c_53) (show zT zC 0 from zd0)
def zw1t_10101 : zT zC 2 := zp2 zw1t_101010 zw1t_101011
def zw1t_1010 : zT zC 3 := zp2 zw1t_10100 zw1t_10101
def zw1t_101100 : zT zC 1 := zp2 (show zT zC 0 from zw1c_13) (show zT zC 0 from zw1c_77)
def zw1t_101101 : zT zC 1 := zp2 (show zT zC 0 from zw1c_45) (show zT zC 0 from zd0)
def zw1t_10110 : zT zC 2 := zp2 zw1t_101100 zw1t_101101
def zw1t_101110 : zT zC 1 := zp2 (show zT zC 0 from zw1c_29) (show zT zC 0 from zd0)
def zw1t_101111 : zT zC 1 := zp2 (show zT zC 0 from zw1c_61) (show zT zC 0 from zd0)
def zw1t_10111 : zT zC 2 := zp2 zw1t_101110 zw1t_101111
def zw1t_1011 : zT zC 3 := zp2 zw1t_10110 zw1t_10111
def zw1t_101 : zT zC 4 := zp2 zw1t_1010 zw1t_1011
def zw1t_10 : zT zC 5 := zp2 zw1t_100 zw1t_101
def zw1t_110000 : zT zC 1 := zp2 (show zT zC 0 from zw1c_3) (show zT zC 0 from zw1c_67)
def zw1t_110001 : zT zC 1 := zp2 (show zT zC 0 from zw1c_35) (show zT zC 0 from zd0)
def zw1t_11000 : zT zC 2 := zp2 zw1t_110000 zw1t_110001
def zw1t_110010 : zT zC 1 := zp2 (show zT zC 0 from zw1c_19) (show zT zC 0 from zw1c_83)
def zw1t_110011 : zT zC 1 := zp2 (show zT zC 0 from zw1c_51) (show zT zC 0 from zd0)
def zw1t_11001 : zT zC 2 := zp2 zw1t_110010 zw1t_110011
def zw1t_1100 : zT zC 3 := zp2 zw1t_11000 zw1t_11001
def zw1t_110100 : zT zC 1 := zp2 (show zT zC 0 from zw1c_11) (show zT zC 0 from zw1c_75)
def zw1t_110101 : zT zC 1 := zp2 (show zT zC 0 from zw1c_43) (show zT zC 0 from zd0)
def zw1t_11010 : zT zC 2 := zp2 zw1t_110100 zw1t_110101
def zw1t_110110 : zT zC 1 := zp2 (show zT zC 0 from zw1c_27) (show zT zC 0 from zd0)
def zw1t_110111 : zT zC 1 := zp2 (show zT zC 0 from zw1c_59) (show zT zC 0 from zd0)
def zw1t_11011 : zT zC 2 := zp2 zw1t_110110 zw1t_110111
def zw1t_1101 : zT zC 3 := zp2 zw1t_11010 zw1t_11011
def zw1t_110 : zT zC 4 := zp2 zw1t_1100 zw1t_1101
def zw1t_111000 : zT zC 1 := zp2 (show zT zC 0 from zw1c_7) (show zT zC 0 from zw1c_71)
def zw1t_111001 : zT zC 1 := zp2 (show zT zC 0 from zw1c_39) (show zT zC 0 from zd0)
def zw1t_11100 : zT zC 2 := zp2 zw1t_111000 zw1t_111001
def zw1t_111010 : zT zC 1 := zp2 (show zT zC 0 from zw1c_23) (show zT zC 0 from zd0)
def zw1t_111011 : zT zC 1 := zp2 (show zT zC 0 from zw1c_55) (show zT zC 0 from zd0)
def zw1t_11101 : zT zC 2 := zp2 zw1t_111010 zw1t_111011
def zw1t_1110 : zT zC 3 := zp2 zw1t_11100 zw1t_11101
def zw1t_111100 : zT zC 1 := zp2 (show zT zC 0 from zw1c_15) (show zT zC 0 from zw1c_79)
def zw1t_111101 : zT zC 1 := zp2 (show zT zC 0 from zw1c_47) (show zT zC 0 from zd0)
def zw1t_11110 : zT zC 2 := zp2 zw1t_111100 zw1t_111101
def zw1t_111110 : zT zC 1 := zp2 (show zT zC 0 from zw1c_31) (show zT zC 0 from zd0)
def zw1t_111111 : zT zC 1 := zp2 (show zT zC 0 from zw1c_63) (show zT zC 0 from zd0)
def zw1t_11111 : zT zC 2 := zp2 zw1t_111110 zw1t_111111
def zw1t_1111 : zT zC 3 := zp2 zw1t_11110 zw1t_11111
def zw1t_111 : zT zC 4 := zp2 zw1t_1110 zw1t_1111
def zw1t_11 : zT zC 5 := zp2 zw1t_110 zw1t_111
def zw1t_1 : zT zC 6 := zp2 zw1t_10 zw1t_11
def zw1 : zT zC 7 := zp2 zw1t_0 zw1t_1
def zl1 : zL := [(0, (2, 1000, 0)), (1, (2, 0, 0)), (2, (2, 75, 0)), (3, (2, 84, 0)), (4, (1, 0, 0))]
/-- the same locals, whatever their order -/
def eLo (a b : zL) : Bool := b.all fun q => (match zld a q.1 with | some v => eV v q.2 | none => false)
theorem eLo_ok {r : List Int} {ls : mLs} {a b : zL} (h : eLo a b = true) (hl : zls r ls a) : zls r ls b := by
  intro i v e
  have hm : (i, v) ∈ b := by
    clear h hl
    induction b with
    | nil => cases e
    | cons q b ih =>
      unfold zld at e
      cases c : Nat.beq q.1 i with
      | true => rw [c] at e; simp only [cond_true, Option.some.injEq] at e; obtain rfl := zbe.mp c; rw [← e]; exact List.mem_cons_self
      | false => rw [c] at e; exact List.mem_cons_of_mem _ (ih e)
  have := List.all_eq_true.mp h _ hm
  dsimp only at this
  split at this
  · rename_i v' e'
    rw [eV_ok this] at e'
    exact hl i v e'
  · cases this
def zst0 : zQ := fun _ => none
def eS1 (s : zP) : Bool := Nat.beq s.1 23 && (eLo s.2.1 zl1 && (s.2.2.1.isEmpty && (Nat.beq s.2.2.2.1.1 1 && (Nat.beq s.2.2.2.2.1.1 85 && (eT 7 s.2.2.2.2.1.2 zw1 && (Nat.ble s.2.2.2.2.2.1 1000 && Nat.ble s.2.2.2.2.2.2 100000))))))
def zsq1b : Bool := match ygo zE0 zst0 100 zcon4 (fun pc => Nat.beq pc 23) 100000 1000 1000 300 zm_300 zm_300.2.2.2.2.1 0 [(0, (2, 1000, 0))] [] (1, [], [], []) (0, zt0 7) 0 0 with
  | some [s] => eS1 s
  | _ => false
set_option maxRecDepth 1000000 in
theorem zsq1 : zsq1b = true := by decide +kernel
