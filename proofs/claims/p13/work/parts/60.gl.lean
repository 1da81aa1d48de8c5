/-! the checks at this class: what is common to them -/
def yEx (f : Nat → Option (Nat × Nat × (Nat → Value))) : mEnv := (zmt, zft_, f, zxn)
def yE0 : mEnv := (zmt, zft_, fun _ => none, zxn)
/-- the rows of all methods stand in order -/
def yzs : (n : Nat) → zT (Option mMeth) n → Bool
  | 0, t => (match (show Option mMeth from t) with
    | none => true
    | some M => zsr M.2.2.2.2.1)
  | n + 1, t => yzs n (show zT (Option mMeth) n × zT (Option mMeth) n from t).1 && yzs n (show zT (Option mMeth) n × zT (Option mMeth) n from t).2
theorem yzs_ok : ∀ {n : Nat} {t : zT (Option mMeth) n} {i : Nat} {M : mMeth}, yzs n t = true → ztg n t i = some M → zsr M.2.2.2.2.1 = true
  | 0, t, i, M, h, e => by
    have e' : (show Option mMeth from t) = some M := e
    unfold yzs at h
    rw [e'] at h
    exact h
  | n + 1, t, i, M, h, e => by
    unfold yzs at h
    simp only [Bool.and_eq_true] at h
    unfold ztg at e
    cases c : Nat.beq (Nat.mod i 2) 0 with
    | true => rw [c] at e; exact yzs_ok h.1 e
    | false => rw [c] at e; exact yzs_ok h.2 e
theorem yzs_all : yzs 9 zm_t = true := by decide +kernel
theorem zmt_sr9 {mi : Nat} {M : mMeth} (h : zmt mi = some M) : zsr M.2.2.2.2.1 = true := by
  unfold zmt at h
  cases c : Nat.ble mi 511 with
  | false => rw [c] at h; cases h
  | true => rw [c] at h; exact yzs_ok yzs_all h
theorem yrn_env {a : Nat → Option mMeth} {b : Nat → List FieldType} {c c' : Nat → Option (Nat × Nat × (Nat → Value))} {e : Nat → String} {k0 : Nat} {ro : yQ} {Y : zT yC 7} {K : List (Nat × yK)} {N : Nat} {mods : List (Nat × Nat × Nat)} {con : yCo} {hk : yHk} {prm : yPm} {inl : Nat → List zV → zF → List yE → Bool} :
    ∀ n, yrn (a, b, c, e) k0 ro Y K N mods con hk prm inl n = yrn (a, b, c', e) k0 ro Y K N mods con hk prm inl n := by
  intro n
  induction n with
  | zero => rfl
  | succ n ih =>
    funext d stop mi M cur hd pc ls st F es P dc
    unfold yrn
    rw [ih]
theorem yck_env {f : Nat → Option (Nat × Nat × (Nat → Value))} {ro : yQ} {Y : zT yC 7} {K : List (Nat × yK)} {N : Nat} {con : Nat → yCo} {hk : List (Nat × Nat) → yHk} {prm : yPm} {inl : Nat → List zV → zF → List yE → Bool} {sy : ySyn} {fuel d mi : Nat} {M : mMeth} {stop : Nat → Nat → Bool} {c : yKt} {outs : List (yU × List ySr)} {cuts : List yTp}
    (h : yck yE0 ro Y K N con hk prm inl sy fuel d mi M stop c outs cuts = true) : yck (yEx f) ro Y K N con hk prm inl sy fuel d mi M stop c outs cuts = true := by
  unfold yck yckS yckL at h ⊢
  unfold yE0 at h
  unfold yEx
  have e : ∀ k0 mods con9 hk9, yrn (zmt, zft_, f, zxn) k0 ro Y K N mods con9 hk9 prm inl fuel = yrn (zmt, zft_, fun _ => none, zxn) k0 ro Y K N mods con9 hk9 prm inl fuel := fun k0 mods con9 hk9 => yrn_env fuel
  simp only [e]
  exact h
def yYt_000000 : zT (yC) 1 := zp2 (show zT (yC) 0 from (0, 10, 6, 0)) (show zT (yC) 0 from (1, 0, 201, 33))
def yYt_n0 : zT (yC) 0 := (2, 0, 0, 0)
def yYt_000001 : zT (yC) 1 := zp2 (show zT (yC) 0 from (1, 0, 7, 2)) yYt_n0
def yYt_00000 : zT (yC) 2 := zp2 yYt_000000 yYt_000001
def yYt_000010 : zT (yC) 1 := zp2 (show zT (yC) 0 from (1, 0, 8, 11)) (show zT (yC) 0 from (1, 2, 300, 34))
def yYt_000011 : zT (yC) 1 := zp2 (show zT (yC) 0 from (1, 0, 8, 15)) yYt_n0
def yYt_00001 : zT (yC) 2 := zp2 yYt_000010 yYt_000011
def yYt_0000 : zT (yC) 3 := zp2 yYt_00000 yYt_00001
def yYt_000100 : zT (yC) 1 := zp2 (show zT (yC) 0 from (1, 0, 2, 8)) (show zT (yC) 0 from (1, 0, 5, 38))
def yYt_000101 : zT (yC) 1 := zp2 (show zT (yC) 0 from (1, 0, 8, 10)) yYt_n0
def yYt_00010 : zT (yC) 2 := zp2 yYt_000100 yYt_000101
def yYt_000110 : zT (yC) 1 := zp2 (show zT (yC) 0 from (1, 0, 9, 18)) yYt_n0
def yYt_000111 : zT (yC) 1 := zp2 (show zT (yC) 0 from (0, 5, 2, 30)) yYt_n0
def yYt_00011 : zT (yC) 2 := zp2 yYt_000110 yYt_000111
def yYt_0001 : zT (yC) 3 := zp2 yYt_00010 yYt_00011
def yYt_000 : zT (yC) 4 := zp2 yYt_0000 yYt_0001
def yYt_001000 : zT (yC) 1 := zp2 (show zT (yC) 0 from (1, 0, 120, 4)) (show zT (yC) 0 from (1, 0, 120, 5))
def yYt_001001 : zT (yC) 1 := zp2 (show zT (yC) 0 from (1, 1, 121, 6)) yYt_n0
def yYt_00100 : zT (yC) 2 := zp2 yYt_001000 yYt_001001
def yYt_001010 : zT (yC) 1 := zp2 (show zT (yC) 0 from (1, 0, 8, 11)) (show zT (yC) 0 from (1, 1, 1, 43))
def yYt_001011 : zT (yC) 1 := zp2 (show zT (yC) 0 from (1, 0, 64, 16)) yYt_n0
def yYt_00101 : zT (yC) 2 := zp2 yYt_001010 yYt_001011
def yYt_0010 : zT (yC) 3 := zp2 yYt_00100 yYt_00101
def yYt_001100 : zT (yC) 1 := zp2 (show zT (yC) 0 from (1, 0, 8, 10)) (show zT (yC) 0 from (1, 0, 3, 22))
def yYt_001101 : zT (yC) 1 := zp2 (show zT (yC) 0 from (1, 0, 16, 13)) yYt_n0
def yYt_00110 : zT (yC) 2 := zp2 yYt_001100 yYt_001101
def yYt_001110 : zT (yC) 1 := zp2 (show zT (yC) 0 from (1, 0, 3, 22)) yYt_n0
def yYt_001111 : zT (yC) 1 := zp2 (show zT (yC) 0 from (1, 0, 256, 24)) yYt_n0
def yYt_00111 : zT (yC) 2 := zp2 yYt_001110 yYt_001111
def yYt_0011 : zT (yC) 3 := zp2 yYt_00110 yYt_00111
def yYt_001 : zT (yC) 4 := zp2 yYt_0010 yYt_0011
def yYt_00 : zT (yC) 5 := zp2 yYt_000 yYt_001
def yYt_010000 : zT (yC) 1 := zp2 (show zT (yC) 0 from (1, 0, 7, 2)) (show zT (yC) 0 from (0, 3, 5, 35))
def yYt_010001 : zT (yC) 1 := zp2 (show zT (yC) 0 from (1, 0, 120, 4)) yYt_n0
def yYt_01000 : zT (yC) 2 := zp2 yYt_010000 yYt_010001
def yYt_010010 : zT (yC) 1 := zp2 (show zT (yC) 0 from (1, 0, 8, 15)) (show zT (yC) 0 from (1, 0, 120, 4))
def yYt_010011 : zT (yC) 1 := zp2 (show zT (yC) 0 from (1, 0, 8, 11)) yYt_n0
def yYt_01001 : zT (yC) 2 := zp2 yYt_010010 yYt_010011
def yYt_0100 : zT (yC) 3 := zp2 yYt_01000 yYt_01001
def yYt_010100 : zT (yC) 1 := zp2 (show zT (yC) 0 from (1, 0, 8, 10)) (show zT (yC) 0 from (1, 0, 3, 22))
def yYt_010101 : zT (yC) 1 := zp2 (show zT (yC) 0 from (1, 0, 8, 10)) yYt_n0
def yYt_01010 : zT (yC) 2 := zp2 yYt_010100 yYt_010101
def yYt_010110 : zT (yC) 1 := zp2 (show zT (yC) 0 from (0, 5, 2, 20)) yYt_n0
def yYt_010111 : zT (yC) 1 := zp2 (show zT (yC) 0 from (1, 0, 3, 22)) yYt_n0
def yYt_01011 : zT (yC) 2 := zp2 yYt_010110 yYt_010111
def yYt_0101 : zT (yC) 3 := zp2 yYt_01010 yYt_01011
def yYt_010 : zT (yC) 4 := zp2 yYt_0100 yYt_0101
def yYt_011000 : zT (yC) 1 := zp2 (show zT (yC) 0 from (1, 1, 121, 6)) (show zT (yC) 0 from (0, 8, 9, 36))
def yYt_011001 : zT (yC) 1 := zp2 (show zT (yC) 0 from (1, 0, 2, 8)) yYt_n0
def yYt_01100 : zT (yC) 2 := zp2 yYt_011000 yYt_011001
def yYt_011010 : zT (yC) 1 := zp2 (show zT (yC) 0 from (1, 0, 64, 16)) yYt_n0
def yYt_011011 : zT (yC) 1 := zp2 (show zT (yC) 0 from (1, 0, 9, 18)) yYt_n0
def yYt_01101 : zT (yC) 2 := zp2 yYt_011010 yYt_011011
def yYt_0110 : zT (yC) 3 := zp2 yYt_01100 yYt_01101
def yYt_011100 : zT (yC) 1 := zp2 (show zT (yC) 0 from (1, 0, 16, 13)) (show zT (yC) 0 from (1, 0, 969, 41))
def yYt_011101 : zT (yC) 1 := zp2 (show zT (yC) 0 from (1, 0, 8, 11)) yYt_n0
def yYt_01110 : zT (yC) 2 := zp2 yYt_011100 yYt_011101
def yYt_011110 : zT (yC) 1 := zp2 (show zT (yC) 0 from (1, 0, 256, 24)) yYt_n0
def yYt_011111 : zT (yC) 1 := zp2 (show zT (yC) 0 from (1, 0, 201, 33)) yYt_n0
def yYt_01111 : zT (yC) 2 := zp2 yYt_011110 yYt_011111
def yYt_0111 : zT (yC) 3 := zp2 yYt_01110 yYt_01111
def yYt_011 : zT (yC) 4 := zp2 yYt_0110 yYt_0111
def yYt_01 : zT (yC) 5 := zp2 yYt_010 yYt_011
def yYt_0 : zT (yC) 6 := zp2 yYt_00 yYt_01
def yYt_100000 : zT (yC) 1 := zp2 (show zT (yC) 0 from (0, 9, 18, 1)) (show zT (yC) 0 from (1, 2, 300, 34))
def yYt_100001 : zT (yC) 1 := zp2 (show zT (yC) 0 from (0, 3, 5, 26)) yYt_n0
def yYt_10000 : zT (yC) 2 := zp2 yYt_100000 yYt_100001
def yYt_100010 : zT (yC) 1 := zp2 (show zT (yC) 0 from (0, 7, 5, 14)) (show zT (yC) 0 from (1, 0, 120, 4))
def yYt_100011 : zT (yC) 1 := zp2 (show zT (yC) 0 from (1, 0, 8, 11)) yYt_n0
def yYt_10001 : zT (yC) 2 := zp2 yYt_100010 yYt_100011
def yYt_1000 : zT (yC) 3 := zp2 yYt_10000 yYt_10001
def yYt_100100 : zT (yC) 1 := zp2 (show zT (yC) 0 from (1, 0, 512, 9)) (show zT (yC) 0 from (1, 0, 5, 39))
def yYt_100101 : zT (yC) 1 := zp2 (show zT (yC) 0 from (1, 0, 8, 11)) yYt_n0
def yYt_10010 : zT (yC) 2 := zp2 yYt_100100 yYt_100101
def yYt_100110 : zT (yC) 1 := zp2 (show zT (yC) 0 from (0, 0, 4, 19)) yYt_n0
def yYt_100111 : zT (yC) 1 := zp2 (show zT (yC) 0 from (1, 1, 9, 21)) yYt_n0
def yYt_10011 : zT (yC) 2 := zp2 yYt_100110 yYt_100111
def yYt_1001 : zT (yC) 3 := zp2 yYt_10010 yYt_10011
def yYt_100 : zT (yC) 4 := zp2 yYt_1000 yYt_1001
def yYt_101000 : zT (yC) 1 := zp2 (show zT (yC) 0 from (1, 0, 120, 5)) (show zT (yC) 0 from (1, 1, 121, 6))
def yYt_101001 : zT (yC) 1 := zp2 (show zT (yC) 0 from (1, 1, 10, 7)) yYt_n0
def yYt_10100 : zT (yC) 2 := zp2 yYt_101000 yYt_101001
def yYt_101010 : zT (yC) 1 := zp2 (show zT (yC) 0 from (1, 0, 8, 11)) yYt_n0
def yYt_101011 : zT (yC) 1 := zp2 (show zT (yC) 0 from (0, 4, 2, 29)) yYt_n0
def yYt_10101 : zT (yC) 2 := zp2 yYt_101010 yYt_101011
def yYt_1010 : zT (yC) 3 := zp2 yYt_10100 yYt_10101
def yYt_101100 : zT (yC) 1 := zp2 (show zT (yC) 0 from (0, 2, 10, 12)) (show zT (yC) 0 from (1, 0, 969, 41))
def yYt_101101 : zT (yC) 1 := zp2 (show zT (yC) 0 from (1, 0, 16, 13)) yYt_n0
def yYt_10110 : zT (yC) 2 := zp2 yYt_101100 yYt_101101
def yYt_101110 : zT (yC) 1 := zp2 (show zT (yC) 0 from (0, 1, 3, 23)) yYt_n0
def yYt_101111 : zT (yC) 1 := zp2 (show zT (yC) 0 from (0, 6, 8, 32)) yYt_n0
def yYt_10111 : zT (yC) 2 := zp2 yYt_101110 yYt_101111
def yYt_1011 : zT (yC) 3 := zp2 yYt_10110 yYt_10111
def yYt_101 : zT (yC) 4 := zp2 yYt_1010 yYt_1011
def yYt_10 : zT (yC) 5 := zp2 yYt_100 yYt_101
def yYt_110000 : zT (yC) 1 := zp2 (show zT (yC) 0 from (0, 3, 5, 3)) (show zT (yC) 0 from (1, 0, 120, 4))
def yYt_110001 : zT (yC) 1 := zp2 (show zT (yC) 0 from (1, 0, 120, 5)) yYt_n0
def yYt_11000 : zT (yC) 2 := zp2 yYt_110000 yYt_110001
def yYt_110010 : zT (yC) 1 := zp2 (show zT (yC) 0 from (1, 0, 8, 11)) (show zT (yC) 0 from (1, 0, 200, 42))
def yYt_110011 : zT (yC) 1 := zp2 (show zT (yC) 0 from (1, 0, 8, 11)) yYt_n0
def yYt_11001 : zT (yC) 2 := zp2 yYt_110010 yYt_110011
def yYt_1100 : zT (yC) 3 := zp2 yYt_11000 yYt_11001
def yYt_110100 : zT (yC) 1 := zp2 (show zT (yC) 0 from (1, 0, 8, 11)) (show zT (yC) 0 from (0, 11, 35, 40))
def yYt_110101 : zT (yC) 1 := zp2 (show zT (yC) 0 from (0, 2, 10, 27)) yYt_n0
def yYt_11010 : zT (yC) 2 := zp2 yYt_110100 yYt_110101
def yYt_110110 : zT (yC) 1 := zp2 (show zT (yC) 0 from (1, 1, 9, 21)) yYt_n0
def yYt_110111 : zT (yC) 1 := zp2 (show zT (yC) 0 from (0, 1, 3, 31)) yYt_n0
def yYt_11011 : zT (yC) 2 := zp2 yYt_110110 yYt_110111
def yYt_1101 : zT (yC) 3 := zp2 yYt_11010 yYt_11011
def yYt_110 : zT (yC) 4 := zp2 yYt_1100 yYt_1101
def yYt_111000 : zT (yC) 1 := zp2 (show zT (yC) 0 from (1, 1, 10, 7)) (show zT (yC) 0 from (1, 0, 500, 37))
def yYt_111001 : zT (yC) 1 := zp2 (show zT (yC) 0 from (1, 0, 512, 9)) yYt_n0
def yYt_11100 : zT (yC) 2 := zp2 yYt_111000 yYt_111001
def yYt_111010 : zT (yC) 1 := zp2 (show zT (yC) 0 from (0, 4, 2, 17)) yYt_n0
def yYt_111011 : zT (yC) 1 := zp2 (show zT (yC) 0 from (0, 0, 4, 19)) yYt_n0
def yYt_11101 : zT (yC) 2 := zp2 yYt_111010 yYt_111011
def yYt_1110 : zT (yC) 3 := zp2 yYt_11100 yYt_11101
def yYt_111100 : zT (yC) 1 := zp2 (show zT (yC) 0 from (1, 0, 16, 13)) (show zT (yC) 0 from (1, 0, 969, 41))
def yYt_111101 : zT (yC) 1 := zp2 (show zT (yC) 0 from (0, 7, 5, 28)) yYt_n0
def yYt_11110 : zT (yC) 2 := zp2 yYt_111100 yYt_111101
def yYt_111110 : zT (yC) 1 := zp2 (show zT (yC) 0 from (0, 9, 18, 25)) yYt_n0
def yYt_111111 : zT (yC) 1 := zp2 (show zT (yC) 0 from (1, 0, 201, 33)) yYt_n0
def yYt_11111 : zT (yC) 2 := zp2 yYt_111110 yYt_111111
def yYt_1111 : zT (yC) 3 := zp2 yYt_11110 yYt_11111
def yYt_111 : zT (yC) 4 := zp2 yYt_1110 yYt_1111
def yYt_11 : zT (yC) 5 := zp2 yYt_110 yYt_111
def yYt_1 : zT (yC) 6 := zp2 yYt_10 yYt_11
def yYt : zT (yC) 7 := zp2 yYt_0 yYt_1
def yY : zT yC 7 := yYt
def yK_0 : yK := ([(1, 2, 1, 1), (2, 2, 31, 31), (3, 2, 61, 61), (4, 2, 66, 66), (5, 2, 70, 70), (6, 2, 74, 74)], [])
def yK_1 : yK := ([(1, 2, 2, 2), (2, 2, 3, 3), (3, 2, 7, 7), (4, 2, 8, 8), (5, 2, 9, 9), (6, 2, 10, 10), (7, 2, 11, 11), (8, 2, 12, 12), (9, 2, 13, 13), (10, 2, 17, 17), (11, 2, 23, 23), (12, 2, 25, 25), (13, 2, 26, 26), (14, 2, 29, 29), (15, 1, 1, 8), (16, 1, 1, 7), (17, 1, 1, 8), (18, 1, (-2147483648), 2147483647)], [])
def yK_2 : yK := ([(3, 1, 0, 99), (4, 1, 0, 8), (5, 1, 0, 64), (6, 1, 0, 99), (7, 1, 0, 9999)], [])
def yK_3 : yK := ([(1, 2, 4, 4), (2, 2, 5, 5), (3, 2, 6, 6), (4, 1, 0, 120), (5, 1, (-2147483648), 2147483647)], [])
def yK_4 : yK := ([(120, 1, (-2147483648), 2147483647)], [])
def yK_5 : yK := ([(120, 1, 0, 9999)], [])
def yK_6 : yK := ([(121, 4, 0, 0)], [])
def yK_7 : yK := ([(10, 4, 0, 0)], [])
def yK_8 : yK := ([(2, 1, (-2147483648), 2147483647)], [])
def yK_9 : yK := ([(512, 1, (-2147483648), 2147483647)], [])
def yK_10 : yK := ([(8, 1, (-1), 7)], [])
def yK_11 : yK := ([(8, 1, (-2147483648), 2147483647)], [])
def yK_12 : yK := ([(1, 2, 14, 14), (2, 2, 15, 15), (3, 2, 16, 16), (4, 1, 0, 16), (5, 1, (-2147483648), 2147483647), (6, 1, (-2147483648), 2147483647), (7, 1, (-2147483648), 2147483647), (8, 1, (-2147483648), 2147483647), (9, 1, (-2147483648), 2147483647), (10, 1, (-2147483648), 2147483647)], [])
def yK_13 : yK := ([(16, 1, 0, 7)], [])
def yK_14 : yK := ([(1, 2, 18, 18), (2, 2, 19, 19), (3, 2, 20, 20), (4, 2, 21, 21), (5, 2, 22, 22)], [])
def yK_15 : yK := ([(8, 1, 0, 7)], [])
def yK_16 : yK := ([(64, 1, (-2147483648), 2147483647)], [])
def yK_17 : yK := ([(1, 2, 24, 24), (2, 1, 0, 8)], [])
def yK_18 : yK := ([(9, 1, (-2147483648), 2147483647)], [])
def yK_19 : yK := ([(1, 1, 0, 8), (2, 1, (-2147483648), 2147483647), (3, 1, (-2147483648), 2147483647), (4, 1, (-2147483648), 2147483647)], [])
def yK_20 : yK := ([(1, 2, 27, 27), (2, 2, 28, 28)], [])
def yK_21 : yK := ([(9, 4, 0, 0)], [])
def yK_22 : yK := ([(3, 1, (-2147483648), 2147483647)], [])
def yK_23 : yK := ([(1, 2, 30, 30), (2, 1, 0, 63), (3, 1, 0, 64)], [])
def yK_24 : yK := ([(256, 1, 0, 7)], [])
def yK_25 : yK := ([(1, 2, 32, 32), (2, 2, 33, 33), (3, 2, 37, 37), (4, 2, 38, 38), (5, 2, 39, 39), (6, 2, 40, 40), (7, 2, 41, 41), (8, 2, 42, 42), (9, 2, 43, 43), (10, 2, 47, 47), (11, 2, 53, 53), (12, 2, 55, 55), (13, 2, 56, 56), (14, 2, 59, 59), (15, 1, 1, 8), (16, 1, 1, 7), (17, 1, 1, 8), (18, 1, (-2147483648), 2147483647)], [])
def yK_26 : yK := ([(1, 2, 34, 34), (2, 2, 35, 35), (3, 2, 36, 36), (4, 1, 0, 120), (5, 1, (-2147483648), 2147483647)], [])
def yK_27 : yK := ([(1, 2, 44, 44), (2, 2, 45, 45), (3, 2, 46, 46), (4, 1, 0, 16), (5, 1, (-2147483648), 2147483647), (6, 1, (-2147483648), 2147483647), (7, 1, (-2147483648), 2147483647), (8, 1, (-2147483648), 2147483647), (9, 1, (-2147483648), 2147483647), (10, 1, (-2147483648), 2147483647)], [])
def yK_28 : yK := ([(1, 2, 48, 48), (2, 2, 49, 49), (3, 2, 50, 50), (4, 2, 51, 51), (5, 2, 52, 52)], [])
def yK_29 : yK := ([(1, 2, 54, 54), (2, 1, 0, 8)], [])
def yK_30 : yK := ([(1, 2, 57, 57), (2, 2, 58, 58)], [])
def yK_31 : yK := ([(1, 2, 60, 60), (2, 1, 0, 63), (3, 1, 0, 64)], [])
def yK_32 : yK := ([(1, 2, 62, 62), (2, 2, 63, 63), (3, 2, 64, 64), (4, 2, 65, 65), (5, 1, 0, 300), (6, 1, 0, 3), (7, 1, (-2147483648), 2147483647), (8, 1, 0, 200)], [])
def yK_33 : yK := ([(201, 1, (-2147483648), 2147483647)], [])
def yK_34 : yK := ([(300, 1, (-128), 127)], [])
def yK_35 : yK := ([(1, 2, 67, 67), (2, 2, 68, 68), (3, 2, 69, 69), (4, 1, 0, 120), (5, 1, (-2147483648), 2147483647)], [])
def yK_36 : yK := ([(1, 2, 71, 71), (2, 2, 72, 72), (3, 2, 73, 73), (4, 1, 0, 100), (5, 1, 0, 5), (6, 1, 0, 101), (7, 1, (-2147483648), 2147483647), (8, 1, (-2147483648), 2147483647), (9, 1, 0, 1)], [])
def yK_37 : yK := ([(500, 1, 0, 99999999)], [(0, 500, 5, [(0, 6), (0, 999), (0, 100), (0, 7), (0, 99999999)])])
def yK_38 : yK := ([(5, 1, 0, 100)], [])
def yK_39 : yK := ([(5, 1, (-2147483648), 2147483647)], [])
def yK_40 : yK := ([(1, 1, (-2147483648), 2147483647), (2, 2, 76, 76), (3, 2, 77, 77), (4, 2, 78, 78), (5, 2, 79, 79), (6, 1, 1, 8), (7, 1, 1, 7), (8, 1, 1, 8), (9, 4, 0, 0), (10, 4, 0, 0), (11, 1, 0, 2), (12, 1, 0, 2), (13, 1, (-2147483648), 2147483647), (14, 2, 80, 80), (15, 2, 81, 81), (16, 2, 82, 82), (17, 2, 83, 83), (18, 1, 0, 300), (19, 1, 0, 120), (20, 1, 0, 120), (21, 1, (-2147483648), 2147483647), (22, 1, 0, 1), (23, 2, 81, 83), (24, 1, 0, 200), (25, 1, 0, 200), (26, 1, 0, 3), (27, 1, (-2147483648), 2147483647), (28, 1, 0, 7), (29, 1, 0, 7), (30, 1, (-2147483648), 2147483647), (31, 1, 0, 1), (32, 1, (-2147483648), 2147483647), (33, 1, 0, 1), (34, 1, (-2147483648), 2147483647), (35, 1, (-2147483648), 2147483647)], [])
def yK_41 : yK := ([(3, 1, (-2147483648), 2147483647), (4, 1, 0, 8), (5, 1, 0, 16), (6, 1, 0, 4), (9, 1, (-2147483648), 2147483647), (10, 1, 0, 8), (23, 1, (-2147483648), 2147483647), (24, 1, 0, 8), (26, 1, (-2147483648), 2147483647), (27, 1, 0, 9999), (42, 1, (-2147483648), 2147483647), (58, 1, 0, 7), (74, 1, 0, 7), (712, 1, (-2147483648), 2147483647), (713, 1, 0, 64), (969, 1, 0, 7)], [(80, 136, 7, [((-1), 7), (0, 255), (0, 7), ((-2147483648), 2147483647), ((-2147483648), 2147483647), ((-1), 7), ((-2147483648), 2147483647)])])
def yK_42 : yK := ([(200, 1, (-2147483648), 2147483647)], [])
def yK_43 : yK := ([(1, 4, 0, 0)], [])
def yKk : List (Nat × yK) := [(0, yK_0), (1, yK_1), (2, yK_2), (3, yK_3), (4, yK_4), (5, yK_5), (6, yK_6), (7, yK_7), (8, yK_8), (9, yK_9), (10, yK_10), (11, yK_11), (12, yK_12), (13, yK_13), (14, yK_14), (15, yK_15), (16, yK_16), (17, yK_17), (18, yK_18), (19, yK_19), (20, yK_20), (21, yK_21), (22, yK_22), (23, yK_23), (24, yK_24), (25, yK_25), (26, yK_26), (27, yK_27), (28, yK_28), (29, yK_29), (30, yK_30), (31, yK_31), (32, yK_32), (33, yK_33), (34, yK_34), (35, yK_35), (36, yK_36), (37, yK_37), (38, yK_38), (39, yK_39), (40, yK_40), (41, yK_41), (42, yK_42), (43, yK_43)]
def yNn : Nat := 85
/-- what is read only -/
def yroT : yQ := fun p => bif Nat.beq p 1001 then some (0, zk 7, ([(3, 1, 1, 1), (7, 1, 0, 0)], []), []) else
  bif Nat.beq p 1002 then some (0, zk 7, ([(3, 1, 99, 99), (4, 1, 8, 8), (5, 1, 64, 64), (6, 1, 99, 99), (7, 1, 9999, 9999)], []), []) else
  bif Nat.beq p 1003 then some (1, zk 10, ([(10, 4, 0, 0)], []), []) else
  bif Nat.beq p 1004 then some (3, zk 104, ([(104, 1, 0, 127)], []), []) else none
def yFf (f : Nat → Option (Nat × Nat × (Nat → Value))) : Prop := ∀ r : List Int, r[0]? = some 0 → yRo (yEx f) r yroT
/-- a contract holds -/
def yA (f : Nat → Option (Nat × Nat × (Nat → Value))) (K : List (Nat × yK)) (q : yKq) : Prop := ∀ gh : yGh, yCt (yEx f) yY K yNn (yPH gh) (yQd q.2.2.2) q.2.1.2.2.2.2.2.2 q.1 q.2.1
def yAl9 (f : Nat → Option (Nat × Nat × (Nat → Value))) (K : List (Nat × yK)) : List yKq → Prop
  | [] => True
  | q :: T => yA f K q ∧ yAl9 f K T
theorem yAl9_ok {f : Nat → Option (Nat × Nat × (Nat → Value))} {K : List (Nat × yK)} : ∀ {T : List yKq}, yAl9 f K T → ∀ q ∈ T, yA f K q
  | [], _, q, hq => by cases hq
  | q9 :: T, h, q, hq => by
    rcases List.mem_cons.mp hq with rfl | hq
    · exact h.1
    · exact yAl9_ok h.2 q hq
/-- hooks, of a check -/
def yht : List (Nat × Nat × yHt) → Nat → Nat → Option yHt
  | [], _, _ => none
  | q :: l, mi, pc => bif Nat.beq q.2.1 pc && Nat.beq q.1 mi then some q.2.2 else yht l mi pc
def yst (hs : List Nat) (_ p : Nat) : Bool := hs.any fun h => Nat.beq h p
def ysb (hs : List Nat) (pc p : Nat) : Bool := Nat.ble p pc && hs.any fun h => Nat.beq h p
def ymi : List Nat → Nat → Bool
  | [], _ => false
  | a :: l, i => bif Nat.beq a i then true else ymi l i
/-- run in line: these, and a look at a text where what stands there is told -/
def yil (p9 : Nat) (F : zF) (es : List yE) (c : Int) (i : zV) : Bool := match yfi F p9 i es with
  | (0, v) => (match zlh F v with
    | some (l, h) => zle (c + 1) l || zle (h + 1) c
    | none => false)
  | _ => false
def yi1 (F : zF) (es : List yE) : Bool := match yfi F 75 (zk 22) es, yfi F 75 (zk 24) es with
  | (0, t), (0, n) => yil t.2.1 F es 32 n
  | _, _ => false
def yi2 (F : zF) (es : List yE) : Bool := match yfi F 61 (zk 7) es with
  | (0, a) => yil 62 F es (-1) a
  | _ => false
def yin9 (l : List Nat) (s a : Nat) : Nat → List zV → zF → List yE → Bool := fun mi _ F es => bif ymi l mi then true else bif Nat.beq mi s then yi1 F es else bif Nat.beq mi a then yi2 F es else false
/-- the check of a contract; and so it holds -/
def yckc (K : List (Nat × yK)) (T : List yKq) (ht : List (Nat × Nat × yHt)) (il : List Nat) (stop : Nat → Nat → Bool) (M : mMeth) (c : yKq) (outs : List (yU × List ySr)) (cuts : List yTp) : Bool :=
  yck yE0 yroT yY K yNn (fun k0 => yktc k0 yY K yNn c.2.1.2.2.2.1 T) (yhk yY K yNn (yht ht) c.2.2.2) (yprm yroT yY K yNn c.2.1.2.2.2.1) (yin9 il 172 55) (ysy yY yNn) 100000 c.2.1.2.2.2.2.2.2 c.1 M stop c.2.1 outs cuts
/-- as a check says, where the contracts of the table hold -/
theorem yckg_ok {f : Nat → Option (Nat × Nat × (Nat → Value))} (hf : yFf f) {K : List (Nat × yK)} {T : List yKq} {ht : List (Nat × Nat × yHt)} {il : List Nat} {stop : Nat → Nat → Bool} {M : mMeth} {c : yKq} {outs : List (yU × List ySr)} {cuts : List yTp} {gh : yGh} {RI : List Int → Prop} {kx : Nat}
    (hR0 : ∀ r, RI r → r[0]? = some 0) (hRX : ∀ r r', zX r r' → RI r → RI r') (hRd : ∀ r, RI r → yQd c.2.2.2 r)
    (hT : ∀ q ∈ T, ∃ Q, yCt (yEx f) yY K yNn (yPH gh) Q (kx + q.2.1.2.2.2.2.2.2) q.1 q.2.1 ∧ ∀ r r1 θ F1 th, RI r → zX r r1 → zFok r1 F1 → (ygd q.2.2.1 F1 th && yge2 q.2.2.2 F1 th) = true → (∀ (k : Nat) (a : zV), th[k]? = some a → ∃ x, zd r1 a = some x ∧ θ[k]? = some x) → Q θ)
    (h : yckc K T ht il stop M c outs cuts = true) (hM : zmt c.1 = some M) (hnz : znz (yka c.2.1.1 1) = true) (houts : c.2.1.2.2.2.2.1 = outs.map (·.1)) : yCt (yEx f) yY K yNn (yPH gh) RI (kx + c.2.1.2.2.2.2.2.2) c.1 c.2.1 := by
  intro θ vs mem nc ns hR hF hs hc hTM hP
  exact yck_ok (PH := yPH gh) (kx := kx) (RI := RI) (fun r r' m t hx hp => yPH_X hx hp) (fun r r' m t u h1 h2 h3 => yPH_q h1 h2 h3) (fun r r' m t u h1 h2 h3 => yPH_v h1 h2 h3) ysy_ok (fun r hr => hf r (hR0 r hr)) hRX
    (fun k0 => yktc_ok hT) (fun L => yhk_ok hRd L) (yprm_ok (fun r hr => hf r (hR0 r hr)) _) (fun mi M hM => zmt_sr9 hM) hM hnz houts (yck_env h) θ vs mem nc ns hR hF hs hc hTM hP
theorem yckc_ok {f : Nat → Option (Nat × Nat × (Nat → Value))} (hf : yFf f) {K : List (Nat × yK)} {T : List yKq} {ht : List (Nat × Nat × yHt)} {il : List Nat} {stop : Nat → Nat → Bool} {M : mMeth} {c : yKq} {outs : List (yU × List ySr)} {cuts : List yTp}
    (h : yckc K T ht il stop M c outs cuts = true) (hT : yAl9 f K T) (hM : zmt c.1 = some M) (hnz : znz (yka c.2.1.1 1) = true) (houts : c.2.1.2.2.2.2.1 = outs.map (·.1)) : yA f K c := by
  intro gh θ vs mem nc ns hQ hF hs hc hTM hP
  have h9 := yckg_ok hf (gh := gh) (kx := 0) (RI := fun r => r[0]? = some 0 ∧ yQd c.2.2.2 r) (fun r hr => hr.1) (fun r r' hx hr => ⟨hx.get hr.1, hr.2.ex hx⟩) (fun r hr => hr.2)
    (fun q hq => ⟨yQd q.2.2.2, by rw [Nat.zero_add]; exact yAl9_ok hT q hq gh, fun r r1 θ F1 th _ _ hF1 hg hθ => yge2_ok hF1 (by simp only [Bool.and_eq_true] at hg; exact hg.2) hθ⟩) h hM hnz houts θ vs mem nc ns ⟨hF.2.1, hQ⟩ hF hs hc hTM hP
  rw [Nat.zero_add] at h9
  exact h9
