/-! splitting: one loop on each side, by hand -/
theorem zi32lt {a b : Nat} (ha : a < 2147483648) (hb : b < 2147483648) : Int32.ofNat a < Int32.ofNat b ↔ a < b := by
  rw [Int32.lt_iff_toInt_lt, zi32n ha, zi32n hb]
  omega
theorem zi32eq {a b : Nat} (ha : a < 2147483648) (hb : b < 2147483648) : Int32.ofNat a = Int32.ofNat b ↔ a = b := by
  rw [← Int32.toInt_inj, zi32n ha, zi32n hb]
  omega
theorem mp_stv {E : mEnv} {nL pc p0 ln : Nat} {ax : mAux} {i : Instr} {ls : mLs} {st : List Value} {mem : mMem} {j kd k : Nat} {v : Value} (h0 : zisd i = true) (h1 : mpush (p0, i, ln, ax) = none) (h2 : mload i = none) (h3 : mstore i = some (j, kd, k)) (h4 : mkind kd v = true) (h5 : Nat.ble (j + 1) nL = true) (h6 : kd ≠ 1) :
    mplain E nL (p0, i, ln, ax) pc ls (v :: st) mem = some (pc + k, mst1 ls j v, st, mem) := by
  rw [zisd_ok h0]
  unfold mdef
  rw [h1]
  try dsimp only
  rw [h2]
  try dsimp only
  rw [h3]
  try dsimp only
  rw [if_pos (by rw [h4]; simp only [Bool.true_and, decide_eq_true_eq]; exact Or.inr ⟨Nat.ble_eq.mp h5, h6⟩), if_neg h6]
theorem mp_iincN {E : mEnv} {nL pc p0 ln i k : Nat} {ax : mAux} {ls : mLs} {st : List Value} {mem : mMem} (h : mld ls i = some (.int (Int32.ofNat k))) (hi : Nat.ble (i + 1) nL = true) :
    mplain E nL (p0, .iinc i 1, ln, ax) pc ls st mem = some (pc + 3, mst1 ls i (.int (Int32.ofNat (k + 1))), st, mem) := by
  rw [mp_iinc h (Nat.ble_eq.mp hi), zi32s]
theorem mp_addN {E : mEnv} {nL pc p0 ln a b : Nat} {ax : mAux} {ls : mLs} {r : List Value} {mem : mMem} : mplain E nL (p0, .iadd, ln, ax) pc ls (.int (Int32.ofNat b) :: .int (Int32.ofNat a) :: r) mem = some (pc + 1, ls, .int (Int32.ofNat (a + b)) :: r, mem) := by
  rw [Int32.ofNat_add]
  rfl
theorem mp_mulN {E : mEnv} {nL pc p0 ln a b : Nat} {ax : mAux} {ls : mLs} {r : List Value} {mem : mMem} : mplain E nL (p0, .imul, ln, ax) pc ls (.int (Int32.ofNat b) :: .int (Int32.ofNat a) :: r) mem = some (pc + 1, ls, .int (Int32.ofNat (a * b)) :: r, mem) := by
  rw [Int32.ofNat_mul]
  rfl
theorem mp_subN {E : mEnv} {nL pc p0 ln a b : Nat} {ax : mAux} {ls : mLs} {r : List Value} {mem : mMem} (h : b ≤ a) : mplain E nL (p0, .isub, ln, ax) pc ls (.int (Int32.ofNat b) :: .int (Int32.ofNat a) :: r) mem = some (pc + 1, ls, .int (Int32.ofNat (a - b)) :: r, mem) := by
  have e : Int32.ofNat (a - b) = Int32.ofNat a - Int32.ofNat b := by
    have : a = (a - b) + b := by omega
    have h2 : Int32.ofNat a = Int32.ofNat (a - b) + Int32.ofNat b := by rw [← Int32.ofNat_add, ← this]
    rw [h2]
    exact (Int32.add_sub_cancel _ _).symm
  rw [e]
  rfl
theorem mp_ic1 {E : mEnv} {nL pc p0 ln t : Nat} {c : Jvm.ClassFile.Cond} {off : Int} {ax : mAux} {ls : mLs} {r : List Value} {mem : mMem} {x y : Int32} (ht : mtgt pc off = some t) (h : mcond c x y = true) :
    mplain E nL (p0, .if_icmp c off, ln, ax) pc ls (.int y :: .int x :: r) mem = some (t, ls, r, mem) := by
  unfold mplain
  dsimp only
  rw [ht]
  dsimp only
  rw [if_pos h]
theorem mp_ic0 {E : mEnv} {nL pc p0 ln t : Nat} {c : Jvm.ClassFile.Cond} {off : Int} {ax : mAux} {ls : mLs} {r : List Value} {mem : mMem} {x y : Int32} (ht : mtgt pc off = some t) (h : mcond c x y = false) :
    mplain E nL (p0, .if_icmp c off, ln, ax) pc ls (.int y :: .int x :: r) mem = some (pc + 3, ls, r, mem) := by
  unfold mplain
  dsimp only
  rw [ht]
  dsimp only
  rw [if_neg (by rw [h]; decide)]
theorem mp_iz1 {E : mEnv} {nL pc p0 ln t : Nat} {c : Jvm.ClassFile.Cond} {off : Int} {ax : mAux} {ls : mLs} {r : List Value} {mem : mMem} {x : Int32} (ht : mtgt pc off = some t) (h : mcond c x (Int32.ofNat 0) = true) :
    mplain E nL (p0, .ifCond c off, ln, ax) pc ls (.int x :: r) mem = some (t, ls, r, mem) := by
  unfold mplain
  dsimp only
  rw [ht]
  dsimp only
  rw [if_pos (show mcond c x 0 = true from h)]
theorem mp_iz0 {E : mEnv} {nL pc p0 ln t : Nat} {c : Jvm.ClassFile.Cond} {off : Int} {ax : mAux} {ls : mLs} {r : List Value} {mem : mMem} {x : Int32} (ht : mtgt pc off = some t) (h : mcond c x (Int32.ofNat 0) = false) :
    mplain E nL (p0, .ifCond c off, ln, ax) pc ls (.int x :: r) mem = some (pc + 3, ls, r, mem) := by
  unfold mplain
  dsimp only
  rw [ht]
  dsimp only
  rw [if_neg (show ¬ mcond c x 0 = true from (by rw [show (0 : Int32) = Int32.ofNat 0 from rfl, h]; decide))]
theorem mrv {p0 idx ln t c1 c2 a c : Nat} {z : Int} {vs : List Value} {mem : mMem} {fs : List Value} (h : mem[a]? = some (.inr (c, fs))) (hz : (c == z.toNat) = true) : mrecv (p0, .invokevirtual idx, ln, t, c1, c2, z) (.ref a :: vs) mem = true := by
  unfold mrecv
  dsimp only
  rw [h]
  exact hz
/-- what max and most answer -/
def zmaxN (a b : Nat) : Nat := if a < b then b else a
theorem zmx {E : mEnv} (hE3 : E.1 3 = some zm_3) {P : mRes → Prop} {d nc ns a b : Nat} {ls : mLs} {mem : mMem} (ha : a < 2147483648) (hb : b < 2147483648) (l0 : mld ls 0 = some (.int (Int32.ofNat a))) (l1 : mld ls 1 = some (.int (Int32.ofNat b)))
    (hP : P (.inr (some (.int (Int32.ofNat (zmaxN a b)))), mem, nc, ns)) : mGd E P d 3 0 ls [] mem nc ns := by
  by_cases h : a < b
  · rw [show zmaxN a b = b from if_pos h] at hP
    refine mGd_plain (M := zm_3) (q := (0, .iload_n 0, 1, 0, 0, 0, 0)) hE3 rfl (by decide) (fun h => nomatch h) (fun h => nomatch h) (fun h => nomatch h) (mp_ldv rfl rfl rfl l0 rfl) ?_
    refine mGd_plain (M := zm_3) (q := (1, .iload_n 1, 1, 0, 0, 0, 0)) hE3 rfl (by decide) (fun h => nomatch h) (fun h => nomatch h) (fun h => nomatch h) (mp_ldv rfl rfl rfl l1 rfl) ?_
    refine mGd_plain (M := zm_3) (q := (2, .if_icmp .lt 7, 3, 0, 0, 0, 0)) hE3 rfl (by decide) (fun h => nomatch h) (fun h => nomatch h) (fun h => nomatch h) (mp_ic1 (t := 9) rfl (by unfold mcond; exact decide_eq_true ((zi32lt (by omega) (by omega)).mpr (by omega)))) ?_
    refine mGd_plain (M := zm_3) (q := (9, .iload_n 1, 1, 0, 0, 0, 0)) hE3 rfl (by decide) (fun h => nomatch h) (fun h => nomatch h) (fun h => nomatch h) (mp_ldv rfl rfl rfl l1 rfl) ?_
    exact mGd_iret (M := zm_3) (q := (10, .ireturn, 1, 0, 0, 0, 0)) hE3 rfl (by decide) rfl rfl rfl rfl hP
  · rw [show zmaxN a b = a from if_neg h] at hP
    refine mGd_plain (M := zm_3) (q := (0, .iload_n 0, 1, 0, 0, 0, 0)) hE3 rfl (by decide) (fun h => nomatch h) (fun h => nomatch h) (fun h => nomatch h) (mp_ldv rfl rfl rfl l0 rfl) ?_
    refine mGd_plain (M := zm_3) (q := (1, .iload_n 1, 1, 0, 0, 0, 0)) hE3 rfl (by decide) (fun h => nomatch h) (fun h => nomatch h) (fun h => nomatch h) (mp_ldv rfl rfl rfl l1 rfl) ?_
    refine mGd_plain (M := zm_3) (q := (2, .if_icmp .lt 7, 3, 0, 0, 0, 0)) hE3 rfl (by decide) (fun h => nomatch h) (fun h => nomatch h) (fun h => nomatch h) (mp_ic0 (t := 9) rfl (by unfold mcond; exact decide_eq_false (fun h => absurd ((zi32lt (by omega) (by omega)).mp h) (by omega)))) ?_
    refine mGd_plain (M := zm_3) (q := (5, .iload_n 0, 1, 0, 0, 0, 0)) hE3 rfl (by decide) (fun h => nomatch h) (fun h => nomatch h) (fun h => nomatch h) (mp_ldv rfl rfl rfl l0 rfl) ?_
    refine mGd_plain (M := zm_3) (q := (6, .goto 4, 3, 0, 0, 0, 0)) hE3 rfl (by decide) (fun h => nomatch h) (fun h => nomatch h) (fun h => nomatch h) rfl ?_
    exact mGd_iret (M := zm_3) (q := (10, .ireturn, 1, 0, 0, 0, 0)) hE3 rfl (by decide) rfl rfl rfl rfl hP
theorem zmo {E : mEnv} (hE185 : E.1 185 = some zm_185) {P : mRes → Prop} {d nc ns a b : Nat} {ls : mLs} {mem : mMem} (ha : a < 2147483648) (hb : b < 2147483648) (l0 : mld ls 1 = some (.int (Int32.ofNat a))) (l1 : mld ls 2 = some (.int (Int32.ofNat b)))
    (hP : P (.inr (some (.int (Int32.ofNat (zmaxN a b)))), mem, nc, ns)) : mGd E P d 185 0 ls [] mem nc ns := by
  by_cases h : b < a
  · rw [show zmaxN a b = a from by unfold zmaxN; rw [if_neg (by omega)]] at hP
    refine mGd_plain (M := zm_185) (q := (0, .iload_n 1, 1, 0, 0, 0, 0)) hE185 rfl (by decide) (fun h => nomatch h) (fun h => nomatch h) (fun h => nomatch h) (mp_ldv rfl rfl rfl l0 rfl) ?_
    refine mGd_plain (M := zm_185) (q := (1, .iload_n 2, 1, 0, 0, 0, 0)) hE185 rfl (by decide) (fun h => nomatch h) (fun h => nomatch h) (fun h => nomatch h) (mp_ldv rfl rfl rfl l1 rfl) ?_
    refine mGd_plain (M := zm_185) (q := (2, .if_icmp .le 7, 3, 0, 0, 0, 0)) hE185 rfl (by decide) (fun h => nomatch h) (fun h => nomatch h) (fun h => nomatch h) (mp_ic0 (t := 9) rfl (by unfold mcond; exact decide_eq_false (fun h => absurd ((zi32le (by omega) (by omega)).mp h) (by omega)))) ?_
    refine mGd_plain (M := zm_185) (q := (5, .iload_n 1, 1, 0, 0, 0, 0)) hE185 rfl (by decide) (fun h => nomatch h) (fun h => nomatch h) (fun h => nomatch h) (mp_ldv rfl rfl rfl l0 rfl) ?_
    refine mGd_plain (M := zm_185) (q := (6, .goto 4, 3, 0, 0, 0, 0)) hE185 rfl (by decide) (fun h => nomatch h) (fun h => nomatch h) (fun h => nomatch h) rfl ?_
    exact mGd_iret (M := zm_185) (q := (10, .ireturn, 1, 0, 0, 0, 0)) hE185 rfl (by decide) rfl rfl rfl rfl hP
  · rw [show zmaxN a b = b from by unfold zmaxN; split <;> omega] at hP
    refine mGd_plain (M := zm_185) (q := (0, .iload_n 1, 1, 0, 0, 0, 0)) hE185 rfl (by decide) (fun h => nomatch h) (fun h => nomatch h) (fun h => nomatch h) (mp_ldv rfl rfl rfl l0 rfl) ?_
    refine mGd_plain (M := zm_185) (q := (1, .iload_n 2, 1, 0, 0, 0, 0)) hE185 rfl (by decide) (fun h => nomatch h) (fun h => nomatch h) (fun h => nomatch h) (mp_ldv rfl rfl rfl l1 rfl) ?_
    refine mGd_plain (M := zm_185) (q := (2, .if_icmp .le 7, 3, 0, 0, 0, 0)) hE185 rfl (by decide) (fun h => nomatch h) (fun h => nomatch h) (fun h => nomatch h) (mp_ic1 (t := 9) rfl (by unfold mcond; exact decide_eq_true ((zi32le (by omega) (by omega)).mpr (by omega)))) ?_
    refine mGd_plain (M := zm_185) (q := (9, .iload_n 2, 1, 0, 0, 0, 0)) hE185 rfl (by decide) (fun h => nomatch h) (fun h => nomatch h) (fun h => nomatch h) (mp_ldv rfl rfl rfl l1 rfl) ?_
    exact mGd_iret (M := zm_185) (q := (10, .ireturn, 1, 0, 0, 0, 0)) hE185 rfl (by decide) rfl rfl rfl rfl hP
/-- the class's state, as split looks at it -/
def zCs (mem : mMem) (X : Nat) : Prop := ∃ (Wd Fr St : Nat) (fx fw : List Value) (ff fs : Nat → Value), mem.length ≤ 128 ∧ mem[X]? = some (.inr (10, fx)) ∧ fx[0]? = some (.ref Wd) ∧ mem[Wd]? = some (.inr (9, fw)) ∧ fw[17]? = some (.int (Int32.ofNat 0)) ∧ fw[3]? = some (.ref Fr) ∧ fw[0]? = some (.ref St) ∧
  mem[Fr]? = some (.inl (0, 2, ff)) ∧ ff 0 = .int (Int32.ofNat 0) ∧ ff 1 = .int (Int32.ofNat 0) ∧ mem[St]? = some (.inl (0, 7, fs)) ∧ fs 0 = .int (Int32.ofNat 2) ∧ fs 1 = .int (Int32.ofNat 6)
def zsA (n r : Nat) : Nat := if 2 * n < 6 * (r - n) then 6 * (r - n) else 2 * n
theorem zlE {E : mEnv} (hE150 : E.1 150 = some zm_150) (hE3 : E.1 3 = some zm_3) {P : mRes → Prop} {d nc ns X n r : Nat} {ls : mLs} {mem : mMem} (hC : zCs mem X) (hn : n ≤ r) (hr : r ≤ 1000) (h1 : 1 ≤ r) (l0 : mld ls 0 = some (.ref X)) (l1 : mld ls 1 = some (.int (Int32.ofNat n))) (l2 : mld ls 2 = some (.int (Int32.ofNat (r - n))))
    (hP : P (.inr (some (.int (Int32.ofNat (zsA n r)))), mem, nc, ns)) : mGd E P (d + 1) 150 0 ls [] mem nc ns := by
  obtain ⟨Wd, Fr, St, fx, fw, ff, fs, h8, m1, e1, m2, e2, e3, e4, m3, v0, v1, m4, w0, w1⟩ := hC
  by_cases hz : n = 0
  · by_cases hf : r - n = 0
    · exact absurd hf (by omega)
    · skip
      refine mGd_plain (M := zm_150) (q := (0, .aload_n 0, 1, 0, 0, 0, 0)) hE150 rfl (by decide) (fun h => nomatch h) (fun h => nomatch h) (fun h => nomatch h) (mp_ldv rfl rfl rfl l0 rfl) ?_
      refine mGd_plain (M := zm_150) (q := (1, .getfield 10, 3, 0, 10, 0, 0)) hE150 rfl (by decide) (fun h => nomatch h) (fun h => nomatch h) (fun h => nomatch h) (mp_getf m1 e1 rfl) ?_
      refine mGd_plain (M := zm_150) (q := (4, .getfield 202, 3, 0, 9, 17, 0)) hE150 rfl (by decide) (fun h => nomatch h) (fun h => nomatch h) (fun h => nomatch h) (mp_getf m2 e2 rfl) ?_
      refine mGd_plain (M := zm_150) (q := (7, .istore_n 3, 1, 0, 0, 0, 0)) hE150 rfl (by decide) (fun h => nomatch h) (fun h => nomatch h) (fun h => nomatch h) (mp_stv rfl rfl rfl rfl rfl (by decide) (by decide)) ?_
      have l0_1 := mld_s1 (i := 3) (v := .int (Int32.ofNat 0)) (by decide : 0 ≠ 3) (fun e => by cases e) l0
      have l1_1 := mld_s1 (i := 3) (v := .int (Int32.ofNat 0)) (by decide : 1 ≠ 3) (fun e => by cases e) l1
      have l2_1 := mld_s1 (i := 3) (v := .int (Int32.ofNat 0)) (by decide : 2 ≠ 3) (fun e => by cases e) l2
      have l3_1 := mld_s0 (ls := ls) (i := 3) (v := .int (Int32.ofNat 0))
      refine mGd_plain (M := zm_150) (q := (8, .iload_n 1, 1, 0, 0, 0, 0)) hE150 rfl (by decide) (fun h => nomatch h) (fun h => nomatch h) (fun h => nomatch h) (mp_ldv rfl rfl rfl l1_1 rfl) ?_
      refine mGd_plain (M := zm_150) (q := (9, .ifCond .le 35, 3, 0, 0, 0, 0)) hE150 rfl (by decide) (fun h => nomatch h) (fun h => nomatch h) (fun h => nomatch h) (mp_iz1 (t := 44) rfl (by unfold mcond; exact decide_eq_true ((zi32le (by omega) (by omega)).mpr (by omega)))) ?_
      refine mGd_plain (M := zm_150) (q := (44, .iload_n 2, 1, 0, 0, 0, 0)) hE150 rfl (by decide) (fun h => nomatch h) (fun h => nomatch h) (fun h => nomatch h) (mp_ldv rfl rfl rfl l2_1 rfl) ?_
      refine mGd_plain (M := zm_150) (q := (45, .ifCond .le 39, 3, 0, 0, 0, 0)) hE150 rfl (by decide) (fun h => nomatch h) (fun h => nomatch h) (fun h => nomatch h) (mp_iz0 (t := 84) rfl (by unfold mcond; exact decide_eq_false (fun h => absurd ((zi32le (by omega) (by omega)).mp h) (by omega)))) ?_
      refine mGd_plain (M := zm_150) (q := (48, .iload_n 3, 1, 0, 0, 0, 0)) hE150 rfl (by decide) (fun h => nomatch h) (fun h => nomatch h) (fun h => nomatch h) (mp_ldv rfl rfl rfl l3_1 rfl) ?_
      refine mGd_plain (M := zm_150) (q := (49, .aload_n 0, 1, 0, 0, 0, 0)) hE150 rfl (by decide) (fun h => nomatch h) (fun h => nomatch h) (fun h => nomatch h) (mp_ldv rfl rfl rfl l0_1 rfl) ?_
      refine mGd_plain (M := zm_150) (q := (50, .getfield 10, 3, 0, 10, 0, 0)) hE150 rfl (by decide) (fun h => nomatch h) (fun h => nomatch h) (fun h => nomatch h) (mp_getf m1 e1 rfl) ?_
      refine mGd_plain (M := zm_150) (q := (53, .getfield 202, 3, 0, 9, 17, 0)) hE150 rfl (by decide) (fun h => nomatch h) (fun h => nomatch h) (fun h => nomatch h) (mp_getf m2 e2 rfl) ?_
      refine mGd_plain (M := zm_150) (q := (56, .aload_n 0, 1, 0, 0, 0, 0)) hE150 rfl (by decide) (fun h => nomatch h) (fun h => nomatch h) (fun h => nomatch h) (mp_ldv rfl rfl rfl l0_1 rfl) ?_
      refine mGd_plain (M := zm_150) (q := (57, .getfield 10, 3, 0, 10, 0, 0)) hE150 rfl (by decide) (fun h => nomatch h) (fun h => nomatch h) (fun h => nomatch h) (mp_getf m1 e1 rfl) ?_
      refine mGd_plain (M := zm_150) (q := (60, .getfield 239, 3, 0, 9, 3, 0)) hE150 rfl (by decide) (fun h => nomatch h) (fun h => nomatch h) (fun h => nomatch h) (mp_getf m2 e3 rfl) ?_
      refine mGd_plain (M := zm_150) (q := (63, .iconst 1, 1, 0, 0, 0, 0)) hE150 rfl (by decide) (fun h => nomatch h) (fun h => nomatch h) (fun h => nomatch h) (show mplain _ _ _ _ _ _ _ = some (_, _, .int (Int32.ofNat 1) :: _, _) from rfl) ?_
      refine mGd_plain (M := zm_150) (q := (64, .iaload, 1, 0, 0, 0, 0)) hE150 rfl (by decide) (fun h => nomatch h) (fun h => nomatch h) (fun h => nomatch h) (mp_iald (marr_m m3 h8) rfl v1) ?_
      refine mGd_call (M := zm_150) (q := (65, .invokestatic 338, 3, 9, 3, 2, 0)) hE150 rfl rfl hE3 (Nat.le_of_ble_eq_true rfl) (Nat.le_of_ble_eq_true rfl) (Nat.le_of_ble_eq_true rfl) rfl ?_
      refine zmx hE3 (a := 0) (b := 0) (by omega) (by omega) rfl rfl ?_
      show mGd E P (d + 1) 150 68 (mst1 ls 3 (.int (Int32.ofNat 0))) [.int (Int32.ofNat (zmaxN 0 0)), .int (Int32.ofNat 0)] mem nc ns
      rw [show zmaxN 0 0 = 0 from rfl]
      refine mGd_plain (M := zm_150) (q := (68, .iload_n 2, 1, 0, 0, 0, 0)) hE150 rfl (by decide) (fun h => nomatch h) (fun h => nomatch h) (fun h => nomatch h) (mp_ldv rfl rfl rfl l2_1 rfl) ?_
      refine mGd_plain (M := zm_150) (q := (69, .aload_n 0, 1, 0, 0, 0, 0)) hE150 rfl (by decide) (fun h => nomatch h) (fun h => nomatch h) (fun h => nomatch h) (mp_ldv rfl rfl rfl l0_1 rfl) ?_
      refine mGd_plain (M := zm_150) (q := (70, .getfield 10, 3, 0, 10, 0, 0)) hE150 rfl (by decide) (fun h => nomatch h) (fun h => nomatch h) (fun h => nomatch h) (mp_getf m1 e1 rfl) ?_
      refine mGd_plain (M := zm_150) (q := (73, .getfield 126, 3, 0, 9, 0, 0)) hE150 rfl (by decide) (fun h => nomatch h) (fun h => nomatch h) (fun h => nomatch h) (mp_getf m2 e4 rfl) ?_
      refine mGd_plain (M := zm_150) (q := (76, .iconst 1, 1, 0, 0, 0, 0)) hE150 rfl (by decide) (fun h => nomatch h) (fun h => nomatch h) (fun h => nomatch h) (show mplain _ _ _ _ _ _ _ = some (_, _, .int (Int32.ofNat 1) :: _, _) from rfl) ?_
      refine mGd_plain (M := zm_150) (q := (77, .iaload, 1, 0, 0, 0, 0)) hE150 rfl (by decide) (fun h => nomatch h) (fun h => nomatch h) (fun h => nomatch h) (mp_iald (marr_m m4 h8) rfl w1) ?_
      refine mGd_plain (M := zm_150) (q := (78, .imul, 1, 0, 0, 0, 0)) hE150 rfl (by decide) (fun h => nomatch h) (fun h => nomatch h) (fun h => nomatch h) mp_mulN ?_
      refine mGd_plain (M := zm_150) (q := (79, .iadd, 1, 0, 0, 0, 0)) hE150 rfl (by decide) (fun h => nomatch h) (fun h => nomatch h) (fun h => nomatch h) mp_addN ?_
      rw [show 0 + (r - n) * 6 = 6 * (r - n) from by omega]
      refine mGd_call (M := zm_150) (q := (80, .invokestatic 338, 3, 9, 3, 2, 0)) hE150 rfl rfl hE3 (Nat.le_of_ble_eq_true rfl) (Nat.le_of_ble_eq_true rfl) (Nat.le_of_ble_eq_true rfl) rfl ?_
      refine zmx hE3 (a := 0) (b := (6 * (r - n))) (by omega) (by omega) rfl rfl ?_
      show mGd E P (d + 1) 150 83 (mst1 ls 3 (.int (Int32.ofNat 0))) [.int (Int32.ofNat (zmaxN 0 (6 * (r - n))))] mem nc ns
      rw [show zmaxN 0 (6 * (r - n)) = zsA n r from by unfold zmaxN zsA; (repeat' split) <;> omega]
      refine mGd_plain (M := zm_150) (q := (83, .istore_n 3, 1, 0, 0, 0, 0)) hE150 rfl (by decide) (fun h => nomatch h) (fun h => nomatch h) (fun h => nomatch h) (mp_stv rfl rfl rfl rfl rfl (by decide) (by decide)) ?_
      have l0_2 := mld_s1 (i := 3) (v := .int (Int32.ofNat (zsA n r))) (by decide : 0 ≠ 3) (fun e => by cases e) l0_1
      have l1_2 := mld_s1 (i := 3) (v := .int (Int32.ofNat (zsA n r))) (by decide : 1 ≠ 3) (fun e => by cases e) l1_1
      have l2_2 := mld_s1 (i := 3) (v := .int (Int32.ofNat (zsA n r))) (by decide : 2 ≠ 3) (fun e => by cases e) l2_1
      have l3_2 := mld_s0 (ls := (mst1 ls 3 (.int (Int32.ofNat 0)))) (i := 3) (v := .int (Int32.ofNat (zsA n r)))
      refine mGd_plain (M := zm_150) (q := (84, .iload_n 3, 1, 0, 0, 0, 0)) hE150 rfl (by decide) (fun h => nomatch h) (fun h => nomatch h) (fun h => nomatch h) (mp_ldv rfl rfl rfl l3_2 rfl) ?_
      exact mGd_iret (M := zm_150) (q := (85, .ireturn, 1, 0, 0, 0, 0)) hE150 rfl (by decide) rfl rfl rfl rfl hP
  · by_cases hf : r - n = 0
    · skip
      refine mGd_plain (M := zm_150) (q := (0, .aload_n 0, 1, 0, 0, 0, 0)) hE150 rfl (by decide) (fun h => nomatch h) (fun h => nomatch h) (fun h => nomatch h) (mp_ldv rfl rfl rfl l0 rfl) ?_
      refine mGd_plain (M := zm_150) (q := (1, .getfield 10, 3, 0, 10, 0, 0)) hE150 rfl (by decide) (fun h => nomatch h) (fun h => nomatch h) (fun h => nomatch h) (mp_getf m1 e1 rfl) ?_
      refine mGd_plain (M := zm_150) (q := (4, .getfield 202, 3, 0, 9, 17, 0)) hE150 rfl (by decide) (fun h => nomatch h) (fun h => nomatch h) (fun h => nomatch h) (mp_getf m2 e2 rfl) ?_
      refine mGd_plain (M := zm_150) (q := (7, .istore_n 3, 1, 0, 0, 0, 0)) hE150 rfl (by decide) (fun h => nomatch h) (fun h => nomatch h) (fun h => nomatch h) (mp_stv rfl rfl rfl rfl rfl (by decide) (by decide)) ?_
      have l0_1 := mld_s1 (i := 3) (v := .int (Int32.ofNat 0)) (by decide : 0 ≠ 3) (fun e => by cases e) l0
      have l1_1 := mld_s1 (i := 3) (v := .int (Int32.ofNat 0)) (by decide : 1 ≠ 3) (fun e => by cases e) l1
      have l2_1 := mld_s1 (i := 3) (v := .int (Int32.ofNat 0)) (by decide : 2 ≠ 3) (fun e => by cases e) l2
      have l3_1 := mld_s0 (ls := ls) (i := 3) (v := .int (Int32.ofNat 0))
      refine mGd_plain (M := zm_150) (q := (8, .iload_n 1, 1, 0, 0, 0, 0)) hE150 rfl (by decide) (fun h => nomatch h) (fun h => nomatch h) (fun h => nomatch h) (mp_ldv rfl rfl rfl l1_1 rfl) ?_
      refine mGd_plain (M := zm_150) (q := (9, .ifCond .le 35, 3, 0, 0, 0, 0)) hE150 rfl (by decide) (fun h => nomatch h) (fun h => nomatch h) (fun h => nomatch h) (mp_iz0 (t := 44) rfl (by unfold mcond; exact decide_eq_false (fun h => absurd ((zi32le (by omega) (by omega)).mp h) (by omega)))) ?_
      refine mGd_plain (M := zm_150) (q := (12, .aload_n 0, 1, 0, 0, 0, 0)) hE150 rfl (by decide) (fun h => nomatch h) (fun h => nomatch h) (fun h => nomatch h) (mp_ldv rfl rfl rfl l0_1 rfl) ?_
      refine mGd_plain (M := zm_150) (q := (13, .getfield 10, 3, 0, 10, 0, 0)) hE150 rfl (by decide) (fun h => nomatch h) (fun h => nomatch h) (fun h => nomatch h) (mp_getf m1 e1 rfl) ?_
      refine mGd_plain (M := zm_150) (q := (16, .getfield 202, 3, 0, 9, 17, 0)) hE150 rfl (by decide) (fun h => nomatch h) (fun h => nomatch h) (fun h => nomatch h) (mp_getf m2 e2 rfl) ?_
      refine mGd_plain (M := zm_150) (q := (19, .aload_n 0, 1, 0, 0, 0, 0)) hE150 rfl (by decide) (fun h => nomatch h) (fun h => nomatch h) (fun h => nomatch h) (mp_ldv rfl rfl rfl l0_1 rfl) ?_
      refine mGd_plain (M := zm_150) (q := (20, .getfield 10, 3, 0, 10, 0, 0)) hE150 rfl (by decide) (fun h => nomatch h) (fun h => nomatch h) (fun h => nomatch h) (mp_getf m1 e1 rfl) ?_
      refine mGd_plain (M := zm_150) (q := (23, .getfield 239, 3, 0, 9, 3, 0)) hE150 rfl (by decide) (fun h => nomatch h) (fun h => nomatch h) (fun h => nomatch h) (mp_getf m2 e3 rfl) ?_
      refine mGd_plain (M := zm_150) (q := (26, .iconst 0, 1, 0, 0, 0, 0)) hE150 rfl (by decide) (fun h => nomatch h) (fun h => nomatch h) (fun h => nomatch h) (show mplain _ _ _ _ _ _ _ = some (_, _, .int (Int32.ofNat 0) :: _, _) from rfl) ?_
      refine mGd_plain (M := zm_150) (q := (27, .iaload, 1, 0, 0, 0, 0)) hE150 rfl (by decide) (fun h => nomatch h) (fun h => nomatch h) (fun h => nomatch h) (mp_iald (marr_m m3 h8) rfl v0) ?_
      refine mGd_call (M := zm_150) (q := (28, .invokestatic 338, 3, 9, 3, 2, 0)) hE150 rfl rfl hE3 (Nat.le_of_ble_eq_true rfl) (Nat.le_of_ble_eq_true rfl) (Nat.le_of_ble_eq_true rfl) rfl ?_
      refine zmx hE3 (a := 0) (b := 0) (by omega) (by omega) rfl rfl ?_
      show mGd E P (d + 1) 150 31 (mst1 ls 3 (.int (Int32.ofNat 0))) [.int (Int32.ofNat (zmaxN 0 0))] mem nc ns
      rw [show zmaxN 0 0 = 0 from rfl]
      refine mGd_plain (M := zm_150) (q := (31, .iload_n 1, 1, 0, 0, 0, 0)) hE150 rfl (by decide) (fun h => nomatch h) (fun h => nomatch h) (fun h => nomatch h) (mp_ldv rfl rfl rfl l1_1 rfl) ?_
      refine mGd_plain (M := zm_150) (q := (32, .aload_n 0, 1, 0, 0, 0, 0)) hE150 rfl (by decide) (fun h => nomatch h) (fun h => nomatch h) (fun h => nomatch h) (mp_ldv rfl rfl rfl l0_1 rfl) ?_
      refine mGd_plain (M := zm_150) (q := (33, .getfield 10, 3, 0, 10, 0, 0)) hE150 rfl (by decide) (fun h => nomatch h) (fun h => nomatch h) (fun h => nomatch h) (mp_getf m1 e1 rfl) ?_
      refine mGd_plain (M := zm_150) (q := (36, .getfield 126, 3, 0, 9, 0, 0)) hE150 rfl (by decide) (fun h => nomatch h) (fun h => nomatch h) (fun h => nomatch h) (mp_getf m2 e4 rfl) ?_
      refine mGd_plain (M := zm_150) (q := (39, .iconst 0, 1, 0, 0, 0, 0)) hE150 rfl (by decide) (fun h => nomatch h) (fun h => nomatch h) (fun h => nomatch h) (show mplain _ _ _ _ _ _ _ = some (_, _, .int (Int32.ofNat 0) :: _, _) from rfl) ?_
      refine mGd_plain (M := zm_150) (q := (40, .iaload, 1, 0, 0, 0, 0)) hE150 rfl (by decide) (fun h => nomatch h) (fun h => nomatch h) (fun h => nomatch h) (mp_iald (marr_m m4 h8) rfl w0) ?_
      refine mGd_plain (M := zm_150) (q := (41, .imul, 1, 0, 0, 0, 0)) hE150 rfl (by decide) (fun h => nomatch h) (fun h => nomatch h) (fun h => nomatch h) mp_mulN ?_
      refine mGd_plain (M := zm_150) (q := (42, .iadd, 1, 0, 0, 0, 0)) hE150 rfl (by decide) (fun h => nomatch h) (fun h => nomatch h) (fun h => nomatch h) mp_addN ?_
      rw [show 0 + n * 2 = 2 * n from by omega]
      refine mGd_plain (M := zm_150) (q := (43, .istore_n 3, 1, 0, 0, 0, 0)) hE150 rfl (by decide) (fun h => nomatch h) (fun h => nomatch h) (fun h => nomatch h) (mp_stv rfl rfl rfl rfl rfl (by decide) (by decide)) ?_
      have l0_2 := mld_s1 (i := 3) (v := .int (Int32.ofNat (2 * n))) (by decide : 0 ≠ 3) (fun e => by cases e) l0_1
      have l1_2 := mld_s1 (i := 3) (v := .int (Int32.ofNat (2 * n))) (by decide : 1 ≠ 3) (fun e => by cases e) l1_1
      have l2_2 := mld_s1 (i := 3) (v := .int (Int32.ofNat (2 * n))) (by decide : 2 ≠ 3) (fun e => by cases e) l2_1
      have l3_2 := mld_s0 (ls := (mst1 ls 3 (.int (Int32.ofNat 0)))) (i := 3) (v := .int (Int32.ofNat (2 * n)))
      refine mGd_plain (M := zm_150) (q := (44, .iload_n 2, 1, 0, 0, 0, 0)) hE150 rfl (by decide) (fun h => nomatch h) (fun h => nomatch h) (fun h => nomatch h) (mp_ldv rfl rfl rfl l2_2 rfl) ?_
      refine mGd_plain (M := zm_150) (q := (45, .ifCond .le 39, 3, 0, 0, 0, 0)) hE150 rfl (by decide) (fun h => nomatch h) (fun h => nomatch h) (fun h => nomatch h) (mp_iz1 (t := 84) rfl (by unfold mcond; exact decide_eq_true ((zi32le (by omega) (by omega)).mpr (by omega)))) ?_
      refine mGd_plain (M := zm_150) (q := (84, .iload_n 3, 1, 0, 0, 0, 0)) hE150 rfl (by decide) (fun h => nomatch h) (fun h => nomatch h) (fun h => nomatch h) (mp_ldv rfl rfl rfl l3_2 rfl) ?_
      rw [show 2 * n = zsA n r from by unfold zsA; (repeat' split) <;> omega]
      exact mGd_iret (M := zm_150) (q := (85, .ireturn, 1, 0, 0, 0, 0)) hE150 rfl (by decide) rfl rfl rfl rfl hP
    · skip
      refine mGd_plain (M := zm_150) (q := (0, .aload_n 0, 1, 0, 0, 0, 0)) hE150 rfl (by decide) (fun h => nomatch h) (fun h => nomatch h) (fun h => nomatch h) (mp_ldv rfl rfl rfl l0 rfl) ?_
      refine mGd_plain (M := zm_150) (q := (1, .getfield 10, 3, 0, 10, 0, 0)) hE150 rfl (by decide) (fun h => nomatch h) (fun h => nomatch h) (fun h => nomatch h) (mp_getf m1 e1 rfl) ?_
      refine mGd_plain (M := zm_150) (q := (4, .getfield 202, 3, 0, 9, 17, 0)) hE150 rfl (by decide) (fun h => nomatch h) (fun h => nomatch h) (fun h => nomatch h) (mp_getf m2 e2 rfl) ?_
      refine mGd_plain (M := zm_150) (q := (7, .istore_n 3, 1, 0, 0, 0, 0)) hE150 rfl (by decide) (fun h => nomatch h) (fun h => nomatch h) (fun h => nomatch h) (mp_stv rfl rfl rfl rfl rfl (by decide) (by decide)) ?_
      have l0_1 := mld_s1 (i := 3) (v := .int (Int32.ofNat 0)) (by decide : 0 ≠ 3) (fun e => by cases e) l0
      have l1_1 := mld_s1 (i := 3) (v := .int (Int32.ofNat 0)) (by decide : 1 ≠ 3) (fun e => by cases e) l1
      have l2_1 := mld_s1 (i := 3) (v := .int (Int32.ofNat 0)) (by decide : 2 ≠ 3) (fun e => by cases e) l2
      have l3_1 := mld_s0 (ls := ls) (i := 3) (v := .int (Int32.ofNat 0))
      refine mGd_plain (M := zm_150) (q := (8, .iload_n 1, 1, 0, 0, 0, 0)) hE150 rfl (by decide) (fun h => nomatch h) (fun h => nomatch h) (fun h => nomatch h) (mp_ldv rfl rfl rfl l1_1 rfl) ?_
      refine mGd_plain (M := zm_150) (q := (9, .ifCond .le 35, 3, 0, 0, 0, 0)) hE150 rfl (by decide) (fun h => nomatch h) (fun h => nomatch h) (fun h => nomatch h) (mp_iz0 (t := 44) rfl (by unfold mcond; exact decide_eq_false (fun h => absurd ((zi32le (by omega) (by omega)).mp h) (by omega)))) ?_
      refine mGd_plain (M := zm_150) (q := (12, .aload_n 0, 1, 0, 0, 0, 0)) hE150 rfl (by decide) (fun h => nomatch h) (fun h => nomatch h) (fun h => nomatch h) (mp_ldv rfl rfl rfl l0_1 rfl) ?_
      refine mGd_plain (M := zm_150) (q := (13, .getfield 10, 3, 0, 10, 0, 0)) hE150 rfl (by decide) (fun h => nomatch h) (fun h => nomatch h) (fun h => nomatch h) (mp_getf m1 e1 rfl) ?_
      refine mGd_plain (M := zm_150) (q := (16, .getfield 202, 3, 0, 9, 17, 0)) hE150 rfl (by decide) (fun h => nomatch h) (fun h => nomatch h) (fun h => nomatch h) (mp_getf m2 e2 rfl) ?_
      refine mGd_plain (M := zm_150) (q := (19, .aload_n 0, 1, 0, 0, 0, 0)) hE150 rfl (by decide) (fun h => nomatch h) (fun h => nomatch h) (fun h => nomatch h) (mp_ldv rfl rfl rfl l0_1 rfl) ?_
      refine mGd_plain (M := zm_150) (q := (20, .getfield 10, 3, 0, 10, 0, 0)) hE150 rfl (by decide) (fun h => nomatch h) (fun h => nomatch h) (fun h => nomatch h) (mp_getf m1 e1 rfl) ?_
      refine mGd_plain (M := zm_150) (q := (23, .getfield 239, 3, 0, 9, 3, 0)) hE150 rfl (by decide) (fun h => nomatch h) (fun h => nomatch h) (fun h => nomatch h) (mp_getf m2 e3 rfl) ?_
      refine mGd_plain (M := zm_150) (q := (26, .iconst 0, 1, 0, 0, 0, 0)) hE150 rfl (by decide) (fun h => nomatch h) (fun h => nomatch h) (fun h => nomatch h) (show mplain _ _ _ _ _ _ _ = some (_, _, .int (Int32.ofNat 0) :: _, _) from rfl) ?_
      refine mGd_plain (M := zm_150) (q := (27, .iaload, 1, 0, 0, 0, 0)) hE150 rfl (by decide) (fun h => nomatch h) (fun h => nomatch h) (fun h => nomatch h) (mp_iald (marr_m m3 h8) rfl v0) ?_
      refine mGd_call (M := zm_150) (q := (28, .invokestatic 338, 3, 9, 3, 2, 0)) hE150 rfl rfl hE3 (Nat.le_of_ble_eq_true rfl) (Nat.le_of_ble_eq_true rfl) (Nat.le_of_ble_eq_true rfl) rfl ?_
      refine zmx hE3 (a := 0) (b := 0) (by omega) (by omega) rfl rfl ?_
      show mGd E P (d + 1) 150 31 (mst1 ls 3 (.int (Int32.ofNat 0))) [.int (Int32.ofNat (zmaxN 0 0))] mem nc ns
      rw [show zmaxN 0 0 = 0 from rfl]
      refine mGd_plain (M := zm_150) (q := (31, .iload_n 1, 1, 0, 0, 0, 0)) hE150 rfl (by decide) (fun h => nomatch h) (fun h => nomatch h) (fun h => nomatch h) (mp_ldv rfl rfl rfl l1_1 rfl) ?_
      refine mGd_plain (M := zm_150) (q := (32, .aload_n 0, 1, 0, 0, 0, 0)) hE150 rfl (by decide) (fun h => nomatch h) (fun h => nomatch h) (fun h => nomatch h) (mp_ldv rfl rfl rfl l0_1 rfl) ?_
      refine mGd_plain (M := zm_150) (q := (33, .getfield 10, 3, 0, 10, 0, 0)) hE150 rfl (by decide) (fun h => nomatch h) (fun h => nomatch h) (fun h => nomatch h) (mp_getf m1 e1 rfl) ?_
      refine mGd_plain (M := zm_150) (q := (36, .getfield 126, 3, 0, 9, 0, 0)) hE150 rfl (by decide) (fun h => nomatch h) (fun h => nomatch h) (fun h => nomatch h) (mp_getf m2 e4 rfl) ?_
      refine mGd_plain (M := zm_150) (q := (39, .iconst 0, 1, 0, 0, 0, 0)) hE150 rfl (by decide) (fun h => nomatch h) (fun h => nomatch h) (fun h => nomatch h) (show mplain _ _ _ _ _ _ _ = some (_, _, .int (Int32.ofNat 0) :: _, _) from rfl) ?_
      refine mGd_plain (M := zm_150) (q := (40, .iaload, 1, 0, 0, 0, 0)) hE150 rfl (by decide) (fun h => nomatch h) (fun h => nomatch h) (fun h => nomatch h) (mp_iald (marr_m m4 h8) rfl w0) ?_
      refine mGd_plain (M := zm_150) (q := (41, .imul, 1, 0, 0, 0, 0)) hE150 rfl (by decide) (fun h => nomatch h) (fun h => nomatch h) (fun h => nomatch h) mp_mulN ?_
      refine mGd_plain (M := zm_150) (q := (42, .iadd, 1, 0, 0, 0, 0)) hE150 rfl (by decide) (fun h => nomatch h) (fun h => nomatch h) (fun h => nomatch h) mp_addN ?_
      rw [show 0 + n * 2 = 2 * n from by omega]
      refine mGd_plain (M := zm_150) (q := (43, .istore_n 3, 1, 0, 0, 0, 0)) hE150 rfl (by decide) (fun h => nomatch h) (fun h => nomatch h) (fun h => nomatch h) (mp_stv rfl rfl rfl rfl rfl (by decide) (by decide)) ?_
      have l0_2 := mld_s1 (i := 3) (v := .int (Int32.ofNat (2 * n))) (by decide : 0 ≠ 3) (fun e => by cases e) l0_1
      have l1_2 := mld_s1 (i := 3) (v := .int (Int32.ofNat (2 * n))) (by decide : 1 ≠ 3) (fun e => by cases e) l1_1
      have l2_2 := mld_s1 (i := 3) (v := .int (Int32.ofNat (2 * n))) (by decide : 2 ≠ 3) (fun e => by cases e) l2_1
      have l3_2 := mld_s0 (ls := (mst1 ls 3 (.int (Int32.ofNat 0)))) (i := 3) (v := .int (Int32.ofNat (2 * n)))
      refine mGd_plain (M := zm_150) (q := (44, .iload_n 2, 1, 0, 0, 0, 0)) hE150 rfl (by decide) (fun h => nomatch h) (fun h => nomatch h) (fun h => nomatch h) (mp_ldv rfl rfl rfl l2_2 rfl) ?_
      refine mGd_plain (M := zm_150) (q := (45, .ifCond .le 39, 3, 0, 0, 0, 0)) hE150 rfl (by decide) (fun h => nomatch h) (fun h => nomatch h) (fun h => nomatch h) (mp_iz0 (t := 84) rfl (by unfold mcond; exact decide_eq_false (fun h => absurd ((zi32le (by omega) (by omega)).mp h) (by omega)))) ?_
      refine mGd_plain (M := zm_150) (q := (48, .iload_n 3, 1, 0, 0, 0, 0)) hE150 rfl (by decide) (fun h => nomatch h) (fun h => nomatch h) (fun h => nomatch h) (mp_ldv rfl rfl rfl l3_2 rfl) ?_
      refine mGd_plain (M := zm_150) (q := (49, .aload_n 0, 1, 0, 0, 0, 0)) hE150 rfl (by decide) (fun h => nomatch h) (fun h => nomatch h) (fun h => nomatch h) (mp_ldv rfl rfl rfl l0_2 rfl) ?_
      refine mGd_plain (M := zm_150) (q := (50, .getfield 10, 3, 0, 10, 0, 0)) hE150 rfl (by decide) (fun h => nomatch h) (fun h => nomatch h) (fun h => nomatch h) (mp_getf m1 e1 rfl) ?_
      refine mGd_plain (M := zm_150) (q := (53, .getfield 202, 3, 0, 9, 17, 0)) hE150 rfl (by decide) (fun h => nomatch h) (fun h => nomatch h) (fun h => nomatch h) (mp_getf m2 e2 rfl) ?_
      refine mGd_plain (M := zm_150) (q := (56, .aload_n 0, 1, 0, 0, 0, 0)) hE150 rfl (by decide) (fun h => nomatch h) (fun h => nomatch h) (fun h => nomatch h) (mp_ldv rfl rfl rfl l0_2 rfl) ?_
      refine mGd_plain (M := zm_150) (q := (57, .getfield 10, 3, 0, 10, 0, 0)) hE150 rfl (by decide) (fun h => nomatch h) (fun h => nomatch h) (fun h => nomatch h) (mp_getf m1 e1 rfl) ?_
      refine mGd_plain (M := zm_150) (q := (60, .getfield 239, 3, 0, 9, 3, 0)) hE150 rfl (by decide) (fun h => nomatch h) (fun h => nomatch h) (fun h => nomatch h) (mp_getf m2 e3 rfl) ?_
      refine mGd_plain (M := zm_150) (q := (63, .iconst 1, 1, 0, 0, 0, 0)) hE150 rfl (by decide) (fun h => nomatch h) (fun h => nomatch h) (fun h => nomatch h) (show mplain _ _ _ _ _ _ _ = some (_, _, .int (Int32.ofNat 1) :: _, _) from rfl) ?_
      refine mGd_plain (M := zm_150) (q := (64, .iaload, 1, 0, 0, 0, 0)) hE150 rfl (by decide) (fun h => nomatch h) (fun h => nomatch h) (fun h => nomatch h) (mp_iald (marr_m m3 h8) rfl v1) ?_
      refine mGd_call (M := zm_150) (q := (65, .invokestatic 338, 3, 9, 3, 2, 0)) hE150 rfl rfl hE3 (Nat.le_of_ble_eq_true rfl) (Nat.le_of_ble_eq_true rfl) (Nat.le_of_ble_eq_true rfl) rfl ?_
      refine zmx hE3 (a := 0) (b := 0) (by omega) (by omega) rfl rfl ?_
      show mGd E P (d + 1) 150 68 (mst1 (mst1 ls 3 (.int (Int32.ofNat 0))) 3 (.int (Int32.ofNat (2 * n)))) [.int (Int32.ofNat (zmaxN 0 0)), .int (Int32.ofNat (2 * n))] mem nc ns
      rw [show zmaxN 0 0 = 0 from rfl]
      refine mGd_plain (M := zm_150) (q := (68, .iload_n 2, 1, 0, 0, 0, 0)) hE150 rfl (by decide) (fun h => nomatch h) (fun h => nomatch h) (fun h => nomatch h) (mp_ldv rfl rfl rfl l2_2 rfl) ?_
      refine mGd_plain (M := zm_150) (q := (69, .aload_n 0, 1, 0, 0, 0, 0)) hE150 rfl (by decide) (fun h => nomatch h) (fun h => nomatch h) (fun h => nomatch h) (mp_ldv rfl rfl rfl l0_2 rfl) ?_
      refine mGd_plain (M := zm_150) (q := (70, .getfield 10, 3, 0, 10, 0, 0)) hE150 rfl (by decide) (fun h => nomatch h) (fun h => nomatch h) (fun h => nomatch h) (mp_getf m1 e1 rfl) ?_
      refine mGd_plain (M := zm_150) (q := (73, .getfield 126, 3, 0, 9, 0, 0)) hE150 rfl (by decide) (fun h => nomatch h) (fun h => nomatch h) (fun h => nomatch h) (mp_getf m2 e4 rfl) ?_
      refine mGd_plain (M := zm_150) (q := (76, .iconst 1, 1, 0, 0, 0, 0)) hE150 rfl (by decide) (fun h => nomatch h) (fun h => nomatch h) (fun h => nomatch h) (show mplain _ _ _ _ _ _ _ = some (_, _, .int (Int32.ofNat 1) :: _, _) from rfl) ?_
      refine mGd_plain (M := zm_150) (q := (77, .iaload, 1, 0, 0, 0, 0)) hE150 rfl (by decide) (fun h => nomatch h) (fun h => nomatch h) (fun h => nomatch h) (mp_iald (marr_m m4 h8) rfl w1) ?_
      refine mGd_plain (M := zm_150) (q := (78, .imul, 1, 0, 0, 0, 0)) hE150 rfl (by decide) (fun h => nomatch h) (fun h => nomatch h) (fun h => nomatch h) mp_mulN ?_
      refine mGd_plain (M := zm_150) (q := (79, .iadd, 1, 0, 0, 0, 0)) hE150 rfl (by decide) (fun h => nomatch h) (fun h => nomatch h) (fun h => nomatch h) mp_addN ?_
      rw [show 0 + (r - n) * 6 = 6 * (r - n) from by omega]
      refine mGd_call (M := zm_150) (q := (80, .invokestatic 338, 3, 9, 3, 2, 0)) hE150 rfl rfl hE3 (Nat.le_of_ble_eq_true rfl) (Nat.le_of_ble_eq_true rfl) (Nat.le_of_ble_eq_true rfl) rfl ?_
      refine zmx hE3 (a := (2 * n)) (b := (6 * (r - n))) (by omega) (by omega) rfl rfl ?_
      show mGd E P (d + 1) 150 83 (mst1 (mst1 ls 3 (.int (Int32.ofNat 0))) 3 (.int (Int32.ofNat (2 * n)))) [.int (Int32.ofNat (zmaxN (2 * n) (6 * (r - n))))] mem nc ns
      rw [show zmaxN (2 * n) (6 * (r - n)) = zsA n r from by unfold zmaxN zsA; (repeat' split) <;> omega]
      refine mGd_plain (M := zm_150) (q := (83, .istore_n 3, 1, 0, 0, 0, 0)) hE150 rfl (by decide) (fun h => nomatch h) (fun h => nomatch h) (fun h => nomatch h) (mp_stv rfl rfl rfl rfl rfl (by decide) (by decide)) ?_
      have l0_3 := mld_s1 (i := 3) (v := .int (Int32.ofNat (zsA n r))) (by decide : 0 ≠ 3) (fun e => by cases e) l0_2
      have l1_3 := mld_s1 (i := 3) (v := .int (Int32.ofNat (zsA n r))) (by decide : 1 ≠ 3) (fun e => by cases e) l1_2
      have l2_3 := mld_s1 (i := 3) (v := .int (Int32.ofNat (zsA n r))) (by decide : 2 ≠ 3) (fun e => by cases e) l2_2
      have l3_3 := mld_s0 (ls := (mst1 (mst1 ls 3 (.int (Int32.ofNat 0))) 3 (.int (Int32.ofNat (2 * n))))) (i := 3) (v := .int (Int32.ofNat (zsA n r)))
      refine mGd_plain (M := zm_150) (q := (84, .iload_n 3, 1, 0, 0, 0, 0)) hE150 rfl (by decide) (fun h => nomatch h) (fun h => nomatch h) (fun h => nomatch h) (mp_ldv rfl rfl rfl l3_3 rfl) ?_
      exact mGd_iret (M := zm_150) (q := (85, .ireturn, 1, 0, 0, 0, 0)) hE150 rfl (by decide) rfl rfl rfl rfl hP
theorem znb {E : mEnv} (hE112 : E.1 112 = some zm_112) {P : mRes → Prop} {d nc ns v a b : Nat} {ls : mLs} {mem : mMem} (hv : v < 2147483648) (hb : b < 2147483648) (h1 : a ≤ v) (h2 : v ≤ b) (l1 : mld ls 1 = some (.int (Int32.ofNat v))) (l2 : mld ls 2 = some (.int (Int32.ofNat a))) (l3 : mld ls 3 = some (.int (Int32.ofNat b)))
    (hP : P (.inr none, mem, nc, ns)) : mGd E P d 112 0 ls [] mem nc ns := by
  refine mGd_plain (M := zm_112) (q := (0, .iload_n 1, 1, 0, 0, 0, 0)) hE112 rfl (by decide) (fun h => nomatch h) (fun h => nomatch h) (fun h => nomatch h) (mp_ldv rfl rfl rfl l1 rfl) ?_
  refine mGd_plain (M := zm_112) (q := (1, .iload_n 2, 1, 0, 0, 0, 0)) hE112 rfl (by decide) (fun h => nomatch h) (fun h => nomatch h) (fun h => nomatch h) (mp_ldv rfl rfl rfl l2 rfl) ?_
  refine mGd_plain (M := zm_112) (q := (2, .if_icmp .lt 8, 3, 0, 0, 0, 0)) hE112 rfl (by decide) (fun h => nomatch h) (fun h => nomatch h) (fun h => nomatch h) (mp_ic0 (t := 10) rfl (by unfold mcond; exact decide_eq_false (fun h => absurd ((zi32lt (by omega) (by omega)).mp h) (by omega)))) ?_
  refine mGd_plain (M := zm_112) (q := (5, .iload_n 1, 1, 0, 0, 0, 0)) hE112 rfl (by decide) (fun h => nomatch h) (fun h => nomatch h) (fun h => nomatch h) (mp_ldv rfl rfl rfl l1 rfl) ?_
  refine mGd_plain (M := zm_112) (q := (6, .iload_n 3, 1, 0, 0, 0, 0)) hE112 rfl (by decide) (fun h => nomatch h) (fun h => nomatch h) (fun h => nomatch h) (mp_ldv rfl rfl rfl l3 rfl) ?_
  refine mGd_plain (M := zm_112) (q := (7, .if_icmp .le 24, 3, 0, 0, 0, 0)) hE112 rfl (by decide) (fun h => nomatch h) (fun h => nomatch h) (fun h => nomatch h) (mp_ic1 (t := 31) rfl (by unfold mcond; exact decide_eq_true ((zi32le (by omega) (by omega)).mpr (by omega)))) ?_
  exact mGd_ret (M := zm_112) (q := (31, .return_, 1, 0, 0, 0, 0)) hE112 rfl (by decide) rfl rfl hP
/-- the best of the first n -/
def zbst (n r : Nat) : Nat := if n ≤ r - r / 4 then n else r - r / 4
theorem zbst_end (r : Nat) : zbst r r = r - r / 4 := by unfold zbst; split <;> omega
theorem zbst_s (r : Nat) (h : 1 ≤ r) : zsA (r - r / 4) r = 2 * (r - r / 4) := by unfold zsA; split <;> omega
theorem zbst_y {n r : Nat} (h : n + 1 ≤ r - r / 4) : zbst (n + 1) r = n + 1 ∧ zsA (n + 1) r ≤ zsA (zbst n r) r := by
  unfold zbst zsA
  rw [if_pos h, if_pos (show n ≤ r - r / 4 by omega)]
  exact ⟨rfl, by (repeat' split) <;> omega⟩
theorem zbst_n {n r : Nat} (h : ¬ n + 1 ≤ r - r / 4) (hr : n + 1 ≤ r) : zbst (n + 1) r = zbst n r ∧ zsA (zbst n r) r < zsA (n + 1) r := by
  have e : zbst n r = r - r / 4 := by unfold zbst; split <;> omega
  refine ⟨?_, ?_⟩
  · rw [e]; unfold zbst; rw [if_neg h]
  · rw [e]; unfold zsA; (repeat' split) <;> omega
theorem zsA_le {n r : Nat} (hn : n ≤ r) (hr : r ≤ 1000) : zsA n r ≤ 6000 := by unfold zsA; split <;> omega
theorem zbst_le (n r : Nat) : zbst n r ≤ n ∧ zbst n r ≤ r - r / 4 := by unfold zbst; split <;> omega
theorem zsC {E : mEnv} (hE149 : E.1 149 = some zm_149) (hE150 : E.1 150 = some zm_150) (hE3 : E.1 3 = some zm_3) {P : mRes → Prop} {d nc ns X r w : Nat} {mem : mMem} (hC : zCs mem X) (hr : r ≤ 1000) (h1 : 1 ≤ r) (hw : w ≤ 1)
    (hP : P (.inr (some (.int (Int32.ofNat (if w = 0 then r - r / 4 else 2 * (r - r / 4))))), mem, nc, ns)) : ∀ (t n : Nat) (ls : mLs), n + t = r → mld ls 0 = some (.ref X) → mld ls 1 = some (.int (Int32.ofNat r)) → mld ls 2 = some (.int (Int32.ofNat w)) → mld ls 3 = some (.int (Int32.ofNat (zbst n r))) → mld ls 4 = some (.int (Int32.ofNat (zsA (zbst n r) r))) → mld ls 5 = some (.int (Int32.ofNat (n + 1))) → mGd E P (d + 2) 149 29 ls [] mem nc ns := by
  intro t
  induction t with
  | zero =>
    intro n ls hn l0 l1 l2 l3 l4 l5
    obtain rfl : n = r := by omega
    rw [zbst_end] at l3 l4
    rw [zbst_s n h1] at l4
    obtain ⟨Wd, Fr, St, fx, fw, ff, fs, h8, m1, e1, m2, e2, e3, e4, m3, v0, v1, m4, w0, w1⟩ := hC
    by_cases hz : w = 0
    · subst hz
      rw [if_pos rfl] at hP
      refine mGd_plain (M := zm_149) (q := (29, .iload 5, 2, 0, 0, 0, 0)) hE149 rfl (by decide) (fun h => nomatch h) (fun h => nomatch h) (fun h => nomatch h) (mp_ldv rfl rfl rfl l5 rfl) ?_
      refine mGd_plain (M := zm_149) (q := (31, .iload_n 1, 1, 0, 0, 0, 0)) hE149 rfl (by decide) (fun h => nomatch h) (fun h => nomatch h) (fun h => nomatch h) (mp_ldv rfl rfl rfl l1 rfl) ?_
      refine mGd_plain (M := zm_149) (q := (32, .if_icmp .gt 35, 3, 0, 0, 0, 0)) hE149 rfl (by decide) (fun h => nomatch h) (fun h => nomatch h) (fun h => nomatch h) (mp_ic1 (t := 67) rfl (by unfold mcond; exact decide_eq_true ((zi32lt (by omega) (by omega)).mpr (by omega)))) ?_
      refine mGd_plain (M := zm_149) (q := (67, .iload_n 2, 1, 0, 0, 0, 0)) hE149 rfl (by decide) (fun h => nomatch h) (fun h => nomatch h) (fun h => nomatch h) (mp_ldv rfl rfl rfl l2 rfl) ?_
      refine mGd_plain (M := zm_149) (q := (68, .ifCond .ne 7, 3, 0, 0, 0, 0)) hE149 rfl (by decide) (fun h => nomatch h) (fun h => nomatch h) (fun h => nomatch h) (mp_iz0 (t := 75) rfl (by unfold mcond; rw [decide_eq_true (congrArg Int32.ofNat (by omega))]; rfl)) ?_
      refine mGd_plain (M := zm_149) (q := (71, .iload_n 3, 1, 0, 0, 0, 0)) hE149 rfl (by decide) (fun h => nomatch h) (fun h => nomatch h) (fun h => nomatch h) (mp_ldv rfl rfl rfl l3 rfl) ?_
      refine mGd_plain (M := zm_149) (q := (72, .goto 13, 3, 0, 0, 0, 0)) hE149 rfl (by decide) (fun h => nomatch h) (fun h => nomatch h) (fun h => nomatch h) rfl ?_
      exact mGd_iret (M := zm_149) (q := (85, .ireturn, 1, 0, 0, 0, 0)) hE149 rfl (by decide) rfl rfl rfl rfl hP
    · obtain rfl : w = 1 := by omega
      rw [if_neg (by decide)] at hP
      refine mGd_plain (M := zm_149) (q := (29, .iload 5, 2, 0, 0, 0, 0)) hE149 rfl (by decide) (fun h => nomatch h) (fun h => nomatch h) (fun h => nomatch h) (mp_ldv rfl rfl rfl l5 rfl) ?_
      refine mGd_plain (M := zm_149) (q := (31, .iload_n 1, 1, 0, 0, 0, 0)) hE149 rfl (by decide) (fun h => nomatch h) (fun h => nomatch h) (fun h => nomatch h) (mp_ldv rfl rfl rfl l1 rfl) ?_
      refine mGd_plain (M := zm_149) (q := (32, .if_icmp .gt 35, 3, 0, 0, 0, 0)) hE149 rfl (by decide) (fun h => nomatch h) (fun h => nomatch h) (fun h => nomatch h) (mp_ic1 (t := 67) rfl (by unfold mcond; exact decide_eq_true ((zi32lt (by omega) (by omega)).mpr (by omega)))) ?_
      refine mGd_plain (M := zm_149) (q := (67, .iload_n 2, 1, 0, 0, 0, 0)) hE149 rfl (by decide) (fun h => nomatch h) (fun h => nomatch h) (fun h => nomatch h) (mp_ldv rfl rfl rfl l2 rfl) ?_
      refine mGd_plain (M := zm_149) (q := (68, .ifCond .ne 7, 3, 0, 0, 0, 0)) hE149 rfl (by decide) (fun h => nomatch h) (fun h => nomatch h) (fun h => nomatch h) (mp_iz1 (t := 75) rfl (by unfold mcond; rw [decide_eq_false (fun h => absurd ((zi32eq (by omega) (by omega)).mp h) (by omega))]; rfl)) ?_
      refine mGd_plain (M := zm_149) (q := (75, .iload 4, 2, 0, 0, 0, 0)) hE149 rfl (by decide) (fun h => nomatch h) (fun h => nomatch h) (fun h => nomatch h) (mp_ldv rfl rfl rfl l4 rfl) ?_
      refine mGd_plain (M := zm_149) (q := (77, .aload_n 0, 1, 0, 0, 0, 0)) hE149 rfl (by decide) (fun h => nomatch h) (fun h => nomatch h) (fun h => nomatch h) (mp_ldv rfl rfl rfl l0 rfl) ?_
      refine mGd_plain (M := zm_149) (q := (78, .getfield 10, 3, 0, 10, 0, 0)) hE149 rfl (by decide) (fun h => nomatch h) (fun h => nomatch h) (fun h => nomatch h) (mp_getf m1 e1 rfl) ?_
      refine mGd_plain (M := zm_149) (q := (81, .getfield 202, 3, 0, 9, 17, 0)) hE149 rfl (by decide) (fun h => nomatch h) (fun h => nomatch h) (fun h => nomatch h) (mp_getf m2 e2 rfl) ?_
      refine mGd_plain (M := zm_149) (q := (84, .isub, 1, 0, 0, 0, 0)) hE149 rfl (by decide) (fun h => nomatch h) (fun h => nomatch h) (fun h => nomatch h) (mp_subN (by omega)) ?_
      rw [show 2 * (n - n / 4) - 0 = 2 * (n - n / 4) from by omega]
      exact mGd_iret (M := zm_149) (q := (85, .ireturn, 1, 0, 0, 0, 0)) hE149 rfl (by decide) rfl rfl rfl rfl hP
  | succ t ih =>
    intro n ls hn l0 l1 l2 l3 l4 l5
    have hb := zsA_le (n := n + 1) (r := r) (by omega) hr
    have hb2 := zsA_le (n := zbst n r) (r := r) (by have := zbst_le n r; omega) hr
    have hb3 := zbst_le n r
    have hX := hC
    obtain ⟨Wd, Fr, St, fx, fw, ff, fs, h8, m1, e1, m2, e2, e3, e4, m3, v0, v1, m4, w0, w1⟩ := hX
    refine mGd_plain (M := zm_149) (q := (29, .iload 5, 2, 0, 0, 0, 0)) hE149 rfl (by decide) (fun h => nomatch h) (fun h => nomatch h) (fun h => nomatch h) (mp_ldv rfl rfl rfl l5 rfl) ?_
    refine mGd_plain (M := zm_149) (q := (31, .iload_n 1, 1, 0, 0, 0, 0)) hE149 rfl (by decide) (fun h => nomatch h) (fun h => nomatch h) (fun h => nomatch h) (mp_ldv rfl rfl rfl l1 rfl) ?_
    refine mGd_plain (M := zm_149) (q := (32, .if_icmp .gt 35, 3, 0, 0, 0, 0)) hE149 rfl (by decide) (fun h => nomatch h) (fun h => nomatch h) (fun h => nomatch h) (mp_ic0 (t := 67) rfl (by unfold mcond; exact decide_eq_false (fun h => absurd ((zi32lt (by omega) (by omega)).mp h) (by omega)))) ?_
    refine mGd_plain (M := zm_149) (q := (35, .aload_n 0, 1, 0, 0, 0, 0)) hE149 rfl (by decide) (fun h => nomatch h) (fun h => nomatch h) (fun h => nomatch h) (mp_ldv rfl rfl rfl l0 rfl) ?_
    refine mGd_plain (M := zm_149) (q := (36, .iload 5, 2, 0, 0, 0, 0)) hE149 rfl (by decide) (fun h => nomatch h) (fun h => nomatch h) (fun h => nomatch h) (mp_ldv rfl rfl rfl l5 rfl) ?_
    refine mGd_plain (M := zm_149) (q := (38, .iload_n 1, 1, 0, 0, 0, 0)) hE149 rfl (by decide) (fun h => nomatch h) (fun h => nomatch h) (fun h => nomatch h) (mp_ldv rfl rfl rfl l1 rfl) ?_
    refine mGd_plain (M := zm_149) (q := (39, .iload 5, 2, 0, 0, 0, 0)) hE149 rfl (by decide) (fun h => nomatch h) (fun h => nomatch h) (fun h => nomatch h) (mp_ldv rfl rfl rfl l5 rfl) ?_
    refine mGd_plain (M := zm_149) (q := (41, .isub, 1, 0, 0, 0, 0)) hE149 rfl (by decide) (fun h => nomatch h) (fun h => nomatch h) (fun h => nomatch h) (mp_subN (by omega)) ?_
    refine mGd_call (M := zm_149) (q := (42, .invokevirtual 332, 3, 9, 150, 3, 10)) hE149 rfl rfl hE150 (Nat.le_of_ble_eq_true rfl) (Nat.le_of_ble_eq_true rfl) (Nat.le_of_ble_eq_true rfl) (mrv m1 rfl) ?_
    refine zlE hE150 hE3 hC (n := n + 1) (by omega) hr h1 rfl rfl rfl ?_
    show mGd E P (d + 2) 149 45 ls [.int (Int32.ofNat (zsA (n + 1) r))] mem nc ns
    refine mGd_plain (M := zm_149) (q := (45, .istore 6, 2, 0, 0, 0, 0)) hE149 rfl (by decide) (fun h => nomatch h) (fun h => nomatch h) (fun h => nomatch h) (mp_stv rfl rfl rfl rfl rfl (by decide) (by decide)) ?_
    have l0_1 := mld_s1 (i := 6) (v := .int (Int32.ofNat (zsA (n + 1) r))) (by decide : 0 ≠ 6) (fun e => by cases e) l0
    have l1_1 := mld_s1 (i := 6) (v := .int (Int32.ofNat (zsA (n + 1) r))) (by decide : 1 ≠ 6) (fun e => by cases e) l1
    have l2_1 := mld_s1 (i := 6) (v := .int (Int32.ofNat (zsA (n + 1) r))) (by decide : 2 ≠ 6) (fun e => by cases e) l2
    have l3_1 := mld_s1 (i := 6) (v := .int (Int32.ofNat (zsA (n + 1) r))) (by decide : 3 ≠ 6) (fun e => by cases e) l3
    have l4_1 := mld_s1 (i := 6) (v := .int (Int32.ofNat (zsA (n + 1) r))) (by decide : 4 ≠ 6) (fun e => by cases e) l4
    have l5_1 := mld_s1 (i := 6) (v := .int (Int32.ofNat (zsA (n + 1) r))) (by decide : 5 ≠ 6) (fun e => by cases e) l5
    have l6_1 := mld_s0 (ls := ls) (i := 6) (v := .int (Int32.ofNat (zsA (n + 1) r)))
    refine mGd_plain (M := zm_149) (q := (47, .iload 6, 2, 0, 0, 0, 0)) hE149 rfl (by decide) (fun h => nomatch h) (fun h => nomatch h) (fun h => nomatch h) (mp_ldv rfl rfl rfl l6_1 rfl) ?_
    refine mGd_plain (M := zm_149) (q := (49, .iload 4, 2, 0, 0, 0, 0)) hE149 rfl (by decide) (fun h => nomatch h) (fun h => nomatch h) (fun h => nomatch h) (mp_ldv rfl rfl rfl l4_1 rfl) ?_
    by_cases hy : n + 1 ≤ r - r / 4
    · obtain ⟨y1, y2⟩ := zbst_y hy
      refine mGd_plain (M := zm_149) (q := (51, .if_icmp .gt 10, 3, 0, 0, 0, 0)) hE149 rfl (by decide) (fun h => nomatch h) (fun h => nomatch h) (fun h => nomatch h) (mp_ic0 (t := 61) rfl (by unfold mcond; exact decide_eq_false (fun h => absurd ((zi32lt (by omega) (by omega)).mp h) (by omega)))) ?_
      refine mGd_plain (M := zm_149) (q := (54, .iload 6, 2, 0, 0, 0, 0)) hE149 rfl (by decide) (fun h => nomatch h) (fun h => nomatch h) (fun h => nomatch h) (mp_ldv rfl rfl rfl l6_1 rfl) ?_
      refine mGd_plain (M := zm_149) (q := (56, .istore 4, 2, 0, 0, 0, 0)) hE149 rfl (by decide) (fun h => nomatch h) (fun h => nomatch h) (fun h => nomatch h) (mp_stv rfl rfl rfl rfl rfl (by decide) (by decide)) ?_
      have l0_2 := mld_s1 (i := 4) (v := .int (Int32.ofNat (zsA (n + 1) r))) (by decide : 0 ≠ 4) (fun e => by cases e) l0_1
      have l1_2 := mld_s1 (i := 4) (v := .int (Int32.ofNat (zsA (n + 1) r))) (by decide : 1 ≠ 4) (fun e => by cases e) l1_1
      have l2_2 := mld_s1 (i := 4) (v := .int (Int32.ofNat (zsA (n + 1) r))) (by decide : 2 ≠ 4) (fun e => by cases e) l2_1
      have l3_2 := mld_s1 (i := 4) (v := .int (Int32.ofNat (zsA (n + 1) r))) (by decide : 3 ≠ 4) (fun e => by cases e) l3_1
      have l5_2 := mld_s1 (i := 4) (v := .int (Int32.ofNat (zsA (n + 1) r))) (by decide : 5 ≠ 4) (fun e => by cases e) l5_1
      have l6_2 := mld_s1 (i := 4) (v := .int (Int32.ofNat (zsA (n + 1) r))) (by decide : 6 ≠ 4) (fun e => by cases e) l6_1
      have l4_2 := mld_s0 (ls := (mst1 ls 6 (.int (Int32.ofNat (zsA (n + 1) r))))) (i := 4) (v := .int (Int32.ofNat (zsA (n + 1) r)))
      refine mGd_plain (M := zm_149) (q := (58, .iload 5, 2, 0, 0, 0, 0)) hE149 rfl (by decide) (fun h => nomatch h) (fun h => nomatch h) (fun h => nomatch h) (mp_ldv rfl rfl rfl l5_2 rfl) ?_
      refine mGd_plain (M := zm_149) (q := (60, .istore_n 3, 1, 0, 0, 0, 0)) hE149 rfl (by decide) (fun h => nomatch h) (fun h => nomatch h) (fun h => nomatch h) (mp_stv rfl rfl rfl rfl rfl (by decide) (by decide)) ?_
      have l0_3 := mld_s1 (i := 3) (v := .int (Int32.ofNat (n + 1))) (by decide : 0 ≠ 3) (fun e => by cases e) l0_2
      have l1_3 := mld_s1 (i := 3) (v := .int (Int32.ofNat (n + 1))) (by decide : 1 ≠ 3) (fun e => by cases e) l1_2
      have l2_3 := mld_s1 (i := 3) (v := .int (Int32.ofNat (n + 1))) (by decide : 2 ≠ 3) (fun e => by cases e) l2_2
      have l4_3 := mld_s1 (i := 3) (v := .int (Int32.ofNat (n + 1))) (by decide : 4 ≠ 3) (fun e => by cases e) l4_2
      have l5_3 := mld_s1 (i := 3) (v := .int (Int32.ofNat (n + 1))) (by decide : 5 ≠ 3) (fun e => by cases e) l5_2
      have l6_3 := mld_s1 (i := 3) (v := .int (Int32.ofNat (n + 1))) (by decide : 6 ≠ 3) (fun e => by cases e) l6_2
      have l3_3 := mld_s0 (ls := (mst1 (mst1 ls 6 (.int (Int32.ofNat (zsA (n + 1) r)))) 4 (.int (Int32.ofNat (zsA (n + 1) r))))) (i := 3) (v := .int (Int32.ofNat (n + 1)))
      refine mGd_plain (M := zm_149) (q := (61, .iinc 5 1, 3, 0, 0, 0, 0)) hE149 rfl (by decide) (fun h => nomatch h) (fun h => nomatch h) (fun h => nomatch h) (mp_iincN l5_3 (by decide)) ?_
      have l0_4 := mld_s1 (i := 5) (v := .int (Int32.ofNat ((n + 1) + 1))) (by decide : 0 ≠ 5) (fun e => by cases e) l0_3
      have l1_4 := mld_s1 (i := 5) (v := .int (Int32.ofNat ((n + 1) + 1))) (by decide : 1 ≠ 5) (fun e => by cases e) l1_3
      have l2_4 := mld_s1 (i := 5) (v := .int (Int32.ofNat ((n + 1) + 1))) (by decide : 2 ≠ 5) (fun e => by cases e) l2_3
      have l3_4 := mld_s1 (i := 5) (v := .int (Int32.ofNat ((n + 1) + 1))) (by decide : 3 ≠ 5) (fun e => by cases e) l3_3
      have l4_4 := mld_s1 (i := 5) (v := .int (Int32.ofNat ((n + 1) + 1))) (by decide : 4 ≠ 5) (fun e => by cases e) l4_3
      have l6_4 := mld_s1 (i := 5) (v := .int (Int32.ofNat ((n + 1) + 1))) (by decide : 6 ≠ 5) (fun e => by cases e) l6_3
      have l5_4 := mld_s0 (ls := (mst1 (mst1 (mst1 ls 6 (.int (Int32.ofNat (zsA (n + 1) r)))) 4 (.int (Int32.ofNat (zsA (n + 1) r)))) 3 (.int (Int32.ofNat (n + 1))))) (i := 5) (v := .int (Int32.ofNat ((n + 1) + 1)))
      refine mGd_plain (M := zm_149) (q := (64, .goto (-35), 3, 0, 0, 0, 0)) hE149 rfl (by decide) (fun h => nomatch h) (fun h => nomatch h) (fun h => nomatch h) rfl ?_
      exact ih (n + 1) _ (by omega) l0_4 l1_4 l2_4 (by rw [y1]; exact l3_4) (by rw [y1]; exact l4_4) l5_4
    · obtain ⟨y1, y2⟩ := zbst_n hy (by omega)
      refine mGd_plain (M := zm_149) (q := (51, .if_icmp .gt 10, 3, 0, 0, 0, 0)) hE149 rfl (by decide) (fun h => nomatch h) (fun h => nomatch h) (fun h => nomatch h) (mp_ic1 (t := 61) rfl (by unfold mcond; exact decide_eq_true ((zi32lt (by omega) (by omega)).mpr (by omega)))) ?_
      refine mGd_plain (M := zm_149) (q := (61, .iinc 5 1, 3, 0, 0, 0, 0)) hE149 rfl (by decide) (fun h => nomatch h) (fun h => nomatch h) (fun h => nomatch h) (mp_iincN l5_1 (by decide)) ?_
      have l0_2 := mld_s1 (i := 5) (v := .int (Int32.ofNat ((n + 1) + 1))) (by decide : 0 ≠ 5) (fun e => by cases e) l0_1
      have l1_2 := mld_s1 (i := 5) (v := .int (Int32.ofNat ((n + 1) + 1))) (by decide : 1 ≠ 5) (fun e => by cases e) l1_1
      have l2_2 := mld_s1 (i := 5) (v := .int (Int32.ofNat ((n + 1) + 1))) (by decide : 2 ≠ 5) (fun e => by cases e) l2_1
      have l3_2 := mld_s1 (i := 5) (v := .int (Int32.ofNat ((n + 1) + 1))) (by decide : 3 ≠ 5) (fun e => by cases e) l3_1
      have l4_2 := mld_s1 (i := 5) (v := .int (Int32.ofNat ((n + 1) + 1))) (by decide : 4 ≠ 5) (fun e => by cases e) l4_1
      have l6_2 := mld_s1 (i := 5) (v := .int (Int32.ofNat ((n + 1) + 1))) (by decide : 6 ≠ 5) (fun e => by cases e) l6_1
      have l5_2 := mld_s0 (ls := (mst1 ls 6 (.int (Int32.ofNat (zsA (n + 1) r))))) (i := 5) (v := .int (Int32.ofNat ((n + 1) + 1)))
      refine mGd_plain (M := zm_149) (q := (64, .goto (-35), 3, 0, 0, 0, 0)) hE149 rfl (by decide) (fun h => nomatch h) (fun h => nomatch h) (fun h => nomatch h) rfl ?_
      exact ih (n + 1) _ (by omega) l0_2 l1_2 l2_2 (by rw [y1]; exact l3_2) (by rw [y1]; exact l4_2) l5_2
theorem zsCs {E : mEnv} (hE149 : E.1 149 = some zm_149) (hE150 : E.1 150 = some zm_150) (hE112 : E.1 112 = some zm_112) (hE3 : E.1 3 = some zm_3) {P : mRes → Prop} {d nc ns X r w : Nat} {ls : mLs} {mem : mMem} (hC : zCs mem X) (hr : r ≤ 1000) (h1 : 1 ≤ r) (hw : w ≤ 1) (l0 : mld ls 0 = some (.ref X)) (l1 : mld ls 1 = some (.int (Int32.ofNat r))) (l2 : mld ls 2 = some (.int (Int32.ofNat w)))
    (hP : P (.inr (some (.int (Int32.ofNat (if w = 0 then r - r / 4 else 2 * (r - r / 4))))), mem, nc, ns)) : mGd E P (d + 2) 149 0 ls [] mem nc ns := by
  have hX := hC
  obtain ⟨Wd, Fr, St, fx, fw, ff, fs, h8, m1, e1, m2, e2, e3, e4, m3, v0, v1, m4, w0, w1⟩ := hX
  refine mGd_plain (M := zm_149) (q := (0, .aload_n 0, 1, 0, 0, 0, 0)) hE149 rfl (by decide) (fun h => nomatch h) (fun h => nomatch h) (fun h => nomatch h) (mp_ldv rfl rfl rfl l0 rfl) ?_
  refine mGd_plain (M := zm_149) (q := (1, .iload_n 1, 1, 0, 0, 0, 0)) hE149 rfl (by decide) (fun h => nomatch h) (fun h => nomatch h) (fun h => nomatch h) (mp_ldv rfl rfl rfl l1 rfl) ?_
  refine mGd_plain (M := zm_149) (q := (2, .iconst 1, 1, 0, 0, 0, 0)) hE149 rfl (by decide) (fun h => nomatch h) (fun h => nomatch h) (fun h => nomatch h) (show mplain _ _ _ _ _ _ _ = some (_, _, .int (Int32.ofNat 1) :: _, _) from rfl) ?_
  refine mGd_plain (M := zm_149) (q := (3, .sipush 1000, 3, 0, 0, 0, 0)) hE149 rfl (by decide) (fun h => nomatch h) (fun h => nomatch h) (fun h => nomatch h) (show mplain _ _ _ _ _ _ _ = some (_, _, .int (Int32.ofNat 1000) :: _, _) from rfl) ?_
  refine mGd_call (M := zm_149) (q := (6, .invokevirtual 44, 3, 9, 112, 4, 10)) hE149 rfl rfl hE112 (Nat.le_of_ble_eq_true rfl) (Nat.le_of_ble_eq_true rfl) (Nat.le_of_ble_eq_true rfl) (mrv m1 rfl) ?_
  refine znb hE112 (v := r) (a := 1) (b := 1000) (by omega) (by omega) (by omega) (by omega) rfl rfl rfl ?_
  show mGd E P (d + 2) 149 9 ls [] mem nc ns
  refine mGd_plain (M := zm_149) (q := (9, .aload_n 0, 1, 0, 0, 0, 0)) hE149 rfl (by decide) (fun h => nomatch h) (fun h => nomatch h) (fun h => nomatch h) (mp_ldv rfl rfl rfl l0 rfl) ?_
  refine mGd_plain (M := zm_149) (q := (10, .iload_n 2, 1, 0, 0, 0, 0)) hE149 rfl (by decide) (fun h => nomatch h) (fun h => nomatch h) (fun h => nomatch h) (mp_ldv rfl rfl rfl l2 rfl) ?_
  refine mGd_plain (M := zm_149) (q := (11, .iconst 0, 1, 0, 0, 0, 0)) hE149 rfl (by decide) (fun h => nomatch h) (fun h => nomatch h) (fun h => nomatch h) (show mplain _ _ _ _ _ _ _ = some (_, _, .int (Int32.ofNat 0) :: _, _) from rfl) ?_
  refine mGd_plain (M := zm_149) (q := (12, .iconst 1, 1, 0, 0, 0, 0)) hE149 rfl (by decide) (fun h => nomatch h) (fun h => nomatch h) (fun h => nomatch h) (show mplain _ _ _ _ _ _ _ = some (_, _, .int (Int32.ofNat 1) :: _, _) from rfl) ?_
  refine mGd_call (M := zm_149) (q := (13, .invokevirtual 44, 3, 9, 112, 4, 10)) hE149 rfl rfl hE112 (Nat.le_of_ble_eq_true rfl) (Nat.le_of_ble_eq_true rfl) (Nat.le_of_ble_eq_true rfl) (mrv m1 rfl) ?_
  refine znb hE112 (v := w) (a := 0) (b := 1) (by omega) (by omega) (by omega) (by omega) rfl rfl rfl ?_
  show mGd E P (d + 2) 149 16 ls [] mem nc ns
  refine mGd_plain (M := zm_149) (q := (16, .iconst 0, 1, 0, 0, 0, 0)) hE149 rfl (by decide) (fun h => nomatch h) (fun h => nomatch h) (fun h => nomatch h) (show mplain _ _ _ _ _ _ _ = some (_, _, .int (Int32.ofNat 0) :: _, _) from rfl) ?_
  refine mGd_plain (M := zm_149) (q := (17, .istore_n 3, 1, 0, 0, 0, 0)) hE149 rfl (by decide) (fun h => nomatch h) (fun h => nomatch h) (fun h => nomatch h) (mp_stv rfl rfl rfl rfl rfl (by decide) (by decide)) ?_
  have l0_1 := mld_s1 (i := 3) (v := .int (Int32.ofNat 0)) (by decide : 0 ≠ 3) (fun e => by cases e) l0
  have l1_1 := mld_s1 (i := 3) (v := .int (Int32.ofNat 0)) (by decide : 1 ≠ 3) (fun e => by cases e) l1
  have l2_1 := mld_s1 (i := 3) (v := .int (Int32.ofNat 0)) (by decide : 2 ≠ 3) (fun e => by cases e) l2
  have l3_1 := mld_s0 (ls := ls) (i := 3) (v := .int (Int32.ofNat 0))
  refine mGd_plain (M := zm_149) (q := (18, .aload_n 0, 1, 0, 0, 0, 0)) hE149 rfl (by decide) (fun h => nomatch h) (fun h => nomatch h) (fun h => nomatch h) (mp_ldv rfl rfl rfl l0_1 rfl) ?_
  refine mGd_plain (M := zm_149) (q := (19, .iconst 0, 1, 0, 0, 0, 0)) hE149 rfl (by decide) (fun h => nomatch h) (fun h => nomatch h) (fun h => nomatch h) (show mplain _ _ _ _ _ _ _ = some (_, _, .int (Int32.ofNat 0) :: _, _) from rfl) ?_
  refine mGd_plain (M := zm_149) (q := (20, .iload_n 1, 1, 0, 0, 0, 0)) hE149 rfl (by decide) (fun h => nomatch h) (fun h => nomatch h) (fun h => nomatch h) (mp_ldv rfl rfl rfl l1_1 rfl) ?_
  refine mGd_call (M := zm_149) (q := (21, .invokevirtual 332, 3, 9, 150, 3, 10)) hE149 rfl rfl hE150 (Nat.le_of_ble_eq_true rfl) (Nat.le_of_ble_eq_true rfl) (Nat.le_of_ble_eq_true rfl) (mrv m1 rfl) ?_
  refine zlE hE150 hE3 hC (n := 0) (by omega) hr h1 rfl rfl rfl ?_
  show mGd E P (d + 2) 149 24 (mst1 ls 3 (.int (Int32.ofNat 0))) [.int (Int32.ofNat (zsA 0 r))] mem nc ns
  refine mGd_plain (M := zm_149) (q := (24, .istore 4, 2, 0, 0, 0, 0)) hE149 rfl (by decide) (fun h => nomatch h) (fun h => nomatch h) (fun h => nomatch h) (mp_stv rfl rfl rfl rfl rfl (by decide) (by decide)) ?_
  have l0_2 := mld_s1 (i := 4) (v := .int (Int32.ofNat (zsA 0 r))) (by decide : 0 ≠ 4) (fun e => by cases e) l0_1
  have l1_2 := mld_s1 (i := 4) (v := .int (Int32.ofNat (zsA 0 r))) (by decide : 1 ≠ 4) (fun e => by cases e) l1_1
  have l2_2 := mld_s1 (i := 4) (v := .int (Int32.ofNat (zsA 0 r))) (by decide : 2 ≠ 4) (fun e => by cases e) l2_1
  have l3_2 := mld_s1 (i := 4) (v := .int (Int32.ofNat (zsA 0 r))) (by decide : 3 ≠ 4) (fun e => by cases e) l3_1
  have l4_2 := mld_s0 (ls := (mst1 ls 3 (.int (Int32.ofNat 0)))) (i := 4) (v := .int (Int32.ofNat (zsA 0 r)))
  refine mGd_plain (M := zm_149) (q := (26, .iconst 1, 1, 0, 0, 0, 0)) hE149 rfl (by decide) (fun h => nomatch h) (fun h => nomatch h) (fun h => nomatch h) (show mplain _ _ _ _ _ _ _ = some (_, _, .int (Int32.ofNat 1) :: _, _) from rfl) ?_
  refine mGd_plain (M := zm_149) (q := (27, .istore 5, 2, 0, 0, 0, 0)) hE149 rfl (by decide) (fun h => nomatch h) (fun h => nomatch h) (fun h => nomatch h) (mp_stv rfl rfl rfl rfl rfl (by decide) (by decide)) ?_
  have l0_3 := mld_s1 (i := 5) (v := .int (Int32.ofNat 1)) (by decide : 0 ≠ 5) (fun e => by cases e) l0_2
  have l1_3 := mld_s1 (i := 5) (v := .int (Int32.ofNat 1)) (by decide : 1 ≠ 5) (fun e => by cases e) l1_2
  have l2_3 := mld_s1 (i := 5) (v := .int (Int32.ofNat 1)) (by decide : 2 ≠ 5) (fun e => by cases e) l2_2
  have l3_3 := mld_s1 (i := 5) (v := .int (Int32.ofNat 1)) (by decide : 3 ≠ 5) (fun e => by cases e) l3_2
  have l4_3 := mld_s1 (i := 5) (v := .int (Int32.ofNat 1)) (by decide : 4 ≠ 5) (fun e => by cases e) l4_2
  have l5_3 := mld_s0 (ls := (mst1 (mst1 ls 3 (.int (Int32.ofNat 0))) 4 (.int (Int32.ofNat (zsA 0 r))))) (i := 5) (v := .int (Int32.ofNat 1))
  exact zsC hE149 hE150 hE3 hC hr h1 hw hP r 0 _ (by omega) l0_3 l1_3 l2_3 (by rw [show zbst 0 r = 0 from by unfold zbst; rw [if_pos (Nat.zero_le _)]]; exact l3_3) (by rw [show zbst 0 r = 0 from by unfold zbst; rw [if_pos (Nat.zero_le _)]]; exact l4_3) l5_3
/-- the reference's state, as split looks at it -/
def zMs (mem : mMem) (X : Nat) : Prop := ∃ (Mm : Nat) (fm : List Value) (f : Nat → Value), mem.length ≤ 128 ∧ mem[X]? = some (.inr (11, fm)) ∧ fm[2]? = some (.ref Mm) ∧ fm[0]? = some (.int (Int32.ofNat 0)) ∧ mem[Mm]? = some (.inl (0, 969, f)) ∧ f 0 = .int (Int32.ofNat 0) ∧ f 1 = .int (Int32.ofNat 0) ∧ f 2 = .int (Int32.ofNat 0) ∧ f 20 = .int (Int32.ofNat 2) ∧ f 21 = .int (Int32.ofNat 6)
theorem zwi {E : mEnv} (hE162 : E.1 162 = some zm_162) {P : mRes → Prop} {d nc ns v a b : Nat} {ls : mLs} {mem : mMem} (hv : v < 2147483648) (hb : b < 2147483648) (h1 : a ≤ v) (h2 : v ≤ b) (l0 : mld ls 0 = some (.int (Int32.ofNat v))) (l1 : mld ls 1 = some (.int (Int32.ofNat a))) (l2 : mld ls 2 = some (.int (Int32.ofNat b)))
    (hP : P (.inr (some (.int (Int32.ofNat 1))), mem, nc, ns)) : mGd E P d 162 0 ls [] mem nc ns := by
  refine mGd_plain (M := zm_162) (q := (0, .iload_n 0, 1, 0, 0, 0, 0)) hE162 rfl (by decide) (fun h => nomatch h) (fun h => nomatch h) (fun h => nomatch h) (mp_ldv rfl rfl rfl l0 rfl) ?_
  refine mGd_plain (M := zm_162) (q := (1, .iload_n 1, 1, 0, 0, 0, 0)) hE162 rfl (by decide) (fun h => nomatch h) (fun h => nomatch h) (fun h => nomatch h) (mp_ldv rfl rfl rfl l1 rfl) ?_
  refine mGd_plain (M := zm_162) (q := (2, .if_icmp .lt 12, 3, 0, 0, 0, 0)) hE162 rfl (by decide) (fun h => nomatch h) (fun h => nomatch h) (fun h => nomatch h) (mp_ic0 (t := 14) rfl (by unfold mcond; exact decide_eq_false (fun h => absurd ((zi32lt (by omega) (by omega)).mp h) (by omega)))) ?_
  refine mGd_plain (M := zm_162) (q := (5, .iload_n 0, 1, 0, 0, 0, 0)) hE162 rfl (by decide) (fun h => nomatch h) (fun h => nomatch h) (fun h => nomatch h) (mp_ldv rfl rfl rfl l0 rfl) ?_
  refine mGd_plain (M := zm_162) (q := (6, .iload_n 2, 1, 0, 0, 0, 0)) hE162 rfl (by decide) (fun h => nomatch h) (fun h => nomatch h) (fun h => nomatch h) (mp_ldv rfl rfl rfl l2 rfl) ?_
  refine mGd_plain (M := zm_162) (q := (7, .if_icmp .gt 7, 3, 0, 0, 0, 0)) hE162 rfl (by decide) (fun h => nomatch h) (fun h => nomatch h) (fun h => nomatch h) (mp_ic0 (t := 14) rfl (by unfold mcond; exact decide_eq_false (fun h => absurd ((zi32lt (by omega) (by omega)).mp h) (by omega)))) ?_
  refine mGd_plain (M := zm_162) (q := (10, .iconst 1, 1, 0, 0, 0, 0)) hE162 rfl (by decide) (fun h => nomatch h) (fun h => nomatch h) (fun h => nomatch h) (show mplain _ _ _ _ _ _ _ = some (_, _, .int (Int32.ofNat 1) :: _, _) from rfl) ?_
  refine mGd_plain (M := zm_162) (q := (11, .goto 4, 3, 0, 0, 0, 0)) hE162 rfl (by decide) (fun h => nomatch h) (fun h => nomatch h) (fun h => nomatch h) rfl ?_
  exact mGd_iret (M := zm_162) (q := (15, .ireturn, 1, 0, 0, 0, 0)) hE162 rfl (by decide) rfl rfl rfl rfl hP
theorem zfi2 {E : mEnv} (hE163 : E.1 163 = some zm_163) {P : mRes → Prop} {d nc ns X : Nat} {fm : List Value} {ls : mLs} {mem : mMem} (m1 : mem[X]? = some (.inr (11, fm))) (e1 : fm[0]? = some (.int (Int32.ofNat 0))) (l0 : mld ls 0 = some (.ref X)) (l1 : mld ls 1 = some (.int (Int32.ofNat 1)))
    (hP : P (.inr (some (.int (Int32.ofNat 1))), mem, nc, ns)) : mGd E P d 163 0 ls [] mem nc ns := by
  refine mGd_plain (M := zm_163) (q := (0, .iload_n 1, 1, 0, 0, 0, 0)) hE163 rfl (by decide) (fun h => nomatch h) (fun h => nomatch h) (fun h => nomatch h) (mp_ldv rfl rfl rfl l1 rfl) ?_
  refine mGd_plain (M := zm_163) (q := (1, .ifCond .ne 25, 3, 0, 0, 0, 0)) hE163 rfl (by decide) (fun h => nomatch h) (fun h => nomatch h) (fun h => nomatch h) (mp_iz1 (t := 26) rfl (by decide)) ?_
  refine mGd_plain (M := zm_163) (q := (26, .aload_n 0, 1, 0, 0, 0, 0)) hE163 rfl (by decide) (fun h => nomatch h) (fun h => nomatch h) (fun h => nomatch h) (mp_ldv rfl rfl rfl l0 rfl) ?_
  refine mGd_plain (M := zm_163) (q := (27, .getfield 1, 3, 0, 11, 0, 0)) hE163 rfl (by decide) (fun h => nomatch h) (fun h => nomatch h) (fun h => nomatch h) (mp_getf m1 e1 rfl) ?_
  refine mGd_plain (M := zm_163) (q := (30, .ifCond .ne 7, 3, 0, 0, 0, 0)) hE163 rfl (by decide) (fun h => nomatch h) (fun h => nomatch h) (fun h => nomatch h) (mp_iz0 (t := 37) rfl (by decide)) ?_
  refine mGd_plain (M := zm_163) (q := (33, .iconst 1, 1, 0, 0, 0, 0)) hE163 rfl (by decide) (fun h => nomatch h) (fun h => nomatch h) (fun h => nomatch h) (show mplain _ _ _ _ _ _ _ = some (_, _, .int (Int32.ofNat 1) :: _, _) from rfl) ?_
  refine mGd_plain (M := zm_163) (q := (34, .goto 4, 3, 0, 0, 0, 0)) hE163 rfl (by decide) (fun h => nomatch h) (fun h => nomatch h) (fun h => nomatch h) rfl ?_
  exact mGd_iret (M := zm_163) (q := (38, .ireturn, 1, 0, 0, 0, 0)) hE163 rfl (by decide) rfl rfl rfl rfl hP
theorem zsM {E : mEnv} (hE257 : E.1 257 = some zm_257) (hE185 : E.1 185 = some zm_185) {P : mRes → Prop} {d nc ns X r w : Nat} {mem : mMem} (hC : zMs mem X) (hr : r ≤ 1000) (h1 : 1 ≤ r) (hw : w ≤ 1)
    (hP : P (.inr (some (.int (Int32.ofNat (if w = 0 then r - r / 4 else 2 * (r - r / 4))))), mem, nc, ns)) : ∀ (t n : Nat) (ls : mLs), n + t = r → mld ls 0 = some (.ref X) → mld ls 1 = some (.int (Int32.ofNat r)) → mld ls 2 = some (.int (Int32.ofNat w)) → mld ls 3 = some (.int (Int32.ofNat (zbst n r))) → mld ls 4 = some (.int (Int32.ofNat (zsA (zbst n r) r))) → mld ls 5 = some (.int (Int32.ofNat (n + 1))) → mGd E P (d + 1) 257 49 ls [] mem nc ns := by
  obtain ⟨Mm, fm, f, h8, m1, e1, e0, m2, v0, v1, v2, v3, v4⟩ := hC
  intro t
  induction t with
  | zero =>
    intro n ls hn l0 l1 l2 l3 l4 l5
    obtain rfl : n = r := by omega
    rw [zbst_end] at l3 l4
    rw [zbst_s n h1] at l4
    by_cases hz : w = 0
    · subst hz
      rw [if_pos rfl] at hP
      refine mGd_plain (M := zm_257) (q := (49, .iload 5, 2, 0, 0, 0, 0)) hE257 rfl (by decide) (fun h => nomatch h) (fun h => nomatch h) (fun h => nomatch h) (mp_ldv rfl rfl rfl l5 rfl) ?_
      refine mGd_plain (M := zm_257) (q := (51, .iload_n 1, 1, 0, 0, 0, 0)) hE257 rfl (by decide) (fun h => nomatch h) (fun h => nomatch h) (fun h => nomatch h) (mp_ldv rfl rfl rfl l1 rfl) ?_
      refine mGd_plain (M := zm_257) (q := (52, .if_icmp .gt 123, 3, 0, 0, 0, 0)) hE257 rfl (by decide) (fun h => nomatch h) (fun h => nomatch h) (fun h => nomatch h) (mp_ic1 (t := 175) rfl (by unfold mcond; exact decide_eq_true ((zi32lt (by omega) (by omega)).mpr (by omega)))) ?_
      refine mGd_plain (M := zm_257) (q := (175, .iload_n 2, 1, 0, 0, 0, 0)) hE257 rfl (by decide) (fun h => nomatch h) (fun h => nomatch h) (fun h => nomatch h) (mp_ldv rfl rfl rfl l2 rfl) ?_
      refine mGd_plain (M := zm_257) (q := (176, .ifCond .ne 7, 3, 0, 0, 0, 0)) hE257 rfl (by decide) (fun h => nomatch h) (fun h => nomatch h) (fun h => nomatch h) (mp_iz0 (t := 183) rfl (by unfold mcond; rw [decide_eq_true (congrArg Int32.ofNat (by omega))]; rfl)) ?_
      refine mGd_plain (M := zm_257) (q := (179, .iload_n 3, 1, 0, 0, 0, 0)) hE257 rfl (by decide) (fun h => nomatch h) (fun h => nomatch h) (fun h => nomatch h) (mp_ldv rfl rfl rfl l3 rfl) ?_
      refine mGd_plain (M := zm_257) (q := (180, .goto 12, 3, 0, 0, 0, 0)) hE257 rfl (by decide) (fun h => nomatch h) (fun h => nomatch h) (fun h => nomatch h) rfl ?_
      exact mGd_iret (M := zm_257) (q := (192, .ireturn, 1, 0, 0, 0, 0)) hE257 rfl (by decide) rfl rfl rfl rfl hP
    · obtain rfl : w = 1 := by omega
      rw [if_neg (by decide)] at hP
      refine mGd_plain (M := zm_257) (q := (49, .iload 5, 2, 0, 0, 0, 0)) hE257 rfl (by decide) (fun h => nomatch h) (fun h => nomatch h) (fun h => nomatch h) (mp_ldv rfl rfl rfl l5 rfl) ?_
      refine mGd_plain (M := zm_257) (q := (51, .iload_n 1, 1, 0, 0, 0, 0)) hE257 rfl (by decide) (fun h => nomatch h) (fun h => nomatch h) (fun h => nomatch h) (mp_ldv rfl rfl rfl l1 rfl) ?_
      refine mGd_plain (M := zm_257) (q := (52, .if_icmp .gt 123, 3, 0, 0, 0, 0)) hE257 rfl (by decide) (fun h => nomatch h) (fun h => nomatch h) (fun h => nomatch h) (mp_ic1 (t := 175) rfl (by unfold mcond; exact decide_eq_true ((zi32lt (by omega) (by omega)).mpr (by omega)))) ?_
      refine mGd_plain (M := zm_257) (q := (175, .iload_n 2, 1, 0, 0, 0, 0)) hE257 rfl (by decide) (fun h => nomatch h) (fun h => nomatch h) (fun h => nomatch h) (mp_ldv rfl rfl rfl l2 rfl) ?_
      refine mGd_plain (M := zm_257) (q := (176, .ifCond .ne 7, 3, 0, 0, 0, 0)) hE257 rfl (by decide) (fun h => nomatch h) (fun h => nomatch h) (fun h => nomatch h) (mp_iz1 (t := 183) rfl (by unfold mcond; rw [decide_eq_false (fun h => absurd ((zi32eq (by omega) (by omega)).mp h) (by omega))]; rfl)) ?_
      refine mGd_plain (M := zm_257) (q := (183, .iload 4, 2, 0, 0, 0, 0)) hE257 rfl (by decide) (fun h => nomatch h) (fun h => nomatch h) (fun h => nomatch h) (mp_ldv rfl rfl rfl l4 rfl) ?_
      refine mGd_plain (M := zm_257) (q := (185, .aload_n 0, 1, 0, 0, 0, 0)) hE257 rfl (by decide) (fun h => nomatch h) (fun h => nomatch h) (fun h => nomatch h) (mp_ldv rfl rfl rfl l0 rfl) ?_
      refine mGd_plain (M := zm_257) (q := (186, .getfield 17, 3, 0, 11, 2, 0)) hE257 rfl (by decide) (fun h => nomatch h) (fun h => nomatch h) (fun h => nomatch h) (mp_getf m1 e1 rfl) ?_
      refine mGd_plain (M := zm_257) (q := (189, .iconst 0, 1, 0, 0, 0, 0)) hE257 rfl (by decide) (fun h => nomatch h) (fun h => nomatch h) (fun h => nomatch h) (show mplain _ _ _ _ _ _ _ = some (_, _, .int (Int32.ofNat 0) :: _, _) from rfl) ?_
      refine mGd_plain (M := zm_257) (q := (190, .iaload, 1, 0, 0, 0, 0)) hE257 rfl (by decide) (fun h => nomatch h) (fun h => nomatch h) (fun h => nomatch h) (mp_iald (marr_m m2 h8) rfl v0) ?_
      refine mGd_plain (M := zm_257) (q := (191, .isub, 1, 0, 0, 0, 0)) hE257 rfl (by decide) (fun h => nomatch h) (fun h => nomatch h) (fun h => nomatch h) (mp_subN (by omega)) ?_
      rw [show 2 * (n - n / 4) - 0 = 2 * (n - n / 4) from by omega]
      exact mGd_iret (M := zm_257) (q := (192, .ireturn, 1, 0, 0, 0, 0)) hE257 rfl (by decide) rfl rfl rfl rfl hP
  | succ t ih =>
    intro n ls hn l0 l1 l2 l3 l4 l5
    have hb := zsA_le (n := n + 1) (r := r) (by omega) hr
    have hb2 := zsA_le (n := zbst n r) (r := r) (by have := zbst_le n r; omega) hr
    have hb3 := zbst_le n r
    by_cases hq : n + 1 = r
    · skip
      refine mGd_plain (M := zm_257) (q := (49, .iload 5, 2, 0, 0, 0, 0)) hE257 rfl (by decide) (fun h => nomatch h) (fun h => nomatch h) (fun h => nomatch h) (mp_ldv rfl rfl rfl l5 rfl) ?_
      refine mGd_plain (M := zm_257) (q := (51, .iload_n 1, 1, 0, 0, 0, 0)) hE257 rfl (by decide) (fun h => nomatch h) (fun h => nomatch h) (fun h => nomatch h) (mp_ldv rfl rfl rfl l1 rfl) ?_
      refine mGd_plain (M := zm_257) (q := (52, .if_icmp .gt 123, 3, 0, 0, 0, 0)) hE257 rfl (by decide) (fun h => nomatch h) (fun h => nomatch h) (fun h => nomatch h) (mp_ic0 (t := 175) rfl (by unfold mcond; exact decide_eq_false (fun h => absurd ((zi32lt (by omega) (by omega)).mp h) (by omega)))) ?_
      refine mGd_plain (M := zm_257) (q := (55, .iload 5, 2, 0, 0, 0, 0)) hE257 rfl (by decide) (fun h => nomatch h) (fun h => nomatch h) (fun h => nomatch h) (mp_ldv rfl rfl rfl l5 rfl) ?_
      refine mGd_plain (M := zm_257) (q := (57, .ifCond .ne 7, 3, 0, 0, 0, 0)) hE257 rfl (by decide) (fun h => nomatch h) (fun h => nomatch h) (fun h => nomatch h) (mp_iz1 (t := 64) rfl (by unfold mcond; rw [decide_eq_false (fun h => absurd ((zi32eq (by omega) (by omega)).mp h) (by omega))]; rfl)) ?_
      refine mGd_plain (M := zm_257) (q := (64, .aload_n 0, 1, 0, 0, 0, 0)) hE257 rfl (by decide) (fun h => nomatch h) (fun h => nomatch h) (fun h => nomatch h) (mp_ldv rfl rfl rfl l0 rfl) ?_
      refine mGd_plain (M := zm_257) (q := (65, .aload_n 0, 1, 0, 0, 0, 0)) hE257 rfl (by decide) (fun h => nomatch h) (fun h => nomatch h) (fun h => nomatch h) (mp_ldv rfl rfl rfl l0 rfl) ?_
      refine mGd_plain (M := zm_257) (q := (66, .getfield 17, 3, 0, 11, 2, 0)) hE257 rfl (by decide) (fun h => nomatch h) (fun h => nomatch h) (fun h => nomatch h) (mp_getf m1 e1 rfl) ?_
      refine mGd_plain (M := zm_257) (q := (69, .iconst 0, 1, 0, 0, 0, 0)) hE257 rfl (by decide) (fun h => nomatch h) (fun h => nomatch h) (fun h => nomatch h) (show mplain _ _ _ _ _ _ _ = some (_, _, .int (Int32.ofNat 0) :: _, _) from rfl) ?_
      refine mGd_plain (M := zm_257) (q := (70, .iaload, 1, 0, 0, 0, 0)) hE257 rfl (by decide) (fun h => nomatch h) (fun h => nomatch h) (fun h => nomatch h) (mp_iald (marr_m m2 h8) rfl v0) ?_
      refine mGd_plain (M := zm_257) (q := (71, .aload_n 0, 1, 0, 0, 0, 0)) hE257 rfl (by decide) (fun h => nomatch h) (fun h => nomatch h) (fun h => nomatch h) (mp_ldv rfl rfl rfl l0 rfl) ?_
      refine mGd_plain (M := zm_257) (q := (72, .getfield 17, 3, 0, 11, 2, 0)) hE257 rfl (by decide) (fun h => nomatch h) (fun h => nomatch h) (fun h => nomatch h) (mp_getf m1 e1 rfl) ?_
      refine mGd_plain (M := zm_257) (q := (75, .iconst 1, 1, 0, 0, 0, 0)) hE257 rfl (by decide) (fun h => nomatch h) (fun h => nomatch h) (fun h => nomatch h) (show mplain _ _ _ _ _ _ _ = some (_, _, .int (Int32.ofNat 1) :: _, _) from rfl) ?_
      refine mGd_plain (M := zm_257) (q := (76, .iaload, 1, 0, 0, 0, 0)) hE257 rfl (by decide) (fun h => nomatch h) (fun h => nomatch h) (fun h => nomatch h) (mp_iald (marr_m m2 h8) rfl v1) ?_
      refine mGd_call (M := zm_257) (q := (77, .invokevirtual 69, 3, 9, 185, 3, 11)) hE257 rfl rfl hE185 (Nat.le_of_ble_eq_true rfl) (Nat.le_of_ble_eq_true rfl) (Nat.le_of_ble_eq_true rfl) (mrv m1 rfl) ?_
      refine zmo hE185 (a := 0) (b := 0) (by omega) (by omega) rfl rfl ?_
      show mGd E P (d + 1) 257 80 ls [.int (Int32.ofNat (zmaxN 0 0))] mem nc ns
      rw [show zmaxN 0 0 = 0 from rfl]
      refine mGd_plain (M := zm_257) (q := (80, .iload 5, 2, 0, 0, 0, 0)) hE257 rfl (by decide) (fun h => nomatch h) (fun h => nomatch h) (fun h => nomatch h) (mp_ldv rfl rfl rfl l5 rfl) ?_
      refine mGd_plain (M := zm_257) (q := (82, .aload_n 0, 1, 0, 0, 0, 0)) hE257 rfl (by decide) (fun h => nomatch h) (fun h => nomatch h) (fun h => nomatch h) (mp_ldv rfl rfl rfl l0 rfl) ?_
      refine mGd_plain (M := zm_257) (q := (83, .getfield 17, 3, 0, 11, 2, 0)) hE257 rfl (by decide) (fun h => nomatch h) (fun h => nomatch h) (fun h => nomatch h) (mp_getf m1 e1 rfl) ?_
      refine mGd_plain (M := zm_257) (q := (86, .bipush 20, 2, 0, 0, 0, 0)) hE257 rfl (by decide) (fun h => nomatch h) (fun h => nomatch h) (fun h => nomatch h) (show mplain _ _ _ _ _ _ _ = some (_, _, .int (Int32.ofNat 20) :: _, _) from rfl) ?_
      refine mGd_plain (M := zm_257) (q := (88, .iaload, 1, 0, 0, 0, 0)) hE257 rfl (by decide) (fun h => nomatch h) (fun h => nomatch h) (fun h => nomatch h) (mp_iald (marr_m m2 h8) rfl v3) ?_
      refine mGd_plain (M := zm_257) (q := (89, .imul, 1, 0, 0, 0, 0)) hE257 rfl (by decide) (fun h => nomatch h) (fun h => nomatch h) (fun h => nomatch h) mp_mulN ?_
      refine mGd_plain (M := zm_257) (q := (90, .iadd, 1, 0, 0, 0, 0)) hE257 rfl (by decide) (fun h => nomatch h) (fun h => nomatch h) (fun h => nomatch h) mp_addN ?_
      rw [show 0 + (n + 1) * 2 = 2 * (n + 1) from by omega]
      refine mGd_plain (M := zm_257) (q := (91, .istore 6, 2, 0, 0, 0, 0)) hE257 rfl (by decide) (fun h => nomatch h) (fun h => nomatch h) (fun h => nomatch h) (mp_stv rfl rfl rfl rfl rfl (by decide) (by decide)) ?_
      have l0_1 := mld_s1 (i := 6) (v := .int (Int32.ofNat (2 * (n + 1)))) (by decide : 0 ≠ 6) (fun e => by cases e) l0
      have l1_1 := mld_s1 (i := 6) (v := .int (Int32.ofNat (2 * (n + 1)))) (by decide : 1 ≠ 6) (fun e => by cases e) l1
      have l2_1 := mld_s1 (i := 6) (v := .int (Int32.ofNat (2 * (n + 1)))) (by decide : 2 ≠ 6) (fun e => by cases e) l2
      have l3_1 := mld_s1 (i := 6) (v := .int (Int32.ofNat (2 * (n + 1)))) (by decide : 3 ≠ 6) (fun e => by cases e) l3
      have l4_1 := mld_s1 (i := 6) (v := .int (Int32.ofNat (2 * (n + 1)))) (by decide : 4 ≠ 6) (fun e => by cases e) l4
      have l5_1 := mld_s1 (i := 6) (v := .int (Int32.ofNat (2 * (n + 1)))) (by decide : 5 ≠ 6) (fun e => by cases e) l5
      have l6_1 := mld_s0 (ls := ls) (i := 6) (v := .int (Int32.ofNat (2 * (n + 1))))
      refine mGd_plain (M := zm_257) (q := (93, .iload 5, 2, 0, 0, 0, 0)) hE257 rfl (by decide) (fun h => nomatch h) (fun h => nomatch h) (fun h => nomatch h) (mp_ldv rfl rfl rfl l5_1 rfl) ?_
      refine mGd_plain (M := zm_257) (q := (95, .iload_n 1, 1, 0, 0, 0, 0)) hE257 rfl (by decide) (fun h => nomatch h) (fun h => nomatch h) (fun h => nomatch h) (mp_ldv rfl rfl rfl l1_1 rfl) ?_
      refine mGd_plain (M := zm_257) (q := (96, .if_icmp .ne 7, 3, 0, 0, 0, 0)) hE257 rfl (by decide) (fun h => nomatch h) (fun h => nomatch h) (fun h => nomatch h) (mp_ic0 (t := 103) rfl (by unfold mcond; rw [decide_eq_true (congrArg Int32.ofNat (by omega))]; rfl)) ?_
      refine mGd_plain (M := zm_257) (q := (99, .iconst 0, 1, 0, 0, 0, 0)) hE257 rfl (by decide) (fun h => nomatch h) (fun h => nomatch h) (fun h => nomatch h) (show mplain _ _ _ _ _ _ _ = some (_, _, .int (Int32.ofNat 0) :: _, _) from rfl) ?_
      refine mGd_plain (M := zm_257) (q := (100, .goto 32, 3, 0, 0, 0, 0)) hE257 rfl (by decide) (fun h => nomatch h) (fun h => nomatch h) (fun h => nomatch h) rfl ?_
      refine mGd_plain (M := zm_257) (q := (132, .istore 7, 2, 0, 0, 0, 0)) hE257 rfl (by decide) (fun h => nomatch h) (fun h => nomatch h) (fun h => nomatch h) (mp_stv rfl rfl rfl rfl rfl (by decide) (by decide)) ?_
      have l0_2 := mld_s1 (i := 7) (v := .int (Int32.ofNat 0)) (by decide : 0 ≠ 7) (fun e => by cases e) l0_1
      have l1_2 := mld_s1 (i := 7) (v := .int (Int32.ofNat 0)) (by decide : 1 ≠ 7) (fun e => by cases e) l1_1
      have l2_2 := mld_s1 (i := 7) (v := .int (Int32.ofNat 0)) (by decide : 2 ≠ 7) (fun e => by cases e) l2_1
      have l3_2 := mld_s1 (i := 7) (v := .int (Int32.ofNat 0)) (by decide : 3 ≠ 7) (fun e => by cases e) l3_1
      have l4_2 := mld_s1 (i := 7) (v := .int (Int32.ofNat 0)) (by decide : 4 ≠ 7) (fun e => by cases e) l4_1
      have l5_2 := mld_s1 (i := 7) (v := .int (Int32.ofNat 0)) (by decide : 5 ≠ 7) (fun e => by cases e) l5_1
      have l6_2 := mld_s1 (i := 7) (v := .int (Int32.ofNat 0)) (by decide : 6 ≠ 7) (fun e => by cases e) l6_1
      have l7_2 := mld_s0 (ls := (mst1 ls 6 (.int (Int32.ofNat (2 * (n + 1)))))) (i := 7) (v := .int (Int32.ofNat 0))
      refine mGd_plain (M := zm_257) (q := (134, .iload 4, 2, 0, 0, 0, 0)) hE257 rfl (by decide) (fun h => nomatch h) (fun h => nomatch h) (fun h => nomatch h) (mp_ldv rfl rfl rfl l4_2 rfl) ?_
      refine mGd_plain (M := zm_257) (q := (136, .iconst (-1), 1, 0, 0, 0, 0)) hE257 rfl (by decide) (fun h => nomatch h) (fun h => nomatch h) (fun h => nomatch h) (show mplain _ _ _ _ _ _ _ = some (_, _, .int (Int32.ofInt (-1)) :: _, _) from rfl) ?_
      refine mGd_plain (M := zm_257) (q := (137, .if_icmp .eq 19, 3, 0, 0, 0, 0)) hE257 rfl (by decide) (fun h => nomatch h) (fun h => nomatch h) (fun h => nomatch h) (mp_ic0 (t := 156) rfl (by unfold mcond; exact decide_eq_false (fun h => by have h9 := congrArg Int32.toInt h; rw [zi32n (by omega), show (Int32.ofInt (-1)).toInt = -1 from by decide] at h9; omega))) ?_
      refine mGd_plain (M := zm_257) (q := (140, .aload_n 0, 1, 0, 0, 0, 0)) hE257 rfl (by decide) (fun h => nomatch h) (fun h => nomatch h) (fun h => nomatch h) (mp_ldv rfl rfl rfl l0_2 rfl) ?_
      refine mGd_plain (M := zm_257) (q := (141, .iload 6, 2, 0, 0, 0, 0)) hE257 rfl (by decide) (fun h => nomatch h) (fun h => nomatch h) (fun h => nomatch h) (mp_ldv rfl rfl rfl l6_2 rfl) ?_
      refine mGd_plain (M := zm_257) (q := (143, .iload 7, 2, 0, 0, 0, 0)) hE257 rfl (by decide) (fun h => nomatch h) (fun h => nomatch h) (fun h => nomatch h) (mp_ldv rfl rfl rfl l7_2 rfl) ?_
      refine mGd_call (M := zm_257) (q := (145, .invokevirtual 69, 3, 9, 185, 3, 11)) hE257 rfl rfl hE185 (Nat.le_of_ble_eq_true rfl) (Nat.le_of_ble_eq_true rfl) (Nat.le_of_ble_eq_true rfl) (mrv m1 rfl) ?_
      refine zmo hE185 (a := (2 * (n + 1))) (b := 0) (by omega) (by omega) rfl rfl ?_
      show mGd E P (d + 1) 257 148 (mst1 (mst1 ls 6 (.int (Int32.ofNat (2 * (n + 1))))) 7 (.int (Int32.ofNat 0))) [.int (Int32.ofNat (zmaxN (2 * (n + 1)) 0))] mem nc ns
      rw [show zmaxN (2 * (n + 1)) 0 = zsA (n + 1) r from by unfold zmaxN zsA; (repeat' split) <;> omega]
      refine mGd_plain (M := zm_257) (q := (148, .iload 4, 2, 0, 0, 0, 0)) hE257 rfl (by decide) (fun h => nomatch h) (fun h => nomatch h) (fun h => nomatch h) (mp_ldv rfl rfl rfl l4_2 rfl) ?_
      by_cases hy : n + 1 ≤ r - r / 4
      · obtain ⟨y1, y2⟩ := zbst_y hy
        refine mGd_plain (M := zm_257) (q := (150, .if_icmp .le 6, 3, 0, 0, 0, 0)) hE257 rfl (by decide) (fun h => nomatch h) (fun h => nomatch h) (fun h => nomatch h) (mp_ic1 (t := 156) rfl (by unfold mcond; exact decide_eq_true ((zi32le (by omega) (by omega)).mpr (by omega)))) ?_
        refine mGd_plain (M := zm_257) (q := (156, .aload_n 0, 1, 0, 0, 0, 0)) hE257 rfl (by decide) (fun h => nomatch h) (fun h => nomatch h) (fun h => nomatch h) (mp_ldv rfl rfl rfl l0_2 rfl) ?_
        refine mGd_plain (M := zm_257) (q := (157, .iload 6, 2, 0, 0, 0, 0)) hE257 rfl (by decide) (fun h => nomatch h) (fun h => nomatch h) (fun h => nomatch h) (mp_ldv rfl rfl rfl l6_2 rfl) ?_
        refine mGd_plain (M := zm_257) (q := (159, .iload 7, 2, 0, 0, 0, 0)) hE257 rfl (by decide) (fun h => nomatch h) (fun h => nomatch h) (fun h => nomatch h) (mp_ldv rfl rfl rfl l7_2 rfl) ?_
        refine mGd_call (M := zm_257) (q := (161, .invokevirtual 69, 3, 9, 185, 3, 11)) hE257 rfl rfl hE185 (Nat.le_of_ble_eq_true rfl) (Nat.le_of_ble_eq_true rfl) (Nat.le_of_ble_eq_true rfl) (mrv m1 rfl) ?_
        refine zmo hE185 (a := (2 * (n + 1))) (b := 0) (by omega) (by omega) rfl rfl ?_
        show mGd E P (d + 1) 257 164 (mst1 (mst1 ls 6 (.int (Int32.ofNat (2 * (n + 1))))) 7 (.int (Int32.ofNat 0))) [.int (Int32.ofNat (zmaxN (2 * (n + 1)) 0))] mem nc ns
        rw [show zmaxN (2 * (n + 1)) 0 = zsA (n + 1) r from by unfold zmaxN zsA; (repeat' split) <;> omega]
        refine mGd_plain (M := zm_257) (q := (164, .istore 4, 2, 0, 0, 0, 0)) hE257 rfl (by decide) (fun h => nomatch h) (fun h => nomatch h) (fun h => nomatch h) (mp_stv rfl rfl rfl rfl rfl (by decide) (by decide)) ?_
        have l0_3 := mld_s1 (i := 4) (v := .int (Int32.ofNat (zsA (n + 1) r))) (by decide : 0 ≠ 4) (fun e => by cases e) l0_2
        have l1_3 := mld_s1 (i := 4) (v := .int (Int32.ofNat (zsA (n + 1) r))) (by decide : 1 ≠ 4) (fun e => by cases e) l1_2
        have l2_3 := mld_s1 (i := 4) (v := .int (Int32.ofNat (zsA (n + 1) r))) (by decide : 2 ≠ 4) (fun e => by cases e) l2_2
        have l3_3 := mld_s1 (i := 4) (v := .int (Int32.ofNat (zsA (n + 1) r))) (by decide : 3 ≠ 4) (fun e => by cases e) l3_2
        have l5_3 := mld_s1 (i := 4) (v := .int (Int32.ofNat (zsA (n + 1) r))) (by decide : 5 ≠ 4) (fun e => by cases e) l5_2
        have l6_3 := mld_s1 (i := 4) (v := .int (Int32.ofNat (zsA (n + 1) r))) (by decide : 6 ≠ 4) (fun e => by cases e) l6_2
        have l7_3 := mld_s1 (i := 4) (v := .int (Int32.ofNat (zsA (n + 1) r))) (by decide : 7 ≠ 4) (fun e => by cases e) l7_2
        have l4_3 := mld_s0 (ls := (mst1 (mst1 ls 6 (.int (Int32.ofNat (2 * (n + 1))))) 7 (.int (Int32.ofNat 0)))) (i := 4) (v := .int (Int32.ofNat (zsA (n + 1) r)))
        refine mGd_plain (M := zm_257) (q := (166, .iload 5, 2, 0, 0, 0, 0)) hE257 rfl (by decide) (fun h => nomatch h) (fun h => nomatch h) (fun h => nomatch h) (mp_ldv rfl rfl rfl l5_3 rfl) ?_
        refine mGd_plain (M := zm_257) (q := (168, .istore_n 3, 1, 0, 0, 0, 0)) hE257 rfl (by decide) (fun h => nomatch h) (fun h => nomatch h) (fun h => nomatch h) (mp_stv rfl rfl rfl rfl rfl (by decide) (by decide)) ?_
        have l0_4 := mld_s1 (i := 3) (v := .int (Int32.ofNat (n + 1))) (by decide : 0 ≠ 3) (fun e => by cases e) l0_3
        have l1_4 := mld_s1 (i := 3) (v := .int (Int32.ofNat (n + 1))) (by decide : 1 ≠ 3) (fun e => by cases e) l1_3
        have l2_4 := mld_s1 (i := 3) (v := .int (Int32.ofNat (n + 1))) (by decide : 2 ≠ 3) (fun e => by cases e) l2_3
        have l4_4 := mld_s1 (i := 3) (v := .int (Int32.ofNat (n + 1))) (by decide : 4 ≠ 3) (fun e => by cases e) l4_3
        have l5_4 := mld_s1 (i := 3) (v := .int (Int32.ofNat (n + 1))) (by decide : 5 ≠ 3) (fun e => by cases e) l5_3
        have l6_4 := mld_s1 (i := 3) (v := .int (Int32.ofNat (n + 1))) (by decide : 6 ≠ 3) (fun e => by cases e) l6_3
        have l7_4 := mld_s1 (i := 3) (v := .int (Int32.ofNat (n + 1))) (by decide : 7 ≠ 3) (fun e => by cases e) l7_3
        have l3_4 := mld_s0 (ls := (mst1 (mst1 (mst1 ls 6 (.int (Int32.ofNat (2 * (n + 1))))) 7 (.int (Int32.ofNat 0))) 4 (.int (Int32.ofNat (zsA (n + 1) r))))) (i := 3) (v := .int (Int32.ofNat (n + 1)))
        refine mGd_plain (M := zm_257) (q := (169, .iinc 5 1, 3, 0, 0, 0, 0)) hE257 rfl (by decide) (fun h => nomatch h) (fun h => nomatch h) (fun h => nomatch h) (mp_iincN l5_4 (by decide)) ?_
        have l0_5 := mld_s1 (i := 5) (v := .int (Int32.ofNat ((n + 1) + 1))) (by decide : 0 ≠ 5) (fun e => by cases e) l0_4
        have l1_5 := mld_s1 (i := 5) (v := .int (Int32.ofNat ((n + 1) + 1))) (by decide : 1 ≠ 5) (fun e => by cases e) l1_4
        have l2_5 := mld_s1 (i := 5) (v := .int (Int32.ofNat ((n + 1) + 1))) (by decide : 2 ≠ 5) (fun e => by cases e) l2_4
        have l3_5 := mld_s1 (i := 5) (v := .int (Int32.ofNat ((n + 1) + 1))) (by decide : 3 ≠ 5) (fun e => by cases e) l3_4
        have l4_5 := mld_s1 (i := 5) (v := .int (Int32.ofNat ((n + 1) + 1))) (by decide : 4 ≠ 5) (fun e => by cases e) l4_4
        have l6_5 := mld_s1 (i := 5) (v := .int (Int32.ofNat ((n + 1) + 1))) (by decide : 6 ≠ 5) (fun e => by cases e) l6_4
        have l7_5 := mld_s1 (i := 5) (v := .int (Int32.ofNat ((n + 1) + 1))) (by decide : 7 ≠ 5) (fun e => by cases e) l7_4
        have l5_5 := mld_s0 (ls := (mst1 (mst1 (mst1 (mst1 ls 6 (.int (Int32.ofNat (2 * (n + 1))))) 7 (.int (Int32.ofNat 0))) 4 (.int (Int32.ofNat (zsA (n + 1) r)))) 3 (.int (Int32.ofNat (n + 1))))) (i := 5) (v := .int (Int32.ofNat ((n + 1) + 1)))
        refine mGd_plain (M := zm_257) (q := (172, .goto (-123), 3, 0, 0, 0, 0)) hE257 rfl (by decide) (fun h => nomatch h) (fun h => nomatch h) (fun h => nomatch h) rfl ?_
        exact ih (n + 1) _ (by omega) l0_5 l1_5 l2_5 (by rw [y1]; exact l3_5) (by rw [y1]; exact l4_5) l5_5
      · obtain ⟨y1, y2⟩ := zbst_n hy (by omega)
        refine mGd_plain (M := zm_257) (q := (150, .if_icmp .le 6, 3, 0, 0, 0, 0)) hE257 rfl (by decide) (fun h => nomatch h) (fun h => nomatch h) (fun h => nomatch h) (mp_ic0 (t := 156) rfl (by unfold mcond; exact decide_eq_false (fun h => absurd ((zi32le (by omega) (by omega)).mp h) (by omega)))) ?_
        refine mGd_plain (M := zm_257) (q := (153, .goto 16, 3, 0, 0, 0, 0)) hE257 rfl (by decide) (fun h => nomatch h) (fun h => nomatch h) (fun h => nomatch h) rfl ?_
        refine mGd_plain (M := zm_257) (q := (169, .iinc 5 1, 3, 0, 0, 0, 0)) hE257 rfl (by decide) (fun h => nomatch h) (fun h => nomatch h) (fun h => nomatch h) (mp_iincN l5_2 (by decide)) ?_
        have l0_3 := mld_s1 (i := 5) (v := .int (Int32.ofNat ((n + 1) + 1))) (by decide : 0 ≠ 5) (fun e => by cases e) l0_2
        have l1_3 := mld_s1 (i := 5) (v := .int (Int32.ofNat ((n + 1) + 1))) (by decide : 1 ≠ 5) (fun e => by cases e) l1_2
        have l2_3 := mld_s1 (i := 5) (v := .int (Int32.ofNat ((n + 1) + 1))) (by decide : 2 ≠ 5) (fun e => by cases e) l2_2
        have l3_3 := mld_s1 (i := 5) (v := .int (Int32.ofNat ((n + 1) + 1))) (by decide : 3 ≠ 5) (fun e => by cases e) l3_2
        have l4_3 := mld_s1 (i := 5) (v := .int (Int32.ofNat ((n + 1) + 1))) (by decide : 4 ≠ 5) (fun e => by cases e) l4_2
        have l6_3 := mld_s1 (i := 5) (v := .int (Int32.ofNat ((n + 1) + 1))) (by decide : 6 ≠ 5) (fun e => by cases e) l6_2
        have l7_3 := mld_s1 (i := 5) (v := .int (Int32.ofNat ((n + 1) + 1))) (by decide : 7 ≠ 5) (fun e => by cases e) l7_2
        have l5_3 := mld_s0 (ls := (mst1 (mst1 ls 6 (.int (Int32.ofNat (2 * (n + 1))))) 7 (.int (Int32.ofNat 0)))) (i := 5) (v := .int (Int32.ofNat ((n + 1) + 1)))
        refine mGd_plain (M := zm_257) (q := (172, .goto (-123), 3, 0, 0, 0, 0)) hE257 rfl (by decide) (fun h => nomatch h) (fun h => nomatch h) (fun h => nomatch h) rfl ?_
        exact ih (n + 1) _ (by omega) l0_3 l1_3 l2_3 (by rw [y1]; exact l3_3) (by rw [y1]; exact l4_3) l5_3
    · skip
      refine mGd_plain (M := zm_257) (q := (49, .iload 5, 2, 0, 0, 0, 0)) hE257 rfl (by decide) (fun h => nomatch h) (fun h => nomatch h) (fun h => nomatch h) (mp_ldv rfl rfl rfl l5 rfl) ?_
      refine mGd_plain (M := zm_257) (q := (51, .iload_n 1, 1, 0, 0, 0, 0)) hE257 rfl (by decide) (fun h => nomatch h) (fun h => nomatch h) (fun h => nomatch h) (mp_ldv rfl rfl rfl l1 rfl) ?_
      refine mGd_plain (M := zm_257) (q := (52, .if_icmp .gt 123, 3, 0, 0, 0, 0)) hE257 rfl (by decide) (fun h => nomatch h) (fun h => nomatch h) (fun h => nomatch h) (mp_ic0 (t := 175) rfl (by unfold mcond; exact decide_eq_false (fun h => absurd ((zi32lt (by omega) (by omega)).mp h) (by omega)))) ?_
      refine mGd_plain (M := zm_257) (q := (55, .iload 5, 2, 0, 0, 0, 0)) hE257 rfl (by decide) (fun h => nomatch h) (fun h => nomatch h) (fun h => nomatch h) (mp_ldv rfl rfl rfl l5 rfl) ?_
      refine mGd_plain (M := zm_257) (q := (57, .ifCond .ne 7, 3, 0, 0, 0, 0)) hE257 rfl (by decide) (fun h => nomatch h) (fun h => nomatch h) (fun h => nomatch h) (mp_iz1 (t := 64) rfl (by unfold mcond; rw [decide_eq_false (fun h => absurd ((zi32eq (by omega) (by omega)).mp h) (by omega))]; rfl)) ?_
      refine mGd_plain (M := zm_257) (q := (64, .aload_n 0, 1, 0, 0, 0, 0)) hE257 rfl (by decide) (fun h => nomatch h) (fun h => nomatch h) (fun h => nomatch h) (mp_ldv rfl rfl rfl l0 rfl) ?_
      refine mGd_plain (M := zm_257) (q := (65, .aload_n 0, 1, 0, 0, 0, 0)) hE257 rfl (by decide) (fun h => nomatch h) (fun h => nomatch h) (fun h => nomatch h) (mp_ldv rfl rfl rfl l0 rfl) ?_
      refine mGd_plain (M := zm_257) (q := (66, .getfield 17, 3, 0, 11, 2, 0)) hE257 rfl (by decide) (fun h => nomatch h) (fun h => nomatch h) (fun h => nomatch h) (mp_getf m1 e1 rfl) ?_
      refine mGd_plain (M := zm_257) (q := (69, .iconst 0, 1, 0, 0, 0, 0)) hE257 rfl (by decide) (fun h => nomatch h) (fun h => nomatch h) (fun h => nomatch h) (show mplain _ _ _ _ _ _ _ = some (_, _, .int (Int32.ofNat 0) :: _, _) from rfl) ?_
      refine mGd_plain (M := zm_257) (q := (70, .iaload, 1, 0, 0, 0, 0)) hE257 rfl (by decide) (fun h => nomatch h) (fun h => nomatch h) (fun h => nomatch h) (mp_iald (marr_m m2 h8) rfl v0) ?_
      refine mGd_plain (M := zm_257) (q := (71, .aload_n 0, 1, 0, 0, 0, 0)) hE257 rfl (by decide) (fun h => nomatch h) (fun h => nomatch h) (fun h => nomatch h) (mp_ldv rfl rfl rfl l0 rfl) ?_
      refine mGd_plain (M := zm_257) (q := (72, .getfield 17, 3, 0, 11, 2, 0)) hE257 rfl (by decide) (fun h => nomatch h) (fun h => nomatch h) (fun h => nomatch h) (mp_getf m1 e1 rfl) ?_
      refine mGd_plain (M := zm_257) (q := (75, .iconst 1, 1, 0, 0, 0, 0)) hE257 rfl (by decide) (fun h => nomatch h) (fun h => nomatch h) (fun h => nomatch h) (show mplain _ _ _ _ _ _ _ = some (_, _, .int (Int32.ofNat 1) :: _, _) from rfl) ?_
      refine mGd_plain (M := zm_257) (q := (76, .iaload, 1, 0, 0, 0, 0)) hE257 rfl (by decide) (fun h => nomatch h) (fun h => nomatch h) (fun h => nomatch h) (mp_iald (marr_m m2 h8) rfl v1) ?_
      refine mGd_call (M := zm_257) (q := (77, .invokevirtual 69, 3, 9, 185, 3, 11)) hE257 rfl rfl hE185 (Nat.le_of_ble_eq_true rfl) (Nat.le_of_ble_eq_true rfl) (Nat.le_of_ble_eq_true rfl) (mrv m1 rfl) ?_
      refine zmo hE185 (a := 0) (b := 0) (by omega) (by omega) rfl rfl ?_
      show mGd E P (d + 1) 257 80 ls [.int (Int32.ofNat (zmaxN 0 0))] mem nc ns
      rw [show zmaxN 0 0 = 0 from rfl]
      refine mGd_plain (M := zm_257) (q := (80, .iload 5, 2, 0, 0, 0, 0)) hE257 rfl (by decide) (fun h => nomatch h) (fun h => nomatch h) (fun h => nomatch h) (mp_ldv rfl rfl rfl l5 rfl) ?_
      refine mGd_plain (M := zm_257) (q := (82, .aload_n 0, 1, 0, 0, 0, 0)) hE257 rfl (by decide) (fun h => nomatch h) (fun h => nomatch h) (fun h => nomatch h) (mp_ldv rfl rfl rfl l0 rfl) ?_
      refine mGd_plain (M := zm_257) (q := (83, .getfield 17, 3, 0, 11, 2, 0)) hE257 rfl (by decide) (fun h => nomatch h) (fun h => nomatch h) (fun h => nomatch h) (mp_getf m1 e1 rfl) ?_
      refine mGd_plain (M := zm_257) (q := (86, .bipush 20, 2, 0, 0, 0, 0)) hE257 rfl (by decide) (fun h => nomatch h) (fun h => nomatch h) (fun h => nomatch h) (show mplain _ _ _ _ _ _ _ = some (_, _, .int (Int32.ofNat 20) :: _, _) from rfl) ?_
      refine mGd_plain (M := zm_257) (q := (88, .iaload, 1, 0, 0, 0, 0)) hE257 rfl (by decide) (fun h => nomatch h) (fun h => nomatch h) (fun h => nomatch h) (mp_iald (marr_m m2 h8) rfl v3) ?_
      refine mGd_plain (M := zm_257) (q := (89, .imul, 1, 0, 0, 0, 0)) hE257 rfl (by decide) (fun h => nomatch h) (fun h => nomatch h) (fun h => nomatch h) mp_mulN ?_
      refine mGd_plain (M := zm_257) (q := (90, .iadd, 1, 0, 0, 0, 0)) hE257 rfl (by decide) (fun h => nomatch h) (fun h => nomatch h) (fun h => nomatch h) mp_addN ?_
      rw [show 0 + (n + 1) * 2 = 2 * (n + 1) from by omega]
      refine mGd_plain (M := zm_257) (q := (91, .istore 6, 2, 0, 0, 0, 0)) hE257 rfl (by decide) (fun h => nomatch h) (fun h => nomatch h) (fun h => nomatch h) (mp_stv rfl rfl rfl rfl rfl (by decide) (by decide)) ?_
      have l0_1 := mld_s1 (i := 6) (v := .int (Int32.ofNat (2 * (n + 1)))) (by decide : 0 ≠ 6) (fun e => by cases e) l0
      have l1_1 := mld_s1 (i := 6) (v := .int (Int32.ofNat (2 * (n + 1)))) (by decide : 1 ≠ 6) (fun e => by cases e) l1
      have l2_1 := mld_s1 (i := 6) (v := .int (Int32.ofNat (2 * (n + 1)))) (by decide : 2 ≠ 6) (fun e => by cases e) l2
      have l3_1 := mld_s1 (i := 6) (v := .int (Int32.ofNat (2 * (n + 1)))) (by decide : 3 ≠ 6) (fun e => by cases e) l3
      have l4_1 := mld_s1 (i := 6) (v := .int (Int32.ofNat (2 * (n + 1)))) (by decide : 4 ≠ 6) (fun e => by cases e) l4
      have l5_1 := mld_s1 (i := 6) (v := .int (Int32.ofNat (2 * (n + 1)))) (by decide : 5 ≠ 6) (fun e => by cases e) l5
      have l6_1 := mld_s0 (ls := ls) (i := 6) (v := .int (Int32.ofNat (2 * (n + 1))))
      refine mGd_plain (M := zm_257) (q := (93, .iload 5, 2, 0, 0, 0, 0)) hE257 rfl (by decide) (fun h => nomatch h) (fun h => nomatch h) (fun h => nomatch h) (mp_ldv rfl rfl rfl l5_1 rfl) ?_
      refine mGd_plain (M := zm_257) (q := (95, .iload_n 1, 1, 0, 0, 0, 0)) hE257 rfl (by decide) (fun h => nomatch h) (fun h => nomatch h) (fun h => nomatch h) (mp_ldv rfl rfl rfl l1_1 rfl) ?_
      refine mGd_plain (M := zm_257) (q := (96, .if_icmp .ne 7, 3, 0, 0, 0, 0)) hE257 rfl (by decide) (fun h => nomatch h) (fun h => nomatch h) (fun h => nomatch h) (mp_ic1 (t := 103) rfl (by unfold mcond; rw [decide_eq_false (fun h => absurd ((zi32eq (by omega) (by omega)).mp h) (by omega))]; rfl)) ?_
      refine mGd_plain (M := zm_257) (q := (103, .aload_n 0, 1, 0, 0, 0, 0)) hE257 rfl (by decide) (fun h => nomatch h) (fun h => nomatch h) (fun h => nomatch h) (mp_ldv rfl rfl rfl l0_1 rfl) ?_
      refine mGd_plain (M := zm_257) (q := (104, .aload_n 0, 1, 0, 0, 0, 0)) hE257 rfl (by decide) (fun h => nomatch h) (fun h => nomatch h) (fun h => nomatch h) (mp_ldv rfl rfl rfl l0_1 rfl) ?_
      refine mGd_plain (M := zm_257) (q := (105, .getfield 17, 3, 0, 11, 2, 0)) hE257 rfl (by decide) (fun h => nomatch h) (fun h => nomatch h) (fun h => nomatch h) (mp_getf m1 e1 rfl) ?_
      refine mGd_plain (M := zm_257) (q := (108, .iconst 0, 1, 0, 0, 0, 0)) hE257 rfl (by decide) (fun h => nomatch h) (fun h => nomatch h) (fun h => nomatch h) (show mplain _ _ _ _ _ _ _ = some (_, _, .int (Int32.ofNat 0) :: _, _) from rfl) ?_
      refine mGd_plain (M := zm_257) (q := (109, .iaload, 1, 0, 0, 0, 0)) hE257 rfl (by decide) (fun h => nomatch h) (fun h => nomatch h) (fun h => nomatch h) (mp_iald (marr_m m2 h8) rfl v0) ?_
      refine mGd_plain (M := zm_257) (q := (110, .aload_n 0, 1, 0, 0, 0, 0)) hE257 rfl (by decide) (fun h => nomatch h) (fun h => nomatch h) (fun h => nomatch h) (mp_ldv rfl rfl rfl l0_1 rfl) ?_
      refine mGd_plain (M := zm_257) (q := (111, .getfield 17, 3, 0, 11, 2, 0)) hE257 rfl (by decide) (fun h => nomatch h) (fun h => nomatch h) (fun h => nomatch h) (mp_getf m1 e1 rfl) ?_
      refine mGd_plain (M := zm_257) (q := (114, .iconst 2, 1, 0, 0, 0, 0)) hE257 rfl (by decide) (fun h => nomatch h) (fun h => nomatch h) (fun h => nomatch h) (show mplain _ _ _ _ _ _ _ = some (_, _, .int (Int32.ofNat 2) :: _, _) from rfl) ?_
      refine mGd_plain (M := zm_257) (q := (115, .iaload, 1, 0, 0, 0, 0)) hE257 rfl (by decide) (fun h => nomatch h) (fun h => nomatch h) (fun h => nomatch h) (mp_iald (marr_m m2 h8) rfl v2) ?_
      refine mGd_call (M := zm_257) (q := (116, .invokevirtual 69, 3, 9, 185, 3, 11)) hE257 rfl rfl hE185 (Nat.le_of_ble_eq_true rfl) (Nat.le_of_ble_eq_true rfl) (Nat.le_of_ble_eq_true rfl) (mrv m1 rfl) ?_
      refine zmo hE185 (a := 0) (b := 0) (by omega) (by omega) rfl rfl ?_
      show mGd E P (d + 1) 257 119 (mst1 ls 6 (.int (Int32.ofNat (2 * (n + 1))))) [.int (Int32.ofNat (zmaxN 0 0))] mem nc ns
      rw [show zmaxN 0 0 = 0 from rfl]
      refine mGd_plain (M := zm_257) (q := (119, .iload_n 1, 1, 0, 0, 0, 0)) hE257 rfl (by decide) (fun h => nomatch h) (fun h => nomatch h) (fun h => nomatch h) (mp_ldv rfl rfl rfl l1_1 rfl) ?_
      refine mGd_plain (M := zm_257) (q := (120, .iload 5, 2, 0, 0, 0, 0)) hE257 rfl (by decide) (fun h => nomatch h) (fun h => nomatch h) (fun h => nomatch h) (mp_ldv rfl rfl rfl l5_1 rfl) ?_
      refine mGd_plain (M := zm_257) (q := (122, .isub, 1, 0, 0, 0, 0)) hE257 rfl (by decide) (fun h => nomatch h) (fun h => nomatch h) (fun h => nomatch h) (mp_subN (by omega)) ?_
      refine mGd_plain (M := zm_257) (q := (123, .aload_n 0, 1, 0, 0, 0, 0)) hE257 rfl (by decide) (fun h => nomatch h) (fun h => nomatch h) (fun h => nomatch h) (mp_ldv rfl rfl rfl l0_1 rfl) ?_
      refine mGd_plain (M := zm_257) (q := (124, .getfield 17, 3, 0, 11, 2, 0)) hE257 rfl (by decide) (fun h => nomatch h) (fun h => nomatch h) (fun h => nomatch h) (mp_getf m1 e1 rfl) ?_
      refine mGd_plain (M := zm_257) (q := (127, .bipush 21, 2, 0, 0, 0, 0)) hE257 rfl (by decide) (fun h => nomatch h) (fun h => nomatch h) (fun h => nomatch h) (show mplain _ _ _ _ _ _ _ = some (_, _, .int (Int32.ofNat 21) :: _, _) from rfl) ?_
      refine mGd_plain (M := zm_257) (q := (129, .iaload, 1, 0, 0, 0, 0)) hE257 rfl (by decide) (fun h => nomatch h) (fun h => nomatch h) (fun h => nomatch h) (mp_iald (marr_m m2 h8) rfl v4) ?_
      refine mGd_plain (M := zm_257) (q := (130, .imul, 1, 0, 0, 0, 0)) hE257 rfl (by decide) (fun h => nomatch h) (fun h => nomatch h) (fun h => nomatch h) mp_mulN ?_
      refine mGd_plain (M := zm_257) (q := (131, .iadd, 1, 0, 0, 0, 0)) hE257 rfl (by decide) (fun h => nomatch h) (fun h => nomatch h) (fun h => nomatch h) mp_addN ?_
      rw [show 0 + (r - (n + 1)) * 6 = 6 * (r - (n + 1)) from by omega]
      refine mGd_plain (M := zm_257) (q := (132, .istore 7, 2, 0, 0, 0, 0)) hE257 rfl (by decide) (fun h => nomatch h) (fun h => nomatch h) (fun h => nomatch h) (mp_stv rfl rfl rfl rfl rfl (by decide) (by decide)) ?_
      have l0_2 := mld_s1 (i := 7) (v := .int (Int32.ofNat (6 * (r - (n + 1))))) (by decide : 0 ≠ 7) (fun e => by cases e) l0_1
      have l1_2 := mld_s1 (i := 7) (v := .int (Int32.ofNat (6 * (r - (n + 1))))) (by decide : 1 ≠ 7) (fun e => by cases e) l1_1
      have l2_2 := mld_s1 (i := 7) (v := .int (Int32.ofNat (6 * (r - (n + 1))))) (by decide : 2 ≠ 7) (fun e => by cases e) l2_1
      have l3_2 := mld_s1 (i := 7) (v := .int (Int32.ofNat (6 * (r - (n + 1))))) (by decide : 3 ≠ 7) (fun e => by cases e) l3_1
      have l4_2 := mld_s1 (i := 7) (v := .int (Int32.ofNat (6 * (r - (n + 1))))) (by decide : 4 ≠ 7) (fun e => by cases e) l4_1
      have l5_2 := mld_s1 (i := 7) (v := .int (Int32.ofNat (6 * (r - (n + 1))))) (by decide : 5 ≠ 7) (fun e => by cases e) l5_1
      have l6_2 := mld_s1 (i := 7) (v := .int (Int32.ofNat (6 * (r - (n + 1))))) (by decide : 6 ≠ 7) (fun e => by cases e) l6_1
      have l7_2 := mld_s0 (ls := (mst1 ls 6 (.int (Int32.ofNat (2 * (n + 1)))))) (i := 7) (v := .int (Int32.ofNat (6 * (r - (n + 1)))))
      refine mGd_plain (M := zm_257) (q := (134, .iload 4, 2, 0, 0, 0, 0)) hE257 rfl (by decide) (fun h => nomatch h) (fun h => nomatch h) (fun h => nomatch h) (mp_ldv rfl rfl rfl l4_2 rfl) ?_
      refine mGd_plain (M := zm_257) (q := (136, .iconst (-1), 1, 0, 0, 0, 0)) hE257 rfl (by decide) (fun h => nomatch h) (fun h => nomatch h) (fun h => nomatch h) (show mplain _ _ _ _ _ _ _ = some (_, _, .int (Int32.ofInt (-1)) :: _, _) from rfl) ?_
      refine mGd_plain (M := zm_257) (q := (137, .if_icmp .eq 19, 3, 0, 0, 0, 0)) hE257 rfl (by decide) (fun h => nomatch h) (fun h => nomatch h) (fun h => nomatch h) (mp_ic0 (t := 156) rfl (by unfold mcond; exact decide_eq_false (fun h => by have h9 := congrArg Int32.toInt h; rw [zi32n (by omega), show (Int32.ofInt (-1)).toInt = -1 from by decide] at h9; omega))) ?_
      refine mGd_plain (M := zm_257) (q := (140, .aload_n 0, 1, 0, 0, 0, 0)) hE257 rfl (by decide) (fun h => nomatch h) (fun h => nomatch h) (fun h => nomatch h) (mp_ldv rfl rfl rfl l0_2 rfl) ?_
      refine mGd_plain (M := zm_257) (q := (141, .iload 6, 2, 0, 0, 0, 0)) hE257 rfl (by decide) (fun h => nomatch h) (fun h => nomatch h) (fun h => nomatch h) (mp_ldv rfl rfl rfl l6_2 rfl) ?_
      refine mGd_plain (M := zm_257) (q := (143, .iload 7, 2, 0, 0, 0, 0)) hE257 rfl (by decide) (fun h => nomatch h) (fun h => nomatch h) (fun h => nomatch h) (mp_ldv rfl rfl rfl l7_2 rfl) ?_
      refine mGd_call (M := zm_257) (q := (145, .invokevirtual 69, 3, 9, 185, 3, 11)) hE257 rfl rfl hE185 (Nat.le_of_ble_eq_true rfl) (Nat.le_of_ble_eq_true rfl) (Nat.le_of_ble_eq_true rfl) (mrv m1 rfl) ?_
      refine zmo hE185 (a := (2 * (n + 1))) (b := (6 * (r - (n + 1)))) (by omega) (by omega) rfl rfl ?_
      show mGd E P (d + 1) 257 148 (mst1 (mst1 ls 6 (.int (Int32.ofNat (2 * (n + 1))))) 7 (.int (Int32.ofNat (6 * (r - (n + 1)))))) [.int (Int32.ofNat (zmaxN (2 * (n + 1)) (6 * (r - (n + 1)))))] mem nc ns
      rw [show zmaxN (2 * (n + 1)) (6 * (r - (n + 1))) = zsA (n + 1) r from by unfold zmaxN zsA; (repeat' split) <;> omega]
      refine mGd_plain (M := zm_257) (q := (148, .iload 4, 2, 0, 0, 0, 0)) hE257 rfl (by decide) (fun h => nomatch h) (fun h => nomatch h) (fun h => nomatch h) (mp_ldv rfl rfl rfl l4_2 rfl) ?_
      by_cases hy : n + 1 ≤ r - r / 4
      · obtain ⟨y1, y2⟩ := zbst_y hy
        refine mGd_plain (M := zm_257) (q := (150, .if_icmp .le 6, 3, 0, 0, 0, 0)) hE257 rfl (by decide) (fun h => nomatch h) (fun h => nomatch h) (fun h => nomatch h) (mp_ic1 (t := 156) rfl (by unfold mcond; exact decide_eq_true ((zi32le (by omega) (by omega)).mpr (by omega)))) ?_
        refine mGd_plain (M := zm_257) (q := (156, .aload_n 0, 1, 0, 0, 0, 0)) hE257 rfl (by decide) (fun h => nomatch h) (fun h => nomatch h) (fun h => nomatch h) (mp_ldv rfl rfl rfl l0_2 rfl) ?_
        refine mGd_plain (M := zm_257) (q := (157, .iload 6, 2, 0, 0, 0, 0)) hE257 rfl (by decide) (fun h => nomatch h) (fun h => nomatch h) (fun h => nomatch h) (mp_ldv rfl rfl rfl l6_2 rfl) ?_
        refine mGd_plain (M := zm_257) (q := (159, .iload 7, 2, 0, 0, 0, 0)) hE257 rfl (by decide) (fun h => nomatch h) (fun h => nomatch h) (fun h => nomatch h) (mp_ldv rfl rfl rfl l7_2 rfl) ?_
        refine mGd_call (M := zm_257) (q := (161, .invokevirtual 69, 3, 9, 185, 3, 11)) hE257 rfl rfl hE185 (Nat.le_of_ble_eq_true rfl) (Nat.le_of_ble_eq_true rfl) (Nat.le_of_ble_eq_true rfl) (mrv m1 rfl) ?_
        refine zmo hE185 (a := (2 * (n + 1))) (b := (6 * (r - (n + 1)))) (by omega) (by omega) rfl rfl ?_
        show mGd E P (d + 1) 257 164 (mst1 (mst1 ls 6 (.int (Int32.ofNat (2 * (n + 1))))) 7 (.int (Int32.ofNat (6 * (r - (n + 1)))))) [.int (Int32.ofNat (zmaxN (2 * (n + 1)) (6 * (r - (n + 1)))))] mem nc ns
        rw [show zmaxN (2 * (n + 1)) (6 * (r - (n + 1))) = zsA (n + 1) r from by unfold zmaxN zsA; (repeat' split) <;> omega]
        refine mGd_plain (M := zm_257) (q := (164, .istore 4, 2, 0, 0, 0, 0)) hE257 rfl (by decide) (fun h => nomatch h) (fun h => nomatch h) (fun h => nomatch h) (mp_stv rfl rfl rfl rfl rfl (by decide) (by decide)) ?_
        have l0_3 := mld_s1 (i := 4) (v := .int (Int32.ofNat (zsA (n + 1) r))) (by decide : 0 ≠ 4) (fun e => by cases e) l0_2
        have l1_3 := mld_s1 (i := 4) (v := .int (Int32.ofNat (zsA (n + 1) r))) (by decide : 1 ≠ 4) (fun e => by cases e) l1_2
        have l2_3 := mld_s1 (i := 4) (v := .int (Int32.ofNat (zsA (n + 1) r))) (by decide : 2 ≠ 4) (fun e => by cases e) l2_2
        have l3_3 := mld_s1 (i := 4) (v := .int (Int32.ofNat (zsA (n + 1) r))) (by decide : 3 ≠ 4) (fun e => by cases e) l3_2
        have l5_3 := mld_s1 (i := 4) (v := .int (Int32.ofNat (zsA (n + 1) r))) (by decide : 5 ≠ 4) (fun e => by cases e) l5_2
        have l6_3 := mld_s1 (i := 4) (v := .int (Int32.ofNat (zsA (n + 1) r))) (by decide : 6 ≠ 4) (fun e => by cases e) l6_2
        have l7_3 := mld_s1 (i := 4) (v := .int (Int32.ofNat (zsA (n + 1) r))) (by decide : 7 ≠ 4) (fun e => by cases e) l7_2
        have l4_3 := mld_s0 (ls := (mst1 (mst1 ls 6 (.int (Int32.ofNat (2 * (n + 1))))) 7 (.int (Int32.ofNat (6 * (r - (n + 1))))))) (i := 4) (v := .int (Int32.ofNat (zsA (n + 1) r)))
        refine mGd_plain (M := zm_257) (q := (166, .iload 5, 2, 0, 0, 0, 0)) hE257 rfl (by decide) (fun h => nomatch h) (fun h => nomatch h) (fun h => nomatch h) (mp_ldv rfl rfl rfl l5_3 rfl) ?_
        refine mGd_plain (M := zm_257) (q := (168, .istore_n 3, 1, 0, 0, 0, 0)) hE257 rfl (by decide) (fun h => nomatch h) (fun h => nomatch h) (fun h => nomatch h) (mp_stv rfl rfl rfl rfl rfl (by decide) (by decide)) ?_
        have l0_4 := mld_s1 (i := 3) (v := .int (Int32.ofNat (n + 1))) (by decide : 0 ≠ 3) (fun e => by cases e) l0_3
        have l1_4 := mld_s1 (i := 3) (v := .int (Int32.ofNat (n + 1))) (by decide : 1 ≠ 3) (fun e => by cases e) l1_3
        have l2_4 := mld_s1 (i := 3) (v := .int (Int32.ofNat (n + 1))) (by decide : 2 ≠ 3) (fun e => by cases e) l2_3
        have l4_4 := mld_s1 (i := 3) (v := .int (Int32.ofNat (n + 1))) (by decide : 4 ≠ 3) (fun e => by cases e) l4_3
        have l5_4 := mld_s1 (i := 3) (v := .int (Int32.ofNat (n + 1))) (by decide : 5 ≠ 3) (fun e => by cases e) l5_3
        have l6_4 := mld_s1 (i := 3) (v := .int (Int32.ofNat (n + 1))) (by decide : 6 ≠ 3) (fun e => by cases e) l6_3
        have l7_4 := mld_s1 (i := 3) (v := .int (Int32.ofNat (n + 1))) (by decide : 7 ≠ 3) (fun e => by cases e) l7_3
        have l3_4 := mld_s0 (ls := (mst1 (mst1 (mst1 ls 6 (.int (Int32.ofNat (2 * (n + 1))))) 7 (.int (Int32.ofNat (6 * (r - (n + 1)))))) 4 (.int (Int32.ofNat (zsA (n + 1) r))))) (i := 3) (v := .int (Int32.ofNat (n + 1)))
        refine mGd_plain (M := zm_257) (q := (169, .iinc 5 1, 3, 0, 0, 0, 0)) hE257 rfl (by decide) (fun h => nomatch h) (fun h => nomatch h) (fun h => nomatch h) (mp_iincN l5_4 (by decide)) ?_
        have l0_5 := mld_s1 (i := 5) (v := .int (Int32.ofNat ((n + 1) + 1))) (by decide : 0 ≠ 5) (fun e => by cases e) l0_4
        have l1_5 := mld_s1 (i := 5) (v := .int (Int32.ofNat ((n + 1) + 1))) (by decide : 1 ≠ 5) (fun e => by cases e) l1_4
        have l2_5 := mld_s1 (i := 5) (v := .int (Int32.ofNat ((n + 1) + 1))) (by decide : 2 ≠ 5) (fun e => by cases e) l2_4
        have l3_5 := mld_s1 (i := 5) (v := .int (Int32.ofNat ((n + 1) + 1))) (by decide : 3 ≠ 5) (fun e => by cases e) l3_4
        have l4_5 := mld_s1 (i := 5) (v := .int (Int32.ofNat ((n + 1) + 1))) (by decide : 4 ≠ 5) (fun e => by cases e) l4_4
        have l6_5 := mld_s1 (i := 5) (v := .int (Int32.ofNat ((n + 1) + 1))) (by decide : 6 ≠ 5) (fun e => by cases e) l6_4
        have l7_5 := mld_s1 (i := 5) (v := .int (Int32.ofNat ((n + 1) + 1))) (by decide : 7 ≠ 5) (fun e => by cases e) l7_4
        have l5_5 := mld_s0 (ls := (mst1 (mst1 (mst1 (mst1 ls 6 (.int (Int32.ofNat (2 * (n + 1))))) 7 (.int (Int32.ofNat (6 * (r - (n + 1)))))) 4 (.int (Int32.ofNat (zsA (n + 1) r)))) 3 (.int (Int32.ofNat (n + 1))))) (i := 5) (v := .int (Int32.ofNat ((n + 1) + 1)))
        refine mGd_plain (M := zm_257) (q := (172, .goto (-123), 3, 0, 0, 0, 0)) hE257 rfl (by decide) (fun h => nomatch h) (fun h => nomatch h) (fun h => nomatch h) rfl ?_
        exact ih (n + 1) _ (by omega) l0_5 l1_5 l2_5 (by rw [y1]; exact l3_5) (by rw [y1]; exact l4_5) l5_5
      · obtain ⟨y1, y2⟩ := zbst_n hy (by omega)
        refine mGd_plain (M := zm_257) (q := (150, .if_icmp .le 6, 3, 0, 0, 0, 0)) hE257 rfl (by decide) (fun h => nomatch h) (fun h => nomatch h) (fun h => nomatch h) (mp_ic0 (t := 156) rfl (by unfold mcond; exact decide_eq_false (fun h => absurd ((zi32le (by omega) (by omega)).mp h) (by omega)))) ?_
        refine mGd_plain (M := zm_257) (q := (153, .goto 16, 3, 0, 0, 0, 0)) hE257 rfl (by decide) (fun h => nomatch h) (fun h => nomatch h) (fun h => nomatch h) rfl ?_
        refine mGd_plain (M := zm_257) (q := (169, .iinc 5 1, 3, 0, 0, 0, 0)) hE257 rfl (by decide) (fun h => nomatch h) (fun h => nomatch h) (fun h => nomatch h) (mp_iincN l5_2 (by decide)) ?_
        have l0_3 := mld_s1 (i := 5) (v := .int (Int32.ofNat ((n + 1) + 1))) (by decide : 0 ≠ 5) (fun e => by cases e) l0_2
        have l1_3 := mld_s1 (i := 5) (v := .int (Int32.ofNat ((n + 1) + 1))) (by decide : 1 ≠ 5) (fun e => by cases e) l1_2
        have l2_3 := mld_s1 (i := 5) (v := .int (Int32.ofNat ((n + 1) + 1))) (by decide : 2 ≠ 5) (fun e => by cases e) l2_2
        have l3_3 := mld_s1 (i := 5) (v := .int (Int32.ofNat ((n + 1) + 1))) (by decide : 3 ≠ 5) (fun e => by cases e) l3_2
        have l4_3 := mld_s1 (i := 5) (v := .int (Int32.ofNat ((n + 1) + 1))) (by decide : 4 ≠ 5) (fun e => by cases e) l4_2
        have l6_3 := mld_s1 (i := 5) (v := .int (Int32.ofNat ((n + 1) + 1))) (by decide : 6 ≠ 5) (fun e => by cases e) l6_2
        have l7_3 := mld_s1 (i := 5) (v := .int (Int32.ofNat ((n + 1) + 1))) (by decide : 7 ≠ 5) (fun e => by cases e) l7_2
        have l5_3 := mld_s0 (ls := (mst1 (mst1 ls 6 (.int (Int32.ofNat (2 * (n + 1))))) 7 (.int (Int32.ofNat (6 * (r - (n + 1))))))) (i := 5) (v := .int (Int32.ofNat ((n + 1) + 1)))
        refine mGd_plain (M := zm_257) (q := (172, .goto (-123), 3, 0, 0, 0, 0)) hE257 rfl (by decide) (fun h => nomatch h) (fun h => nomatch h) (fun h => nomatch h) rfl ?_
        exact ih (n + 1) _ (by omega) l0_3 l1_3 l2_3 (by rw [y1]; exact l3_3) (by rw [y1]; exact l4_3) l5_3
theorem zsMs {E : mEnv} (hE257 : E.1 257 = some zm_257) (hE185 : E.1 185 = some zm_185) (hE162 : E.1 162 = some zm_162) (hE163 : E.1 163 = some zm_163) (hE2 : (E.2.1 11)[0]? = some .int) {P : mRes → Prop} {d nc ns X r w : Nat} {ls : mLs} {mem : mMem} (hC : zMs mem X) (hr : r ≤ 1000) (h1 : 1 ≤ r) (hw : w ≤ 1) (l0 : mld ls 0 = some (.ref X)) (l1 : mld ls 1 = some (.int (Int32.ofNat r))) (l2 : mld ls 2 = some (.int (Int32.ofNat w)))
    (hP : P (.inr (some (.int (Int32.ofNat (if w = 0 then r - r / 4 else 2 * (r - r / 4))))), mem, nc, ns)) : mGd E P (d + 1) 257 0 ls [] mem nc ns := by
  have hX := hC
  obtain ⟨Mm, fm, f, h8, m1, e1, e0, m2, v0, v1, v2, v3, v4⟩ := hX
  have hs : mem.set X (.inr (11, fm.set 0 (.int (Int32.ofNat 0)))) = mem := by
    have : fm.set 0 (.int (Int32.ofNat 0)) = fm := by
      apply List.ext_getElem?
      intro i
      rw [List.getElem?_set]
      split
      · rename_i e
        subst e
        split
        · exact e0.symm
        · rename_i hlt
          rw [List.getElem?_eq_none (by omega)]
      · rfl
    rw [this]
    exact zset_same m1
  refine mGd_plain (M := zm_257) (q := (0, .aload_n 0, 1, 0, 0, 0, 0)) hE257 rfl (by decide) (fun h => nomatch h) (fun h => nomatch h) (fun h => nomatch h) (mp_ldv rfl rfl rfl l0 rfl) ?_
  refine mGd_plain (M := zm_257) (q := (1, .iconst 0, 1, 0, 0, 0, 0)) hE257 rfl (by decide) (fun h => nomatch h) (fun h => nomatch h) (fun h => nomatch h) (show mplain _ _ _ _ _ _ _ = some (_, _, .int (Int32.ofNat 0) :: _, _) from rfl) ?_
  refine mGd_plain (M := zm_257) (q := (2, .putfield 1, 3, 0, 11, 0, 0)) hE257 rfl (by decide) (fun h => nomatch h) (fun h => nomatch h) (fun h => nomatch h) (mp_putf m1 hE2 (by have : 0 < fm.length := (List.getElem?_eq_some_iff.mp e0).1; simp [mfit, narrow, fits, mkind, this])) ?_
  rw [hs]
  refine mGd_plain (M := zm_257) (q := (5, .aload_n 0, 1, 0, 0, 0, 0)) hE257 rfl (by decide) (fun h => nomatch h) (fun h => nomatch h) (fun h => nomatch h) (mp_ldv rfl rfl rfl l0 rfl) ?_
  refine mGd_plain (M := zm_257) (q := (6, .iload_n 1, 1, 0, 0, 0, 0)) hE257 rfl (by decide) (fun h => nomatch h) (fun h => nomatch h) (fun h => nomatch h) (mp_ldv rfl rfl rfl l1 rfl) ?_
  refine mGd_plain (M := zm_257) (q := (7, .iconst 1, 1, 0, 0, 0, 0)) hE257 rfl (by decide) (fun h => nomatch h) (fun h => nomatch h) (fun h => nomatch h) (show mplain _ _ _ _ _ _ _ = some (_, _, .int (Int32.ofNat 1) :: _, _) from rfl) ?_
  refine mGd_plain (M := zm_257) (q := (8, .sipush 1000, 3, 0, 0, 0, 0)) hE257 rfl (by decide) (fun h => nomatch h) (fun h => nomatch h) (fun h => nomatch h) (show mplain _ _ _ _ _ _ _ = some (_, _, .int (Int32.ofNat 1000) :: _, _) from rfl) ?_
  refine mGd_call (M := zm_257) (q := (11, .invokestatic 200, 3, 9, 162, 3, 0)) hE257 rfl rfl hE162 (Nat.le_of_ble_eq_true rfl) (Nat.le_of_ble_eq_true rfl) (Nat.le_of_ble_eq_true rfl) rfl ?_
  refine zwi hE162 (v := r) (a := 1) (b := 1000) (by omega) (by omega) (by omega) (by omega) rfl rfl rfl ?_
  show mGd E P (d + 1) 257 14 ls [.int (Int32.ofNat 1), .ref X] mem nc ns
  refine mGd_plain (M := zm_257) (q := (14, .ifCond .eq 16, 3, 0, 0, 0, 0)) hE257 rfl (by decide) (fun h => nomatch h) (fun h => nomatch h) (fun h => nomatch h) (mp_iz0 (t := 30) rfl (by unfold mcond; exact decide_eq_false (fun h => absurd ((zi32eq (by omega) (by omega)).mp h) (by omega)))) ?_
  refine mGd_plain (M := zm_257) (q := (17, .iload_n 2, 1, 0, 0, 0, 0)) hE257 rfl (by decide) (fun h => nomatch h) (fun h => nomatch h) (fun h => nomatch h) (mp_ldv rfl rfl rfl l2 rfl) ?_
  refine mGd_plain (M := zm_257) (q := (18, .iconst 0, 1, 0, 0, 0, 0)) hE257 rfl (by decide) (fun h => nomatch h) (fun h => nomatch h) (fun h => nomatch h) (show mplain _ _ _ _ _ _ _ = some (_, _, .int (Int32.ofNat 0) :: _, _) from rfl) ?_
  refine mGd_plain (M := zm_257) (q := (19, .iconst 1, 1, 0, 0, 0, 0)) hE257 rfl (by decide) (fun h => nomatch h) (fun h => nomatch h) (fun h => nomatch h) (show mplain _ _ _ _ _ _ _ = some (_, _, .int (Int32.ofNat 1) :: _, _) from rfl) ?_
  refine mGd_call (M := zm_257) (q := (20, .invokestatic 200, 3, 9, 162, 3, 0)) hE257 rfl rfl hE162 (Nat.le_of_ble_eq_true rfl) (Nat.le_of_ble_eq_true rfl) (Nat.le_of_ble_eq_true rfl) rfl ?_
  refine zwi hE162 (v := w) (a := 0) (b := 1) (by omega) (by omega) (by omega) (by omega) rfl rfl rfl ?_
  show mGd E P (d + 1) 257 23 ls [.int (Int32.ofNat 1), .ref X] mem nc ns
  refine mGd_plain (M := zm_257) (q := (23, .ifCond .eq 7, 3, 0, 0, 0, 0)) hE257 rfl (by decide) (fun h => nomatch h) (fun h => nomatch h) (fun h => nomatch h) (mp_iz0 (t := 30) rfl (by unfold mcond; exact decide_eq_false (fun h => absurd ((zi32eq (by omega) (by omega)).mp h) (by omega)))) ?_
  refine mGd_plain (M := zm_257) (q := (26, .iconst 1, 1, 0, 0, 0, 0)) hE257 rfl (by decide) (fun h => nomatch h) (fun h => nomatch h) (fun h => nomatch h) (show mplain _ _ _ _ _ _ _ = some (_, _, .int (Int32.ofNat 1) :: _, _) from rfl) ?_
  refine mGd_plain (M := zm_257) (q := (27, .goto 4, 3, 0, 0, 0, 0)) hE257 rfl (by decide) (fun h => nomatch h) (fun h => nomatch h) (fun h => nomatch h) rfl ?_
  refine mGd_plain (M := zm_257) (q := (31, .iconst 1, 1, 0, 0, 0, 0)) hE257 rfl (by decide) (fun h => nomatch h) (fun h => nomatch h) (fun h => nomatch h) (show mplain _ _ _ _ _ _ _ = some (_, _, .int (Int32.ofNat 1) :: _, _) from rfl) ?_
  refine mGd_plain (M := zm_257) (q := (32, .iconst 1, 1, 0, 0, 0, 0)) hE257 rfl (by decide) (fun h => nomatch h) (fun h => nomatch h) (fun h => nomatch h) (show mplain _ _ _ _ _ _ _ = some (_, _, .int (Int32.ofNat 1) :: _, _) from rfl) ?_
  refine mGd_call (M := zm_257) (q := (33, .invokevirtual 286, 3, 9, 163, 4, 11)) hE257 rfl rfl hE163 (Nat.le_of_ble_eq_true rfl) (Nat.le_of_ble_eq_true rfl) (Nat.le_of_ble_eq_true rfl) (mrv m1 rfl) ?_
  refine zfi2 hE163 m1 e0 rfl rfl ?_
  show mGd E P (d + 1) 257 36 ls [.int (Int32.ofNat 1)] mem nc ns
  refine mGd_plain (M := zm_257) (q := (36, .ifCond .ne 5, 3, 0, 0, 0, 0)) hE257 rfl (by decide) (fun h => nomatch h) (fun h => nomatch h) (fun h => nomatch h) (mp_iz1 (t := 41) rfl (by unfold mcond; rw [decide_eq_false (fun h => absurd ((zi32eq (by omega) (by omega)).mp h) (by omega))]; rfl)) ?_
  refine mGd_plain (M := zm_257) (q := (41, .iconst 0, 1, 0, 0, 0, 0)) hE257 rfl (by decide) (fun h => nomatch h) (fun h => nomatch h) (fun h => nomatch h) (show mplain _ _ _ _ _ _ _ = some (_, _, .int (Int32.ofNat 0) :: _, _) from rfl) ?_
  refine mGd_plain (M := zm_257) (q := (42, .istore_n 3, 1, 0, 0, 0, 0)) hE257 rfl (by decide) (fun h => nomatch h) (fun h => nomatch h) (fun h => nomatch h) (mp_stv rfl rfl rfl rfl rfl (by decide) (by decide)) ?_
  have l0_1 := mld_s1 (i := 3) (v := .int (Int32.ofNat 0)) (by decide : 0 ≠ 3) (fun e => by cases e) l0
  have l1_1 := mld_s1 (i := 3) (v := .int (Int32.ofNat 0)) (by decide : 1 ≠ 3) (fun e => by cases e) l1
  have l2_1 := mld_s1 (i := 3) (v := .int (Int32.ofNat 0)) (by decide : 2 ≠ 3) (fun e => by cases e) l2
  have l3_1 := mld_s0 (ls := ls) (i := 3) (v := .int (Int32.ofNat 0))
  refine mGd_plain (M := zm_257) (q := (43, .iconst (-1), 1, 0, 0, 0, 0)) hE257 rfl (by decide) (fun h => nomatch h) (fun h => nomatch h) (fun h => nomatch h) (show mplain _ _ _ _ _ _ _ = some (_, _, .int (Int32.ofInt (-1)) :: _, _) from rfl) ?_
  refine mGd_plain (M := zm_257) (q := (44, .istore 4, 2, 0, 0, 0, 0)) hE257 rfl (by decide) (fun h => nomatch h) (fun h => nomatch h) (fun h => nomatch h) (mp_stv rfl rfl rfl rfl rfl (by decide) (by decide)) ?_
  have l0_2 := mld_s1 (i := 4) (v := .int (Int32.ofInt (-1))) (by decide : 0 ≠ 4) (fun e => by cases e) l0_1
  have l1_2 := mld_s1 (i := 4) (v := .int (Int32.ofInt (-1))) (by decide : 1 ≠ 4) (fun e => by cases e) l1_1
  have l2_2 := mld_s1 (i := 4) (v := .int (Int32.ofInt (-1))) (by decide : 2 ≠ 4) (fun e => by cases e) l2_1
  have l3_2 := mld_s1 (i := 4) (v := .int (Int32.ofInt (-1))) (by decide : 3 ≠ 4) (fun e => by cases e) l3_1
  have l4_2 := mld_s0 (ls := (mst1 ls 3 (.int (Int32.ofNat 0)))) (i := 4) (v := .int (Int32.ofInt (-1)))
  refine mGd_plain (M := zm_257) (q := (46, .iconst 0, 1, 0, 0, 0, 0)) hE257 rfl (by decide) (fun h => nomatch h) (fun h => nomatch h) (fun h => nomatch h) (show mplain _ _ _ _ _ _ _ = some (_, _, .int (Int32.ofNat 0) :: _, _) from rfl) ?_
  refine mGd_plain (M := zm_257) (q := (47, .istore 5, 2, 0, 0, 0, 0)) hE257 rfl (by decide) (fun h => nomatch h) (fun h => nomatch h) (fun h => nomatch h) (mp_stv rfl rfl rfl rfl rfl (by decide) (by decide)) ?_
  have l0_3 := mld_s1 (i := 5) (v := .int (Int32.ofNat 0)) (by decide : 0 ≠ 5) (fun e => by cases e) l0_2
  have l1_3 := mld_s1 (i := 5) (v := .int (Int32.ofNat 0)) (by decide : 1 ≠ 5) (fun e => by cases e) l1_2
  have l2_3 := mld_s1 (i := 5) (v := .int (Int32.ofNat 0)) (by decide : 2 ≠ 5) (fun e => by cases e) l2_2
  have l3_3 := mld_s1 (i := 5) (v := .int (Int32.ofNat 0)) (by decide : 3 ≠ 5) (fun e => by cases e) l3_2
  have l4_3 := mld_s1 (i := 5) (v := .int (Int32.ofNat 0)) (by decide : 4 ≠ 5) (fun e => by cases e) l4_2
  have l5_3 := mld_s0 (ls := (mst1 (mst1 ls 3 (.int (Int32.ofNat 0))) 4 (.int (Int32.ofInt (-1))))) (i := 5) (v := .int (Int32.ofNat 0))
  refine mGd_plain (M := zm_257) (q := (49, .iload 5, 2, 0, 0, 0, 0)) hE257 rfl (by decide) (fun h => nomatch h) (fun h => nomatch h) (fun h => nomatch h) (mp_ldv rfl rfl rfl l5_3 rfl) ?_
  refine mGd_plain (M := zm_257) (q := (51, .iload_n 1, 1, 0, 0, 0, 0)) hE257 rfl (by decide) (fun h => nomatch h) (fun h => nomatch h) (fun h => nomatch h) (mp_ldv rfl rfl rfl l1_3 rfl) ?_
  refine mGd_plain (M := zm_257) (q := (52, .if_icmp .gt 123, 3, 0, 0, 0, 0)) hE257 rfl (by decide) (fun h => nomatch h) (fun h => nomatch h) (fun h => nomatch h) (mp_ic0 (t := 175) rfl (by unfold mcond; exact decide_eq_false (fun h => absurd ((zi32lt (by omega) (by omega)).mp h) (by omega)))) ?_
  refine mGd_plain (M := zm_257) (q := (55, .iload 5, 2, 0, 0, 0, 0)) hE257 rfl (by decide) (fun h => nomatch h) (fun h => nomatch h) (fun h => nomatch h) (mp_ldv rfl rfl rfl l5_3 rfl) ?_
  refine mGd_plain (M := zm_257) (q := (57, .ifCond .ne 7, 3, 0, 0, 0, 0)) hE257 rfl (by decide) (fun h => nomatch h) (fun h => nomatch h) (fun h => nomatch h) (mp_iz0 (t := 64) rfl (by unfold mcond; rw [decide_eq_true (congrArg Int32.ofNat (by omega))]; rfl)) ?_
  refine mGd_plain (M := zm_257) (q := (60, .iconst 0, 1, 0, 0, 0, 0)) hE257 rfl (by decide) (fun h => nomatch h) (fun h => nomatch h) (fun h => nomatch h) (show mplain _ _ _ _ _ _ _ = some (_, _, .int (Int32.ofNat 0) :: _, _) from rfl) ?_
  refine mGd_plain (M := zm_257) (q := (61, .goto 30, 3, 0, 0, 0, 0)) hE257 rfl (by decide) (fun h => nomatch h) (fun h => nomatch h) (fun h => nomatch h) rfl ?_
  refine mGd_plain (M := zm_257) (q := (91, .istore 6, 2, 0, 0, 0, 0)) hE257 rfl (by decide) (fun h => nomatch h) (fun h => nomatch h) (fun h => nomatch h) (mp_stv rfl rfl rfl rfl rfl (by decide) (by decide)) ?_
  have l0_4 := mld_s1 (i := 6) (v := .int (Int32.ofNat 0)) (by decide : 0 ≠ 6) (fun e => by cases e) l0_3
  have l1_4 := mld_s1 (i := 6) (v := .int (Int32.ofNat 0)) (by decide : 1 ≠ 6) (fun e => by cases e) l1_3
  have l2_4 := mld_s1 (i := 6) (v := .int (Int32.ofNat 0)) (by decide : 2 ≠ 6) (fun e => by cases e) l2_3
  have l3_4 := mld_s1 (i := 6) (v := .int (Int32.ofNat 0)) (by decide : 3 ≠ 6) (fun e => by cases e) l3_3
  have l4_4 := mld_s1 (i := 6) (v := .int (Int32.ofNat 0)) (by decide : 4 ≠ 6) (fun e => by cases e) l4_3
  have l5_4 := mld_s1 (i := 6) (v := .int (Int32.ofNat 0)) (by decide : 5 ≠ 6) (fun e => by cases e) l5_3
  have l6_4 := mld_s0 (ls := (mst1 (mst1 (mst1 ls 3 (.int (Int32.ofNat 0))) 4 (.int (Int32.ofInt (-1)))) 5 (.int (Int32.ofNat 0)))) (i := 6) (v := .int (Int32.ofNat 0))
  refine mGd_plain (M := zm_257) (q := (93, .iload 5, 2, 0, 0, 0, 0)) hE257 rfl (by decide) (fun h => nomatch h) (fun h => nomatch h) (fun h => nomatch h) (mp_ldv rfl rfl rfl l5_4 rfl) ?_
  refine mGd_plain (M := zm_257) (q := (95, .iload_n 1, 1, 0, 0, 0, 0)) hE257 rfl (by decide) (fun h => nomatch h) (fun h => nomatch h) (fun h => nomatch h) (mp_ldv rfl rfl rfl l1_4 rfl) ?_
  refine mGd_plain (M := zm_257) (q := (96, .if_icmp .ne 7, 3, 0, 0, 0, 0)) hE257 rfl (by decide) (fun h => nomatch h) (fun h => nomatch h) (fun h => nomatch h) (mp_ic1 (t := 103) rfl (by unfold mcond; rw [decide_eq_false (fun h => absurd ((zi32eq (by omega) (by omega)).mp h) (by omega))]; rfl)) ?_
  refine mGd_plain (M := zm_257) (q := (103, .aload_n 0, 1, 0, 0, 0, 0)) hE257 rfl (by decide) (fun h => nomatch h) (fun h => nomatch h) (fun h => nomatch h) (mp_ldv rfl rfl rfl l0_4 rfl) ?_
  refine mGd_plain (M := zm_257) (q := (104, .aload_n 0, 1, 0, 0, 0, 0)) hE257 rfl (by decide) (fun h => nomatch h) (fun h => nomatch h) (fun h => nomatch h) (mp_ldv rfl rfl rfl l0_4 rfl) ?_
  refine mGd_plain (M := zm_257) (q := (105, .getfield 17, 3, 0, 11, 2, 0)) hE257 rfl (by decide) (fun h => nomatch h) (fun h => nomatch h) (fun h => nomatch h) (mp_getf m1 e1 rfl) ?_
  refine mGd_plain (M := zm_257) (q := (108, .iconst 0, 1, 0, 0, 0, 0)) hE257 rfl (by decide) (fun h => nomatch h) (fun h => nomatch h) (fun h => nomatch h) (show mplain _ _ _ _ _ _ _ = some (_, _, .int (Int32.ofNat 0) :: _, _) from rfl) ?_
  refine mGd_plain (M := zm_257) (q := (109, .iaload, 1, 0, 0, 0, 0)) hE257 rfl (by decide) (fun h => nomatch h) (fun h => nomatch h) (fun h => nomatch h) (mp_iald (marr_m m2 h8) rfl v0) ?_
  refine mGd_plain (M := zm_257) (q := (110, .aload_n 0, 1, 0, 0, 0, 0)) hE257 rfl (by decide) (fun h => nomatch h) (fun h => nomatch h) (fun h => nomatch h) (mp_ldv rfl rfl rfl l0_4 rfl) ?_
  refine mGd_plain (M := zm_257) (q := (111, .getfield 17, 3, 0, 11, 2, 0)) hE257 rfl (by decide) (fun h => nomatch h) (fun h => nomatch h) (fun h => nomatch h) (mp_getf m1 e1 rfl) ?_
  refine mGd_plain (M := zm_257) (q := (114, .iconst 2, 1, 0, 0, 0, 0)) hE257 rfl (by decide) (fun h => nomatch h) (fun h => nomatch h) (fun h => nomatch h) (show mplain _ _ _ _ _ _ _ = some (_, _, .int (Int32.ofNat 2) :: _, _) from rfl) ?_
  refine mGd_plain (M := zm_257) (q := (115, .iaload, 1, 0, 0, 0, 0)) hE257 rfl (by decide) (fun h => nomatch h) (fun h => nomatch h) (fun h => nomatch h) (mp_iald (marr_m m2 h8) rfl v2) ?_
  refine mGd_call (M := zm_257) (q := (116, .invokevirtual 69, 3, 9, 185, 3, 11)) hE257 rfl rfl hE185 (Nat.le_of_ble_eq_true rfl) (Nat.le_of_ble_eq_true rfl) (Nat.le_of_ble_eq_true rfl) (mrv m1 rfl) ?_
  refine zmo hE185 (a := 0) (b := 0) (by omega) (by omega) rfl rfl ?_
  show mGd E P (d + 1) 257 119 (mst1 (mst1 (mst1 (mst1 ls 3 (.int (Int32.ofNat 0))) 4 (.int (Int32.ofInt (-1)))) 5 (.int (Int32.ofNat 0))) 6 (.int (Int32.ofNat 0))) [.int (Int32.ofNat (zmaxN 0 0))] mem nc ns
  rw [show zmaxN 0 0 = 0 from rfl]
  refine mGd_plain (M := zm_257) (q := (119, .iload_n 1, 1, 0, 0, 0, 0)) hE257 rfl (by decide) (fun h => nomatch h) (fun h => nomatch h) (fun h => nomatch h) (mp_ldv rfl rfl rfl l1_4 rfl) ?_
  refine mGd_plain (M := zm_257) (q := (120, .iload 5, 2, 0, 0, 0, 0)) hE257 rfl (by decide) (fun h => nomatch h) (fun h => nomatch h) (fun h => nomatch h) (mp_ldv rfl rfl rfl l5_4 rfl) ?_
  refine mGd_plain (M := zm_257) (q := (122, .isub, 1, 0, 0, 0, 0)) hE257 rfl (by decide) (fun h => nomatch h) (fun h => nomatch h) (fun h => nomatch h) (mp_subN (by omega)) ?_
  refine mGd_plain (M := zm_257) (q := (123, .aload_n 0, 1, 0, 0, 0, 0)) hE257 rfl (by decide) (fun h => nomatch h) (fun h => nomatch h) (fun h => nomatch h) (mp_ldv rfl rfl rfl l0_4 rfl) ?_
  refine mGd_plain (M := zm_257) (q := (124, .getfield 17, 3, 0, 11, 2, 0)) hE257 rfl (by decide) (fun h => nomatch h) (fun h => nomatch h) (fun h => nomatch h) (mp_getf m1 e1 rfl) ?_
  refine mGd_plain (M := zm_257) (q := (127, .bipush 21, 2, 0, 0, 0, 0)) hE257 rfl (by decide) (fun h => nomatch h) (fun h => nomatch h) (fun h => nomatch h) (show mplain _ _ _ _ _ _ _ = some (_, _, .int (Int32.ofNat 21) :: _, _) from rfl) ?_
  refine mGd_plain (M := zm_257) (q := (129, .iaload, 1, 0, 0, 0, 0)) hE257 rfl (by decide) (fun h => nomatch h) (fun h => nomatch h) (fun h => nomatch h) (mp_iald (marr_m m2 h8) rfl v4) ?_
  refine mGd_plain (M := zm_257) (q := (130, .imul, 1, 0, 0, 0, 0)) hE257 rfl (by decide) (fun h => nomatch h) (fun h => nomatch h) (fun h => nomatch h) mp_mulN ?_
  refine mGd_plain (M := zm_257) (q := (131, .iadd, 1, 0, 0, 0, 0)) hE257 rfl (by decide) (fun h => nomatch h) (fun h => nomatch h) (fun h => nomatch h) mp_addN ?_
  rw [show 0 + (r - 0) * 6 = 6 * (r - 0) from by omega]
  refine mGd_plain (M := zm_257) (q := (132, .istore 7, 2, 0, 0, 0, 0)) hE257 rfl (by decide) (fun h => nomatch h) (fun h => nomatch h) (fun h => nomatch h) (mp_stv rfl rfl rfl rfl rfl (by decide) (by decide)) ?_
  have l0_5 := mld_s1 (i := 7) (v := .int (Int32.ofNat (6 * (r - 0)))) (by decide : 0 ≠ 7) (fun e => by cases e) l0_4
  have l1_5 := mld_s1 (i := 7) (v := .int (Int32.ofNat (6 * (r - 0)))) (by decide : 1 ≠ 7) (fun e => by cases e) l1_4
  have l2_5 := mld_s1 (i := 7) (v := .int (Int32.ofNat (6 * (r - 0)))) (by decide : 2 ≠ 7) (fun e => by cases e) l2_4
  have l3_5 := mld_s1 (i := 7) (v := .int (Int32.ofNat (6 * (r - 0)))) (by decide : 3 ≠ 7) (fun e => by cases e) l3_4
  have l4_5 := mld_s1 (i := 7) (v := .int (Int32.ofNat (6 * (r - 0)))) (by decide : 4 ≠ 7) (fun e => by cases e) l4_4
  have l5_5 := mld_s1 (i := 7) (v := .int (Int32.ofNat (6 * (r - 0)))) (by decide : 5 ≠ 7) (fun e => by cases e) l5_4
  have l6_5 := mld_s1 (i := 7) (v := .int (Int32.ofNat (6 * (r - 0)))) (by decide : 6 ≠ 7) (fun e => by cases e) l6_4
  have l7_5 := mld_s0 (ls := (mst1 (mst1 (mst1 (mst1 ls 3 (.int (Int32.ofNat 0))) 4 (.int (Int32.ofInt (-1)))) 5 (.int (Int32.ofNat 0))) 6 (.int (Int32.ofNat 0)))) (i := 7) (v := .int (Int32.ofNat (6 * (r - 0))))
  refine mGd_plain (M := zm_257) (q := (134, .iload 4, 2, 0, 0, 0, 0)) hE257 rfl (by decide) (fun h => nomatch h) (fun h => nomatch h) (fun h => nomatch h) (mp_ldv rfl rfl rfl l4_5 rfl) ?_
  refine mGd_plain (M := zm_257) (q := (136, .iconst (-1), 1, 0, 0, 0, 0)) hE257 rfl (by decide) (fun h => nomatch h) (fun h => nomatch h) (fun h => nomatch h) (show mplain _ _ _ _ _ _ _ = some (_, _, .int (Int32.ofInt (-1)) :: _, _) from rfl) ?_
  refine mGd_plain (M := zm_257) (q := (137, .if_icmp .eq 19, 3, 0, 0, 0, 0)) hE257 rfl (by decide) (fun h => nomatch h) (fun h => nomatch h) (fun h => nomatch h) (mp_ic1 (t := 156) rfl (by unfold mcond; exact decide_eq_true rfl)) ?_
  refine mGd_plain (M := zm_257) (q := (156, .aload_n 0, 1, 0, 0, 0, 0)) hE257 rfl (by decide) (fun h => nomatch h) (fun h => nomatch h) (fun h => nomatch h) (mp_ldv rfl rfl rfl l0_5 rfl) ?_
  refine mGd_plain (M := zm_257) (q := (157, .iload 6, 2, 0, 0, 0, 0)) hE257 rfl (by decide) (fun h => nomatch h) (fun h => nomatch h) (fun h => nomatch h) (mp_ldv rfl rfl rfl l6_5 rfl) ?_
  refine mGd_plain (M := zm_257) (q := (159, .iload 7, 2, 0, 0, 0, 0)) hE257 rfl (by decide) (fun h => nomatch h) (fun h => nomatch h) (fun h => nomatch h) (mp_ldv rfl rfl rfl l7_5 rfl) ?_
  refine mGd_call (M := zm_257) (q := (161, .invokevirtual 69, 3, 9, 185, 3, 11)) hE257 rfl rfl hE185 (Nat.le_of_ble_eq_true rfl) (Nat.le_of_ble_eq_true rfl) (Nat.le_of_ble_eq_true rfl) (mrv m1 rfl) ?_
  refine zmo hE185 (a := 0) (b := (6 * (r - 0))) (by omega) (by omega) rfl rfl ?_
  show mGd E P (d + 1) 257 164 (mst1 (mst1 (mst1 (mst1 (mst1 ls 3 (.int (Int32.ofNat 0))) 4 (.int (Int32.ofInt (-1)))) 5 (.int (Int32.ofNat 0))) 6 (.int (Int32.ofNat 0))) 7 (.int (Int32.ofNat (6 * (r - 0))))) [.int (Int32.ofNat (zmaxN 0 (6 * (r - 0))))] mem nc ns
  rw [show zmaxN 0 (6 * (r - 0)) = zsA 0 r from by unfold zmaxN zsA; (repeat' split) <;> omega]
  refine mGd_plain (M := zm_257) (q := (164, .istore 4, 2, 0, 0, 0, 0)) hE257 rfl (by decide) (fun h => nomatch h) (fun h => nomatch h) (fun h => nomatch h) (mp_stv rfl rfl rfl rfl rfl (by decide) (by decide)) ?_
  have l0_6 := mld_s1 (i := 4) (v := .int (Int32.ofNat (zsA 0 r))) (by decide : 0 ≠ 4) (fun e => by cases e) l0_5
  have l1_6 := mld_s1 (i := 4) (v := .int (Int32.ofNat (zsA 0 r))) (by decide : 1 ≠ 4) (fun e => by cases e) l1_5
  have l2_6 := mld_s1 (i := 4) (v := .int (Int32.ofNat (zsA 0 r))) (by decide : 2 ≠ 4) (fun e => by cases e) l2_5
  have l3_6 := mld_s1 (i := 4) (v := .int (Int32.ofNat (zsA 0 r))) (by decide : 3 ≠ 4) (fun e => by cases e) l3_5
  have l5_6 := mld_s1 (i := 4) (v := .int (Int32.ofNat (zsA 0 r))) (by decide : 5 ≠ 4) (fun e => by cases e) l5_5
  have l6_6 := mld_s1 (i := 4) (v := .int (Int32.ofNat (zsA 0 r))) (by decide : 6 ≠ 4) (fun e => by cases e) l6_5
  have l7_6 := mld_s1 (i := 4) (v := .int (Int32.ofNat (zsA 0 r))) (by decide : 7 ≠ 4) (fun e => by cases e) l7_5
  have l4_6 := mld_s0 (ls := (mst1 (mst1 (mst1 (mst1 (mst1 ls 3 (.int (Int32.ofNat 0))) 4 (.int (Int32.ofInt (-1)))) 5 (.int (Int32.ofNat 0))) 6 (.int (Int32.ofNat 0))) 7 (.int (Int32.ofNat (6 * (r - 0)))))) (i := 4) (v := .int (Int32.ofNat (zsA 0 r)))
  refine mGd_plain (M := zm_257) (q := (166, .iload 5, 2, 0, 0, 0, 0)) hE257 rfl (by decide) (fun h => nomatch h) (fun h => nomatch h) (fun h => nomatch h) (mp_ldv rfl rfl rfl l5_6 rfl) ?_
  refine mGd_plain (M := zm_257) (q := (168, .istore_n 3, 1, 0, 0, 0, 0)) hE257 rfl (by decide) (fun h => nomatch h) (fun h => nomatch h) (fun h => nomatch h) (mp_stv rfl rfl rfl rfl rfl (by decide) (by decide)) ?_
  have l0_7 := mld_s1 (i := 3) (v := .int (Int32.ofNat 0)) (by decide : 0 ≠ 3) (fun e => by cases e) l0_6
  have l1_7 := mld_s1 (i := 3) (v := .int (Int32.ofNat 0)) (by decide : 1 ≠ 3) (fun e => by cases e) l1_6
  have l2_7 := mld_s1 (i := 3) (v := .int (Int32.ofNat 0)) (by decide : 2 ≠ 3) (fun e => by cases e) l2_6
  have l4_7 := mld_s1 (i := 3) (v := .int (Int32.ofNat 0)) (by decide : 4 ≠ 3) (fun e => by cases e) l4_6
  have l5_7 := mld_s1 (i := 3) (v := .int (Int32.ofNat 0)) (by decide : 5 ≠ 3) (fun e => by cases e) l5_6
  have l6_7 := mld_s1 (i := 3) (v := .int (Int32.ofNat 0)) (by decide : 6 ≠ 3) (fun e => by cases e) l6_6
  have l7_7 := mld_s1 (i := 3) (v := .int (Int32.ofNat 0)) (by decide : 7 ≠ 3) (fun e => by cases e) l7_6
  have l3_7 := mld_s0 (ls := (mst1 (mst1 (mst1 (mst1 (mst1 (mst1 ls 3 (.int (Int32.ofNat 0))) 4 (.int (Int32.ofInt (-1)))) 5 (.int (Int32.ofNat 0))) 6 (.int (Int32.ofNat 0))) 7 (.int (Int32.ofNat (6 * (r - 0))))) 4 (.int (Int32.ofNat (zsA 0 r))))) (i := 3) (v := .int (Int32.ofNat 0))
  refine mGd_plain (M := zm_257) (q := (169, .iinc 5 1, 3, 0, 0, 0, 0)) hE257 rfl (by decide) (fun h => nomatch h) (fun h => nomatch h) (fun h => nomatch h) (mp_iincN l5_7 (by decide)) ?_
  have l0_8 := mld_s1 (i := 5) (v := .int (Int32.ofNat (0 + 1))) (by decide : 0 ≠ 5) (fun e => by cases e) l0_7
  have l1_8 := mld_s1 (i := 5) (v := .int (Int32.ofNat (0 + 1))) (by decide : 1 ≠ 5) (fun e => by cases e) l1_7
  have l2_8 := mld_s1 (i := 5) (v := .int (Int32.ofNat (0 + 1))) (by decide : 2 ≠ 5) (fun e => by cases e) l2_7
  have l3_8 := mld_s1 (i := 5) (v := .int (Int32.ofNat (0 + 1))) (by decide : 3 ≠ 5) (fun e => by cases e) l3_7
  have l4_8 := mld_s1 (i := 5) (v := .int (Int32.ofNat (0 + 1))) (by decide : 4 ≠ 5) (fun e => by cases e) l4_7
  have l6_8 := mld_s1 (i := 5) (v := .int (Int32.ofNat (0 + 1))) (by decide : 6 ≠ 5) (fun e => by cases e) l6_7
  have l7_8 := mld_s1 (i := 5) (v := .int (Int32.ofNat (0 + 1))) (by decide : 7 ≠ 5) (fun e => by cases e) l7_7
  have l5_8 := mld_s0 (ls := (mst1 (mst1 (mst1 (mst1 (mst1 (mst1 (mst1 ls 3 (.int (Int32.ofNat 0))) 4 (.int (Int32.ofInt (-1)))) 5 (.int (Int32.ofNat 0))) 6 (.int (Int32.ofNat 0))) 7 (.int (Int32.ofNat (6 * (r - 0))))) 4 (.int (Int32.ofNat (zsA 0 r)))) 3 (.int (Int32.ofNat 0)))) (i := 5) (v := .int (Int32.ofNat (0 + 1)))
  refine mGd_plain (M := zm_257) (q := (172, .goto (-123), 3, 0, 0, 0, 0)) hE257 rfl (by decide) (fun h => nomatch h) (fun h => nomatch h) (fun h => nomatch h) rfl ?_
  have z0 : zbst 0 r = 0 := by unfold zbst; rw [if_pos (Nat.zero_le _)]
  exact zsM hE257 hE185 hC hr h1 hw hP r 0 _ (by omega) l0_8 l1_8 l2_8 (by rw [z0]; exact l3_8) (by rw [z0]; exact l4_8) l5_8
/-! the contracts as the checker takes them: the answer is told by a quotient, a difference, a product -/
def zkn (F : zF) (c : zC) (n j : Nat) (v : Int) : Bool := match c with
  | .inl (t, n', base, es) => Nat.beq t 0 && Nat.beq n' n && Nat.ble (Nat.succ j) n && zew F base es (zk (.ofNat j)) (zk v)
  | .inr _ => false
theorem zkn_ok {r : List Int} {F : zF} {c : zC} {n j : Nat} {k : Nat} {cc : mCell} (hF : zFok r F) (hc : zcm r cc c) (hk : k < 2147483648) (h : zkn F c n j (k : Int) = true) : ∃ f, cc = .inl (0, n, f) ∧ f j = .int (Int32.ofNat k) := by
  unfold zkn at h
  split at h
  · rename_i t n' base es
    simp only [Bool.and_eq_true, zbe, Nat.ble_eq] at h
    obtain ⟨⟨⟨h1, h2⟩, h3⟩, h4⟩ := h
    obtain ⟨f, rfl, hf⟩ := hc
    subst h1 h2
    refine ⟨f, rfl, ?_⟩
    exact zew_ok hF (zk_d hF _) (hf j (by omega)) (zvm_int rfl (by rw [zi32n hk]; exact zk_d hF _)) h4
  · cases h
theorem zkn_fn {cc : mCell} {n : Nat} {f g : Nat → Value} (h1 : cc = .inl (0, n, f)) (h2 : cc = .inl (0, n, g)) : f = g := by
  rw [h1] at h2
  cases h2
  rfl
def zcsb (F : zF) (w : zW) (x : Nat) : Bool := match ztg 7 w.2 x with
  | .inr (ci, fx) => Nat.beq ci 10 && (match zln fx 0 with
    | some wd => Nat.beq wd.1 2 && Nat.ble (Nat.succ wd.2.1) w.1 && (match ztg 7 w.2 wd.2.1 with
      | .inr (cj, fw) => Nat.beq cj 9 && (match zln fw 17, zln fw 3, zln fw 0 with
        | some nw, some fr, some st => zk0 nw && Nat.beq fr.1 2 && Nat.beq st.1 2 && Nat.ble (Nat.succ fr.2.1) w.1 && Nat.ble (Nat.succ st.2.1) w.1 && zkn F (ztg 7 w.2 fr.2.1) 2 0 0 && zkn F (ztg 7 w.2 fr.2.1) 2 1 0 && zkn F (ztg 7 w.2 st.2.1) 7 0 2 && zkn F (ztg 7 w.2 st.2.1) 7 1 6
        | _, _, _ => false)
      | .inl _ => false)
    | none => false)
  | .inl _ => false
theorem zcsb_ok {r : List Int} {F : zF} {mem : mMem} {w : zW} {x : Nat} (hF : zFok r F) (hm : zmm r mem w) (hx : x < w.1) (h : zcsb F w x = true) : zCs mem x := by
  unfold zcsb at h
  obtain ⟨cx, x1, x2⟩ := hm.2.2 x hx
  split at h
  · rename_i ci fx ex
    rw [ex] at x2
    obtain ⟨fx', rfl, hfx⟩ := x2
    simp only [Bool.and_eq_true, zbe] at h
    obtain ⟨rfl, h⟩ := h
    split at h
    · rename_i wd e1
      simp only [Bool.and_eq_true, zbe, Nat.ble_eq] at h
      obtain ⟨⟨h1, h2⟩, h⟩ := h
      obtain ⟨u1, g1, v1⟩ := zln_ok hfx e1
      obtain rfl := zvm_r v1 (zbe.mpr h1)
      obtain ⟨cw, w1, w2⟩ := hm.2.2 wd.2.1 (by omega)
      split at h
      · rename_i cj fw ew
        rw [ew] at w2
        obtain ⟨fw', rfl, hfw⟩ := w2
        simp only [Bool.and_eq_true, zbe] at h
        obtain ⟨rfl, h⟩ := h
        split at h
        · rename_i nw fr st e2 e3 e4
          simp only [Bool.and_eq_true, zbe, Nat.ble_eq] at h
          obtain ⟨⟨⟨⟨⟨⟨⟨⟨k1, k2⟩, k3⟩, k4⟩, k5⟩, k6⟩, k7⟩, k8⟩, k9⟩ := h
          obtain ⟨u2, g2, v2⟩ := zln_ok hfw e2
          obtain ⟨u3, g3, v3⟩ := zln_ok hfw e3
          obtain ⟨u4, g4, v4⟩ := zln_ok hfw e4
          obtain rfl := zk0_ok hF v2 k1
          obtain rfl := zvm_r v3 (zbe.mpr k2)
          obtain rfl := zvm_r v4 (zbe.mpr k3)
          obtain ⟨cf, f1, f2⟩ := hm.2.2 fr.2.1 (by omega)
          obtain ⟨cs, s1, s2⟩ := hm.2.2 st.2.1 (by omega)
          obtain ⟨ff, q1, q2⟩ := zkn_ok (k := 0) hF f2 (by decide) k6
          obtain ⟨ff', q3, q4⟩ := zkn_ok (k := 0) hF f2 (by decide) k7
          obtain ⟨fs, q5, q6⟩ := zkn_ok (k := 2) hF s2 (by decide) k8
          obtain ⟨fs', q7, q8⟩ := zkn_ok (k := 6) hF s2 (by decide) k9
          obtain rfl := zkn_fn q1 q3
          obtain rfl := zkn_fn q5 q7
          exact ⟨wd.2.1, fr.2.1, st.2.1, fx', fw', ff, fs, by rw [hm.1]; exact hm.2.1, x1, g1, w1, g2, g3, g4, by rw [f1, q1], q2, q4, by rw [s1, q5], q6, q8⟩
        · cases h
      · cases h
    · cases h
  · cases h
def zmsb (F : zF) (w : zW) (x : Nat) : Bool := match ztg 7 w.2 x with
  | .inr (ci, fx) => Nat.beq ci 11 && (match zln fx 2, zln fx 0 with
    | some mm, some th => zk0 th && Nat.beq mm.1 2 && Nat.ble (Nat.succ mm.2.1) w.1 && zkn F (ztg 7 w.2 mm.2.1) 969 0 0 && zkn F (ztg 7 w.2 mm.2.1) 969 1 0 && zkn F (ztg 7 w.2 mm.2.1) 969 2 0 && zkn F (ztg 7 w.2 mm.2.1) 969 20 2 && zkn F (ztg 7 w.2 mm.2.1) 969 21 6
    | _, _ => false)
  | .inl _ => false
theorem zmsb_ok {r : List Int} {F : zF} {mem : mMem} {w : zW} {x : Nat} (hF : zFok r F) (hm : zmm r mem w) (hx : x < w.1) (h : zmsb F w x = true) : zMs mem x := by
  unfold zmsb at h
  obtain ⟨cx, x1, x2⟩ := hm.2.2 x hx
  split at h
  · rename_i ci fx ex
    rw [ex] at x2
    obtain ⟨fx', rfl, hfx⟩ := x2
    simp only [Bool.and_eq_true, zbe] at h
    obtain ⟨rfl, h⟩ := h
    split at h
    · rename_i mm th e1 e2
      simp only [Bool.and_eq_true, zbe, Nat.ble_eq] at h
      obtain ⟨⟨⟨⟨⟨⟨⟨k1, k2⟩, k3⟩, k4⟩, k5⟩, k6⟩, k7⟩, k8⟩ := h
      obtain ⟨u1, g1, v1⟩ := zln_ok hfx e1
      obtain ⟨u2, g2, v2⟩ := zln_ok hfx e2
      obtain rfl := zvm_r v1 (zbe.mpr k2)
      obtain rfl := zk0_ok hF v2 k1
      obtain ⟨cm, f1, f2⟩ := hm.2.2 mm.2.1 (by omega)
      obtain ⟨a0, p0, q0⟩ := zkn_ok (k := 0) hF f2 (by decide) k4
      obtain ⟨a1, p1, q1⟩ := zkn_ok (k := 0) hF f2 (by decide) k5
      obtain ⟨a2, p2, q2⟩ := zkn_ok (k := 0) hF f2 (by decide) k6
      obtain ⟨a3, p3, q3⟩ := zkn_ok (k := 2) hF f2 (by decide) k7
      obtain ⟨a4, p4, q4⟩ := zkn_ok (k := 6) hF f2 (by decide) k8
      obtain rfl := zkn_fn p0 p1
      obtain rfl := zkn_fn p0 p2
      obtain rfl := zkn_fn p0 p3
      obtain rfl := zkn_fn p0 p4
      exact ⟨mm.2.1, fx', a0, by rw [hm.1]; exact hm.2.1, x1, g1, g2, by rw [f1, p0], q0, q1, q2, q3, q4⟩
    · cases h
  · cases h
def zsp (chk : zF → zW → Nat → Bool) (args : List zV) (F : zF) (w : zW) (nc ns : Nat) : Option (List zU) := match args with
  | [x, q, h] => bif Nat.beq x.1 2 && Nat.beq q.1 1 && Nat.beq h.1 1 && Nat.ble (Nat.succ x.2.1) w.1 && chk F w x.2.1 then
      (match zlh F q, zlh F h with
      | some (ql, qh), some (hl, hh) => bif zle 1 ql && zle qh 1000 && zle 0 hl && zle hh 1 && zeq hl hh then
          (match zbi F 10 q (zk 4) with
          | some (c1, F1) => (match zbi F1 2 q c1 with
            | some (c2, F2) => bif zeq hl 0 then some [(1, c2, F2, w, nc, ns)] else (match zbi F2 3 c2 (zk 2) with
              | some (c3, F3) => some [(1, c3, F3, w, nc, ns)]
              | none => none)
            | none => none)
          | none => none) else none
      | _, _ => none) else none
  | _ => none
theorem znat {x : Int32} (h : 0 ≤ x.toInt) : x = Int32.ofNat x.toInt.toNat ∧ x.toInt.toNat < 2147483648 := by
  have h2 := x.toInt_lt
  have hb : x.toInt.toNat < 2147483648 := by omega
  refine ⟨?_, hb⟩
  rw [← Int32.toInt_inj, zi32n hb]
  omega
theorem zq4 {r : Nat} (h : r ≤ 1000) : Int32.ofNat r / 4 = Int32.ofNat (r / 4) := by
  rw [← Int32.toInt_inj, Int32.toInt_div, zi32n (by omega), zi32n (by omega), show (4 : Int32).toInt = ((4 : Nat) : Int) from by decide]
  rw [show ((r : Int).tdiv ((4 : Nat) : Int)) = ((r / 4 : Nat) : Int) from by rw [Int.tdiv_eq_ediv_of_nonneg (by omega)]; omega]
  exact zbm (by rw [zI0e]; omega) (by rw [zI1e]; omega)
theorem zd4 {r : Nat} (h : r ≤ 1000) : Int32.ofNat r - Int32.ofNat r / 4 = Int32.ofNat (r - r / 4) := by
  rw [zq4 h, ← Int32.toInt_inj, zsub_i (by rw [zi32n (by omega), zi32n (by omega), zI0e]; omega) (by rw [zi32n (by omega), zi32n (by omega), zI1e]; omega), zi32n (by omega), zi32n (by omega), zi32n (by omega)]
  omega
theorem zsp_ok {E : mEnv} {mi : Nat} {chk : zF → zW → Nat → Bool} {C : mMem → Nat → Prop} (hchk : ∀ {r : List Int} {F : zF} {mem : mMem} {w : zW} {x : Nat}, zFok r F → zmm r mem w → x < w.1 → chk F w x = true → C mem x)
    (hrun : ∀ {P : mRes → Prop} {d nc ns X r w : Nat} {mem : mMem}, C mem X → r ≤ 1000 → 1 ≤ r → w ≤ 1 → P (.inr (some (.int (Int32.ofNat (if w = 0 then r - r / 4 else 2 * (r - r / 4))))), mem, nc, ns) → mGd E P (d + 2) mi 0 [(0, .ref X), (1, .int (Int32.ofNat r)), (2, .int (Int32.ofNat w))] [] mem nc ns)
    {d : Nat} (hd : 2 ≤ d) {args : List zV} {F : zF} {w : zW} {nc ns : Nat} {L : List zU} (h : zsp chk args F w nc ns = some L) {r : List Int} {vs : List Value} {mem : mMem} {nc0 ns0 : Nat} (hF : zFok r F) (hl : zlm r vs args) (hm : zmm r mem w) (hnc : nc0 ≤ nc) (hns : ns0 ≤ ns) :
    ∃ n res, mrun E n d mi 0 (lv_args 0 vs) [] mem nc0 ns0 = some res ∧ ∃ o ∈ L, ∃ r', zX r r' ∧ zuo E r' o res := by
  unfold zsp at h
  split at h
  · rename_i x q hh
    obtain ⟨u1, vs1, rfl, hu1, hvs1⟩ := zlm_cons hl
    obtain ⟨u2, vs2, rfl, hu2, hvs2⟩ := zlm_cons hvs1
    obtain ⟨u3, vs3, rfl, hu3, hvs3⟩ := zlm_cons hvs2
    cases vs3 with
    | cons _ _ => exact hvs3.elim
    | nil =>
    cases c1 : (Nat.beq x.1 2 && Nat.beq q.1 1 && Nat.beq hh.1 1 && Nat.ble (Nat.succ x.2.1) w.1 && chk F w x.2.1) with
    | false => rw [c1] at h; cases h
    | true =>
      rw [c1] at h
      simp only [cond_true] at h
      simp only [Bool.and_eq_true, Nat.ble_eq] at c1
      obtain ⟨⟨⟨⟨k1, k2⟩, k3⟩, k4⟩, k5⟩ := c1
      obtain rfl := zvm_r hu1 k1
      obtain ⟨a, rfl, ha⟩ := zvm_i hu2 k2
      obtain ⟨b, rfl, hb⟩ := zvm_i hu3 k3
      have hC := hchk hF hm (by omega) k5
      split at h
      · rename_i ql qh hl9 hh9 e1 e2
        cases c2 : (zle 1 ql && zle qh 1000 && zle 0 hl9 && zle hh9 1 && zeq hl9 hh9) with
        | false => rw [c2] at h; cases h
        | true =>
          rw [c2] at h
          simp only [cond_true] at h
          simp only [Bool.and_eq_true, zle_iff, zeq_iff] at c2
          obtain ⟨⟨⟨⟨j1, j2⟩, j3⟩, j4⟩, j5⟩ := c2
          obtain ⟨i1, i2⟩ := zlh_ok hF e1 ha
          obtain ⟨i3, i4⟩ := zlh_ok hF e2 hb
          obtain ⟨na, nb⟩ := znat (x := a) (by omega)
          obtain ⟨ma, mb⟩ := znat (x := b) (by omega)
          generalize a.toInt.toNat = A at na nb
          generalize hB : b.toInt.toNat = B at ma mb
          subst na ma
          rw [zi32n nb] at i1 i2
          rw [zi32n mb] at i3 i4
          have fin : ∀ {r' : List Int} {c : zV} {F' : zF} {z : Int32}, zX r r' → zFok r' F' → zd r' c = some z.toInt → c.1 = 1 → z = Int32.ofNat (if B = 0 then A - A / 4 else 2 * (A - A / 4)) → L = [(1, c, F', w, nc, ns)] →
              ∃ n res, mrun E n d mi 0 (lv_args 0 [Value.ref x.2.1, .int (Int32.ofNat A), .int (Int32.ofNat B)]) [] mem nc0 ns0 = some res ∧ ∃ o ∈ L, ∃ r', zX r r' ∧ zuo E r' o res := by
            intro r' c F' z hx hF' hz hc1 ez eL
            obtain ⟨d', rfl⟩ : ∃ d', d = d' + 2 := ⟨d - 2, by omega⟩
            obtain ⟨n, res, hr, hp⟩ := hrun (P := fun res => ∃ o ∈ L, ∃ r', zX r r' ∧ zuo E r' o res) (d := d') (nc := nc0) (ns := ns0) (X := x.2.1) (r := A) (w := B) (mem := mem) hC (by omega) (by omega) (by omega) (by
              subst eL
              refine ⟨_, List.mem_singleton.mpr rfl, r', hx, hF', hm.ex hx, hnc, hns, .int z, by rw [ez], zvm_int hc1 hz⟩)
            exact ⟨n, res, hr, hp⟩
          split at h
          · rename_i c1' F1 b1
            obtain ⟨z1, r1, o1, x1, F1ok, d1, t1⟩ := zbi_ok (y := 4) hF ha (by rw [show (4 : Int32).toInt = 4 from by decide]; exact zk_d hF _) b1
            have e1' : z1 = Int32.ofNat A / 4 := by
              have : zop 10 (Int32.ofNat A) 4 = some (Int32.ofNat A / 4) := by show (if (4 : Int32) = 0 then none else some (Int32.ofNat A / 4)) = _; rw [if_neg (by decide)]
              rw [this] at o1
              exact (Option.some.inj o1).symm
            split at h
            · rename_i c2' F2 b2
              obtain ⟨z2, r2, o2, x2, F2ok, d2, t2⟩ := zbi_ok F1ok (x1.den ha) d1 b2
              have e2' : z2 = Int32.ofNat (A - A / 4) := by
                have : zop 2 (Int32.ofNat A) z1 = some (Int32.ofNat A - z1) := rfl
                rw [this, e1'] at o2
                rw [← Option.some.inj o2]
                exact zd4 (by omega)
              cases c3 : zeq hl9 0 with
              | true =>
                rw [c3] at h
                have hB0 : B = 0 := by have := zeq_iff.mp c3; omega
                simp only [cond_true, Option.some.injEq] at h
                exact fin (x1.tr x2) F2ok d2 t2 (by rw [e2', if_pos hB0]) h.symm
              | false =>
                rw [c3] at h
                have hB1 : B = 1 := by
                  have : hl9 ≠ 0 := fun e => by rw [zeq_iff.mpr e] at c3; cases c3
                  omega
                simp only [cond_false] at h
                split at h
                · rename_i c3' F3 b3
                  obtain ⟨z3, r3, o3, x3, F3ok, d3, t3⟩ := zbi_ok (y := 2) F2ok d2 (by rw [show (2 : Int32).toInt = 2 from by decide]; exact zk_d F2ok _) b3
                  have e3' : z3 = Int32.ofNat (2 * (A - A / 4)) := by
                    have : zop 3 z2 2 = some (z2 * 2) := rfl
                    rw [this, e2'] at o3
                    rw [← Option.some.inj o3, show (2 : Int32) = Int32.ofNat 2 from rfl, ← Int32.ofNat_mul, Nat.mul_comm]
                  exact fin ((x1.tr x2).tr x3) F3ok d3 t3 (by rw [e3', if_neg (by omega)]) (Option.some.inj h).symm
                · cases h
            · cases h
          · cases h
      · cases h
  · cases h
def zcon2 : zK := fun mi args F w nc ns => bif Nat.beq mi 149 then zsp zcsb args F w nc ns else bif Nat.beq mi 257 then zsp zmsb args F w nc ns else zcon1 mi args F w nc ns
theorem zcon2_ok {E : mEnv} (hE : E.1 = zmt) (hE2 : E.2.1 = zft_) {ro : zQ} : zCon E ro 100 zcon2 := by
  intro d mi args F w nc ns L hd h r vs mem nc0 ns0 hro hF hl hm hnc hns
  unfold zcon2 at h
  cases c0 : Nat.beq mi 149 with
  | true =>
    rw [c0] at h
    obtain rfl := zbe.mp c0
    exact zsp_ok (C := zCs) zcsb_ok (fun hC hr h1 hw hP => zsCs (by rw [hE]; rfl) (by rw [hE]; rfl) (by rw [hE]; rfl) (by rw [hE]; rfl) hC hr h1 hw rfl rfl rfl hP) (by omega) h hF hl hm hnc hns
  | false =>
    rw [c0] at h
    simp only [cond_false] at h
    cases c1 : Nat.beq mi 257 with
    | true =>
      rw [c1] at h
      obtain rfl := zbe.mp c1
      exact zsp_ok (C := zMs) zmsb_ok (fun {P} {d} {nc} {ns} {X} {r} {w} {mem} hC hr h1 hw hP => zsMs (d := d + 1) (by rw [hE]; rfl) (by rw [hE]; rfl) (by rw [hE]; rfl) (by rw [hE]; rfl) (by rw [hE2]; rfl) hC hr h1 hw rfl rfl rfl hP) (by omega) h hF hl hm hnc hns
    | false =>
      rw [c1] at h
      exact zcon1_ok hE hE2 d mi args F w nc ns L hd h r vs mem nc0 ns0 hro hF hl hm hnc hns
