/-! the reference's history: what it keeps of the latest accesses, no more than that they are ints -/
theorem zle2 {E : mEnv} (hE181 : E.1 181 = some zm_181) {P : mRes → Prop} {d nc ns a b : Nat} {ls : mLs} {mem : mMem} (ha : a < 2147483648) (hb : b < 2147483648) (l1 : mld ls 1 = some (.int (Int32.ofNat a))) (l2 : mld ls 2 = some (.int (Int32.ofNat b)))
    (hP : P (.inr (some (.int (Int32.ofNat (min a b)))), mem, nc, ns)) : mGd E P d 181 0 ls [] mem nc ns := by
  by_cases h : b ≤ a
  · rw [show min a b = b from by omega] at hP
    refine mGd_plain (M := zm_181) (q := (0, .iload_n 1, 1, 0, 0, 0, 0)) hE181 rfl (by decide) (fun h => nomatch h) (fun h => nomatch h) (fun h => nomatch h) (mp_ldv rfl rfl rfl l1 rfl) ?_
    refine mGd_plain (M := zm_181) (q := (1, .iload_n 2, 1, 0, 0, 0, 0)) hE181 rfl (by decide) (fun h => nomatch h) (fun h => nomatch h) (fun h => nomatch h) (mp_ldv rfl rfl rfl l2 rfl) ?_
    refine mGd_plain (M := zm_181) (q := (2, .if_icmp .ge 7, 3, 0, 0, 0, 0)) hE181 rfl (by decide) (fun h => nomatch h) (fun h => nomatch h) (fun h => nomatch h) (mp_ic1 (t := 9) rfl (by unfold mcond; exact decide_eq_true ((zi32le (by omega) (by omega)).mpr (by omega)))) ?_
    refine mGd_plain (M := zm_181) (q := (9, .iload_n 2, 1, 0, 0, 0, 0)) hE181 rfl (by decide) (fun h => nomatch h) (fun h => nomatch h) (fun h => nomatch h) (mp_ldv rfl rfl rfl l2 rfl) ?_
    exact mGd_iret (M := zm_181) (q := (10, .ireturn, 1, 0, 0, 0, 0)) hE181 rfl (by decide) rfl rfl rfl rfl hP
  · rw [show min a b = a from by omega] at hP
    refine mGd_plain (M := zm_181) (q := (0, .iload_n 1, 1, 0, 0, 0, 0)) hE181 rfl (by decide) (fun h => nomatch h) (fun h => nomatch h) (fun h => nomatch h) (mp_ldv rfl rfl rfl l1 rfl) ?_
    refine mGd_plain (M := zm_181) (q := (1, .iload_n 2, 1, 0, 0, 0, 0)) hE181 rfl (by decide) (fun h => nomatch h) (fun h => nomatch h) (fun h => nomatch h) (mp_ldv rfl rfl rfl l2 rfl) ?_
    refine mGd_plain (M := zm_181) (q := (2, .if_icmp .ge 7, 3, 0, 0, 0, 0)) hE181 rfl (by decide) (fun h => nomatch h) (fun h => nomatch h) (fun h => nomatch h) (mp_ic0 (t := 9) rfl (by unfold mcond; exact decide_eq_false (fun h => absurd ((zi32le (by omega) (by omega)).mp h) (by omega)))) ?_
    refine mGd_plain (M := zm_181) (q := (5, .iload_n 1, 1, 0, 0, 0, 0)) hE181 rfl (by decide) (fun h => nomatch h) (fun h => nomatch h) (fun h => nomatch h) (mp_ldv rfl rfl rfl l1 rfl) ?_
    refine mGd_plain (M := zm_181) (q := (6, .goto 4, 3, 0, 0, 0, 0)) hE181 rfl (by decide) (fun h => nomatch h) (fun h => nomatch h) (fun h => nomatch h) rfl ?_
    exact mGd_iret (M := zm_181) (q := (10, .ireturn, 1, 0, 0, 0, 0)) hE181 rfl (by decide) rfl rfl rfl rfl hP
/-- a store at a written place -/
theorem zrE {E : mEnv} (hE225 : E.1 225 = some zm_225) {P : mRes → Prop} {d nc ns X Mm : Nat} {fm : List Value} {mem : mMem} (h8 : mem.length ≤ 128) (q1 : mem[X]? = some (.inr (11, fm))) (e1 : fm[2]? = some (.ref Mm)) (n2 : Mm ≠ X) {c0 : mCell} (q2 : mem[Mm]? = some c0) {g p s v : Int32} {n : Nat} {ls : mLs} {h : Nat → Value} (hn : n ≤ 63) (l0 : mld ls 0 = some (.ref X)) (l1 : mld ls 1 = some (.int g)) (l2 : mld ls 2 = some (.int p)) (l3 : mld ls 3 = some (.int s)) (l4 : mld ls 4 = some (.int v)) (l5 : mld ls 5 = some (.int (Int32.ofNat n)))
    (hP : P (.inr none, mem.set Mm (.inl (0, 969, mup (mup (mup (mup (mup h 713 (.int g)) 714 (.int p)) 715 (.int s)) 716 (.int v)) 712 (.int (Int32.ofNat (n + 1))))), nc, ns)) : mGd E P d 225 57 ls [] (mem.set Mm (.inl (0, 969, h))) nc ns := by
  have m1 : ∀ c, (mem.set Mm c)[X]? = some (.inr (11, fm)) := fun c => by rw [mset_ne n2]; exact q1
  refine mGd_plain (M := zm_225) (q := (57, .aload_n 0, 1, 0, 0, 0, 0)) hE225 rfl (by decide) (fun h => nomatch h) (fun h => nomatch h) (fun h => nomatch h) (mp_ldv rfl rfl rfl l0 rfl) ?_
  refine mGd_plain (M := zm_225) (q := (58, .getfield 17, 3, 0, 11, 2, 0)) hE225 rfl (by decide) (fun h => nomatch h) (fun h => nomatch h) (fun h => nomatch h) (mp_getf (m1 _) e1 rfl) ?_
  refine mGd_plain (M := zm_225) (q := (61, .sipush 713, 3, 0, 0, 0, 0)) hE225 rfl (by decide) (fun h => nomatch h) (fun h => nomatch h) (fun h => nomatch h) (show mplain _ _ _ _ _ _ _ = some (_, _, .int (Int32.ofNat 713) :: _, _) from rfl) ?_
  refine mGd_plain (M := zm_225) (q := (64, .iload_n 1, 1, 0, 0, 0, 0)) hE225 rfl (by decide) (fun h => nomatch h) (fun h => nomatch h) (fun h => nomatch h) (mp_ldv rfl rfl rfl l1 rfl) ?_
  refine mGd_plain (M := zm_225) (q := (65, .iastore, 1, 0, 0, 0, 0)) hE225 rfl (by decide) (fun h => nomatch h) (fun h => nomatch h) (fun h => nomatch h) (mp_iast (mset_eq q2) (zi32in (by decide) (by decide))) ?_
  rw [mset_set, zi32c (by decide)]
  refine mGd_plain (M := zm_225) (q := (66, .aload_n 0, 1, 0, 0, 0, 0)) hE225 rfl (by decide) (fun h => nomatch h) (fun h => nomatch h) (fun h => nomatch h) (mp_ldv rfl rfl rfl l0 rfl) ?_
  refine mGd_plain (M := zm_225) (q := (67, .getfield 17, 3, 0, 11, 2, 0)) hE225 rfl (by decide) (fun h => nomatch h) (fun h => nomatch h) (fun h => nomatch h) (mp_getf (m1 _) e1 rfl) ?_
  refine mGd_plain (M := zm_225) (q := (70, .sipush 714, 3, 0, 0, 0, 0)) hE225 rfl (by decide) (fun h => nomatch h) (fun h => nomatch h) (fun h => nomatch h) (show mplain _ _ _ _ _ _ _ = some (_, _, .int (Int32.ofNat 714) :: _, _) from rfl) ?_
  refine mGd_plain (M := zm_225) (q := (73, .iload_n 2, 1, 0, 0, 0, 0)) hE225 rfl (by decide) (fun h => nomatch h) (fun h => nomatch h) (fun h => nomatch h) (mp_ldv rfl rfl rfl l2 rfl) ?_
  refine mGd_plain (M := zm_225) (q := (74, .iastore, 1, 0, 0, 0, 0)) hE225 rfl (by decide) (fun h => nomatch h) (fun h => nomatch h) (fun h => nomatch h) (mp_iast (mset_eq q2) (zi32in (by decide) (by decide))) ?_
  rw [mset_set, zi32c (by decide)]
  refine mGd_plain (M := zm_225) (q := (75, .aload_n 0, 1, 0, 0, 0, 0)) hE225 rfl (by decide) (fun h => nomatch h) (fun h => nomatch h) (fun h => nomatch h) (mp_ldv rfl rfl rfl l0 rfl) ?_
  refine mGd_plain (M := zm_225) (q := (76, .getfield 17, 3, 0, 11, 2, 0)) hE225 rfl (by decide) (fun h => nomatch h) (fun h => nomatch h) (fun h => nomatch h) (mp_getf (m1 _) e1 rfl) ?_
  refine mGd_plain (M := zm_225) (q := (79, .sipush 715, 3, 0, 0, 0, 0)) hE225 rfl (by decide) (fun h => nomatch h) (fun h => nomatch h) (fun h => nomatch h) (show mplain _ _ _ _ _ _ _ = some (_, _, .int (Int32.ofNat 715) :: _, _) from rfl) ?_
  refine mGd_plain (M := zm_225) (q := (82, .iload_n 3, 1, 0, 0, 0, 0)) hE225 rfl (by decide) (fun h => nomatch h) (fun h => nomatch h) (fun h => nomatch h) (mp_ldv rfl rfl rfl l3 rfl) ?_
  refine mGd_plain (M := zm_225) (q := (83, .iastore, 1, 0, 0, 0, 0)) hE225 rfl (by decide) (fun h => nomatch h) (fun h => nomatch h) (fun h => nomatch h) (mp_iast (mset_eq q2) (zi32in (by decide) (by decide))) ?_
  rw [mset_set, zi32c (by decide)]
  refine mGd_plain (M := zm_225) (q := (84, .aload_n 0, 1, 0, 0, 0, 0)) hE225 rfl (by decide) (fun h => nomatch h) (fun h => nomatch h) (fun h => nomatch h) (mp_ldv rfl rfl rfl l0 rfl) ?_
  refine mGd_plain (M := zm_225) (q := (85, .getfield 17, 3, 0, 11, 2, 0)) hE225 rfl (by decide) (fun h => nomatch h) (fun h => nomatch h) (fun h => nomatch h) (mp_getf (m1 _) e1 rfl) ?_
  refine mGd_plain (M := zm_225) (q := (88, .sipush 716, 3, 0, 0, 0, 0)) hE225 rfl (by decide) (fun h => nomatch h) (fun h => nomatch h) (fun h => nomatch h) (show mplain _ _ _ _ _ _ _ = some (_, _, .int (Int32.ofNat 716) :: _, _) from rfl) ?_
  refine mGd_plain (M := zm_225) (q := (91, .iload 4, 2, 0, 0, 0, 0)) hE225 rfl (by decide) (fun h => nomatch h) (fun h => nomatch h) (fun h => nomatch h) (mp_ldv rfl rfl rfl l4 rfl) ?_
  refine mGd_plain (M := zm_225) (q := (93, .iastore, 1, 0, 0, 0, 0)) hE225 rfl (by decide) (fun h => nomatch h) (fun h => nomatch h) (fun h => nomatch h) (mp_iast (mset_eq q2) (zi32in (by decide) (by decide))) ?_
  rw [mset_set, zi32c (by decide)]
  refine mGd_plain (M := zm_225) (q := (94, .aload_n 0, 1, 0, 0, 0, 0)) hE225 rfl (by decide) (fun h => nomatch h) (fun h => nomatch h) (fun h => nomatch h) (mp_ldv rfl rfl rfl l0 rfl) ?_
  refine mGd_plain (M := zm_225) (q := (95, .getfield 17, 3, 0, 11, 2, 0)) hE225 rfl (by decide) (fun h => nomatch h) (fun h => nomatch h) (fun h => nomatch h) (mp_getf (m1 _) e1 rfl) ?_
  refine mGd_plain (M := zm_225) (q := (98, .sipush 712, 3, 0, 0, 0, 0)) hE225 rfl (by decide) (fun h => nomatch h) (fun h => nomatch h) (fun h => nomatch h) (show mplain _ _ _ _ _ _ _ = some (_, _, .int (Int32.ofNat 712) :: _, _) from rfl) ?_
  refine mGd_plain (M := zm_225) (q := (101, .iload 5, 2, 0, 0, 0, 0)) hE225 rfl (by decide) (fun h => nomatch h) (fun h => nomatch h) (fun h => nomatch h) (mp_ldv rfl rfl rfl l5 rfl) ?_
  refine mGd_plain (M := zm_225) (q := (103, .iconst 1, 1, 0, 0, 0, 0)) hE225 rfl (by decide) (fun h => nomatch h) (fun h => nomatch h) (fun h => nomatch h) (show mplain _ _ _ _ _ _ _ = some (_, _, .int (Int32.ofNat 1) :: _, _) from rfl) ?_
  refine mGd_plain (M := zm_225) (q := (104, .iadd, 1, 0, 0, 0, 0)) hE225 rfl (by decide) (fun h => nomatch h) (fun h => nomatch h) (fun h => nomatch h) mp_addN ?_
  refine mGd_plain (M := zm_225) (q := (105, .iastore, 1, 0, 0, 0, 0)) hE225 rfl (by decide) (fun h => nomatch h) (fun h => nomatch h) (fun h => nomatch h) (mp_iast (mset_eq q2) (zi32in (by decide) (by decide))) ?_
  rw [mset_set, zi32c (by decide)]
  exact mGd_ret (M := zm_225) (q := (106, .return_, 1, 0, 0, 0, 0)) hE225 rfl (by decide) rfl rfl hP
theorem zrL {E : mEnv} (hE225 : E.1 225 = some zm_225) {P : mRes → Prop} {d nc ns X Mm : Nat} {fm : List Value} {mem : mMem} (h8 : mem.length ≤ 128) (q1 : mem[X]? = some (.inr (11, fm))) (e1 : fm[2]? = some (.ref Mm)) (n2 : Mm ≠ X) {c0 : mCell} (q2 : mem[Mm]? = some c0) {g p s v : Int32} {n : Nat} {f : Nat → Value} (hn : n ≤ 63)
    (hP : ∀ h : Nat → Value, (∀ j, j < 713 → h j = f j) → (∀ j, j < 969 → ∃ x, h j = .int x) → P (.inr none, mem.set Mm (.inl (0, 969, mup (mup (mup (mup (mup h 713 (.int g)) 714 (.int p)) 715 (.int s)) 716 (.int v)) 712 (.int (Int32.ofNat (n + 1))))), nc, ns)) :
    ∀ (k : Nat) (ls : mLs) (h : Nat → Value), k < 4 * n → (∀ j, j < 713 → h j = f j) → (∀ j, j < 969 → ∃ x, h j = .int x) → mld ls 0 = some (.ref X) → mld ls 1 = some (.int g) → mld ls 2 = some (.int p) → mld ls 3 = some (.int s) → mld ls 4 = some (.int v) → mld ls 5 = some (.int (Int32.ofNat n)) → mld ls 6 = some (.int (Int32.ofNat k)) → mGd E P d 225 24 ls [] (mem.set Mm (.inl (0, 969, h))) nc ns := by
  have m1 : ∀ c, (mem.set Mm c)[X]? = some (.inr (11, fm)) := fun c => by rw [mset_ne n2]; exact q1
  have h9 : ∀ c, (mem.set Mm c).length ≤ 128 := fun c => by rw [List.length_set]; exact h8
  intro k
  induction k with
  | zero =>
    intro ls h hk i1 i2 l0 l1 l2 l3 l4 l5 l6
    obtain ⟨x, hx⟩ := i2 713 (by decide)
    refine mGd_plain (M := zm_225) (q := (24, .iload 6, 2, 0, 0, 0, 0)) hE225 rfl (by decide) (fun h => nomatch h) (fun h => nomatch h) (fun h => nomatch h) (mp_ldv rfl rfl rfl l6 rfl) ?_
    refine mGd_plain (M := zm_225) (q := (26, .ifCond .lt 31, 3, 0, 0, 0, 0)) hE225 rfl (by decide) (fun h => nomatch h) (fun h => nomatch h) (fun h => nomatch h) (mp_iz0 (t := 57) rfl (by unfold mcond; exact decide_eq_false (fun h => absurd ((zi32lt (by omega) (by omega)).mp h) (by omega)))) ?_
    refine mGd_plain (M := zm_225) (q := (29, .aload_n 0, 1, 0, 0, 0, 0)) hE225 rfl (by decide) (fun h => nomatch h) (fun h => nomatch h) (fun h => nomatch h) (mp_ldv rfl rfl rfl l0 rfl) ?_
    refine mGd_plain (M := zm_225) (q := (30, .getfield 17, 3, 0, 11, 2, 0)) hE225 rfl (by decide) (fun h => nomatch h) (fun h => nomatch h) (fun h => nomatch h) (mp_getf (m1 _) e1 rfl) ?_
    refine mGd_plain (M := zm_225) (q := (33, .sipush 717, 3, 0, 0, 0, 0)) hE225 rfl (by decide) (fun h => nomatch h) (fun h => nomatch h) (fun h => nomatch h) (show mplain _ _ _ _ _ _ _ = some (_, _, .int (Int32.ofNat 717) :: _, _) from rfl) ?_
    refine mGd_plain (M := zm_225) (q := (36, .iload 6, 2, 0, 0, 0, 0)) hE225 rfl (by decide) (fun h => nomatch h) (fun h => nomatch h) (fun h => nomatch h) (mp_ldv rfl rfl rfl l6 rfl) ?_
    refine mGd_plain (M := zm_225) (q := (38, .iadd, 1, 0, 0, 0, 0)) hE225 rfl (by decide) (fun h => nomatch h) (fun h => nomatch h) (fun h => nomatch h) mp_addN ?_
    refine mGd_plain (M := zm_225) (q := (39, .aload_n 0, 1, 0, 0, 0, 0)) hE225 rfl (by decide) (fun h => nomatch h) (fun h => nomatch h) (fun h => nomatch h) (mp_ldv rfl rfl rfl l0 rfl) ?_
    refine mGd_plain (M := zm_225) (q := (40, .getfield 17, 3, 0, 11, 2, 0)) hE225 rfl (by decide) (fun h => nomatch h) (fun h => nomatch h) (fun h => nomatch h) (mp_getf (m1 _) e1 rfl) ?_
    refine mGd_plain (M := zm_225) (q := (43, .sipush 713, 3, 0, 0, 0, 0)) hE225 rfl (by decide) (fun h => nomatch h) (fun h => nomatch h) (fun h => nomatch h) (show mplain _ _ _ _ _ _ _ = some (_, _, .int (Int32.ofNat 713) :: _, _) from rfl) ?_
    refine mGd_plain (M := zm_225) (q := (46, .iload 6, 2, 0, 0, 0, 0)) hE225 rfl (by decide) (fun h => nomatch h) (fun h => nomatch h) (fun h => nomatch h) (mp_ldv rfl rfl rfl l6 rfl) ?_
    refine mGd_plain (M := zm_225) (q := (48, .iadd, 1, 0, 0, 0, 0)) hE225 rfl (by decide) (fun h => nomatch h) (fun h => nomatch h) (fun h => nomatch h) mp_addN ?_
    refine mGd_plain (M := zm_225) (q := (49, .iaload, 1, 0, 0, 0, 0)) hE225 rfl (by decide) (fun h => nomatch h) (fun h => nomatch h) (fun h => nomatch h) (mp_iald (marr_m (mset_eq q2) (h9 _)) (zi32in (by omega) (by decide)) (by rw [zi32c (by omega)]; exact hx)) ?_
    refine mGd_plain (M := zm_225) (q := (50, .iastore, 1, 0, 0, 0, 0)) hE225 rfl (by decide) (fun h => nomatch h) (fun h => nomatch h) (fun h => nomatch h) (mp_iast (mset_eq q2) (zi32in (by omega) (by decide))) ?_
    rw [mset_set, zi32c (by omega)]
    refine mGd_plain (M := zm_225) (q := (51, .iinc 6 (-1), 3, 0, 0, 0, 0)) hE225 rfl (by decide) (fun h => nomatch h) (fun h => nomatch h) (fun h => nomatch h) (mp_iinc l6 (by decide)) ?_
    have l0_1 := mld_s1 (i := 6) (v := .int (Int32.ofNat 0 + Int32.ofInt (-1))) (by decide : 0 ≠ 6) (fun e => by cases e) l0
    have l1_1 := mld_s1 (i := 6) (v := .int (Int32.ofNat 0 + Int32.ofInt (-1))) (by decide : 1 ≠ 6) (fun e => by cases e) l1
    have l2_1 := mld_s1 (i := 6) (v := .int (Int32.ofNat 0 + Int32.ofInt (-1))) (by decide : 2 ≠ 6) (fun e => by cases e) l2
    have l3_1 := mld_s1 (i := 6) (v := .int (Int32.ofNat 0 + Int32.ofInt (-1))) (by decide : 3 ≠ 6) (fun e => by cases e) l3
    have l4_1 := mld_s1 (i := 6) (v := .int (Int32.ofNat 0 + Int32.ofInt (-1))) (by decide : 4 ≠ 6) (fun e => by cases e) l4
    have l5_1 := mld_s1 (i := 6) (v := .int (Int32.ofNat 0 + Int32.ofInt (-1))) (by decide : 5 ≠ 6) (fun e => by cases e) l5
    have l6_1 := mld_s0 (ls := ls) (i := 6) (v := .int (Int32.ofNat 0 + Int32.ofInt (-1)))
    refine mGd_plain (M := zm_225) (q := (54, .goto (-30), 3, 0, 0, 0, 0)) hE225 rfl (by decide) (fun h => nomatch h) (fun h => nomatch h) (fun h => nomatch h) rfl ?_
    have e9 : Int32.ofNat 0 + Int32.ofInt (-1) = Int32.ofInt (-1) := by decide
    refine mGd_plain (M := zm_225) (q := (24, .iload 6, 2, 0, 0, 0, 0)) hE225 rfl (by decide) (fun h => nomatch h) (fun h => nomatch h) (fun h => nomatch h) (mp_ldv rfl rfl rfl l6_1 rfl) ?_
    refine mGd_plain (M := zm_225) (q := (26, .ifCond .lt 31, 3, 0, 0, 0, 0)) hE225 rfl (by decide) (fun h => nomatch h) (fun h => nomatch h) (fun h => nomatch h) (mp_iz1 (t := 57) rfl (by decide)) ?_
    exact zrE hE225 h8 q1 e1 n2 q2 hn l0_1 l1_1 l2_1 l3_1 l4_1 l5_1 (hP _ (fun j hj => by unfold mup; rw [if_neg (by omega)]; exact i1 j hj) (fun j hj => by unfold mup; split; exact ⟨x, rfl⟩; exact i2 j hj))
  | succ k ih =>
    intro ls h hk i1 i2 l0 l1 l2 l3 l4 l5 l6
    obtain ⟨x, hx⟩ := i2 (713 + (k + 1)) (by omega)
    refine mGd_plain (M := zm_225) (q := (24, .iload 6, 2, 0, 0, 0, 0)) hE225 rfl (by decide) (fun h => nomatch h) (fun h => nomatch h) (fun h => nomatch h) (mp_ldv rfl rfl rfl l6 rfl) ?_
    refine mGd_plain (M := zm_225) (q := (26, .ifCond .lt 31, 3, 0, 0, 0, 0)) hE225 rfl (by decide) (fun h => nomatch h) (fun h => nomatch h) (fun h => nomatch h) (mp_iz0 (t := 57) rfl (by unfold mcond; exact decide_eq_false (fun h => absurd ((zi32lt (by omega) (by omega)).mp h) (by omega)))) ?_
    refine mGd_plain (M := zm_225) (q := (29, .aload_n 0, 1, 0, 0, 0, 0)) hE225 rfl (by decide) (fun h => nomatch h) (fun h => nomatch h) (fun h => nomatch h) (mp_ldv rfl rfl rfl l0 rfl) ?_
    refine mGd_plain (M := zm_225) (q := (30, .getfield 17, 3, 0, 11, 2, 0)) hE225 rfl (by decide) (fun h => nomatch h) (fun h => nomatch h) (fun h => nomatch h) (mp_getf (m1 _) e1 rfl) ?_
    refine mGd_plain (M := zm_225) (q := (33, .sipush 717, 3, 0, 0, 0, 0)) hE225 rfl (by decide) (fun h => nomatch h) (fun h => nomatch h) (fun h => nomatch h) (show mplain _ _ _ _ _ _ _ = some (_, _, .int (Int32.ofNat 717) :: _, _) from rfl) ?_
    refine mGd_plain (M := zm_225) (q := (36, .iload 6, 2, 0, 0, 0, 0)) hE225 rfl (by decide) (fun h => nomatch h) (fun h => nomatch h) (fun h => nomatch h) (mp_ldv rfl rfl rfl l6 rfl) ?_
    refine mGd_plain (M := zm_225) (q := (38, .iadd, 1, 0, 0, 0, 0)) hE225 rfl (by decide) (fun h => nomatch h) (fun h => nomatch h) (fun h => nomatch h) mp_addN ?_
    refine mGd_plain (M := zm_225) (q := (39, .aload_n 0, 1, 0, 0, 0, 0)) hE225 rfl (by decide) (fun h => nomatch h) (fun h => nomatch h) (fun h => nomatch h) (mp_ldv rfl rfl rfl l0 rfl) ?_
    refine mGd_plain (M := zm_225) (q := (40, .getfield 17, 3, 0, 11, 2, 0)) hE225 rfl (by decide) (fun h => nomatch h) (fun h => nomatch h) (fun h => nomatch h) (mp_getf (m1 _) e1 rfl) ?_
    refine mGd_plain (M := zm_225) (q := (43, .sipush 713, 3, 0, 0, 0, 0)) hE225 rfl (by decide) (fun h => nomatch h) (fun h => nomatch h) (fun h => nomatch h) (show mplain _ _ _ _ _ _ _ = some (_, _, .int (Int32.ofNat 713) :: _, _) from rfl) ?_
    refine mGd_plain (M := zm_225) (q := (46, .iload 6, 2, 0, 0, 0, 0)) hE225 rfl (by decide) (fun h => nomatch h) (fun h => nomatch h) (fun h => nomatch h) (mp_ldv rfl rfl rfl l6 rfl) ?_
    refine mGd_plain (M := zm_225) (q := (48, .iadd, 1, 0, 0, 0, 0)) hE225 rfl (by decide) (fun h => nomatch h) (fun h => nomatch h) (fun h => nomatch h) mp_addN ?_
    refine mGd_plain (M := zm_225) (q := (49, .iaload, 1, 0, 0, 0, 0)) hE225 rfl (by decide) (fun h => nomatch h) (fun h => nomatch h) (fun h => nomatch h) (mp_iald (marr_m (mset_eq q2) (h9 _)) (zi32in (by omega) (by decide)) (by rw [zi32c (by omega)]; exact hx)) ?_
    refine mGd_plain (M := zm_225) (q := (50, .iastore, 1, 0, 0, 0, 0)) hE225 rfl (by decide) (fun h => nomatch h) (fun h => nomatch h) (fun h => nomatch h) (mp_iast (mset_eq q2) (zi32in (by omega) (by decide))) ?_
    rw [mset_set, zi32c (by omega)]
    refine mGd_plain (M := zm_225) (q := (51, .iinc 6 (-1), 3, 0, 0, 0, 0)) hE225 rfl (by decide) (fun h => nomatch h) (fun h => nomatch h) (fun h => nomatch h) (mp_iinc l6 (by decide)) ?_
    have l0_1 := mld_s1 (i := 6) (v := .int (Int32.ofNat (k + 1) + Int32.ofInt (-1))) (by decide : 0 ≠ 6) (fun e => by cases e) l0
    have l1_1 := mld_s1 (i := 6) (v := .int (Int32.ofNat (k + 1) + Int32.ofInt (-1))) (by decide : 1 ≠ 6) (fun e => by cases e) l1
    have l2_1 := mld_s1 (i := 6) (v := .int (Int32.ofNat (k + 1) + Int32.ofInt (-1))) (by decide : 2 ≠ 6) (fun e => by cases e) l2
    have l3_1 := mld_s1 (i := 6) (v := .int (Int32.ofNat (k + 1) + Int32.ofInt (-1))) (by decide : 3 ≠ 6) (fun e => by cases e) l3
    have l4_1 := mld_s1 (i := 6) (v := .int (Int32.ofNat (k + 1) + Int32.ofInt (-1))) (by decide : 4 ≠ 6) (fun e => by cases e) l4
    have l5_1 := mld_s1 (i := 6) (v := .int (Int32.ofNat (k + 1) + Int32.ofInt (-1))) (by decide : 5 ≠ 6) (fun e => by cases e) l5
    have l6_1 := mld_s0 (ls := ls) (i := 6) (v := .int (Int32.ofNat (k + 1) + Int32.ofInt (-1)))
    refine mGd_plain (M := zm_225) (q := (54, .goto (-30), 3, 0, 0, 0, 0)) hE225 rfl (by decide) (fun h => nomatch h) (fun h => nomatch h) (fun h => nomatch h) rfl ?_
    have e9 : Int32.ofNat (k + 1) + Int32.ofInt (-1) = Int32.ofNat k := by rw [← zi32s, Int32.add_assoc, show Int32.ofInt 1 + Int32.ofInt (-1) = 0 from by decide, Int32.add_zero]
    exact ih _ _ (by omega) (fun j hj => by unfold mup; rw [if_neg (by omega)]; exact i1 j hj) (fun j hj => by unfold mup; split; exact ⟨x, rfl⟩; exact i2 j hj) l0_1 l1_1 l2_1 l3_1 l4_1 l5_1 (by rw [← e9]; exact l6_1)
theorem zrA {E : mEnv} (hE225 : E.1 225 = some zm_225) (hE181 : E.1 181 = some zm_181) {P : mRes → Prop} {d nc ns X Mm n0 : Nat} {fm : List Value} {mem : mMem} {f : Nat → Value} {g p s v : Int32} {ls : mLs} (h8 : mem.length ≤ 128) (q1 : mem[X]? = some (.inr (11, fm))) (e1 : fm[2]? = some (.ref Mm)) (n2 : Mm ≠ X) (q2 : mem[Mm]? = some (.inl (0, 969, f)))
    (hf : ∀ j, j < 969 → ∃ x, f j = .int x) (h0 : n0 ≤ 64) (hn0 : f 712 = .int (Int32.ofNat n0)) (l0 : mld ls 0 = some (.ref X)) (l1 : mld ls 1 = some (.int g)) (l2 : mld ls 2 = some (.int p)) (l3 : mld ls 3 = some (.int s)) (l4 : mld ls 4 = some (.int v))
    (hP : ∀ h' : Nat → Value, (∀ j, j < 712 → h' j = f j) → h' 712 = .int (Int32.ofNat (min n0 63 + 1)) → (∀ j, j < 969 → ∃ x, h' j = .int x) → P (.inr none, mem.set Mm (.inl (0, 969, h')), nc, ns)) : mGd E P (d + 1) 225 0 ls [] mem nc ns := by
  have hP2 : ∀ h : Nat → Value, (∀ j, j < 713 → h j = f j) → (∀ j, j < 969 → ∃ x, h j = .int x) → P (.inr none, mem.set Mm (.inl (0, 969, mup (mup (mup (mup (mup h 713 (.int g)) 714 (.int p)) 715 (.int s)) 716 (.int v)) 712 (.int (Int32.ofNat (min n0 63 + 1))))), nc, ns) := by
    intro h i1 i2
    refine hP _ (fun j hj => ?_) ?_ (fun j hj => ?_)
    · unfold mup
      rw [if_neg (by omega), if_neg (by omega), if_neg (by omega), if_neg (by omega), if_neg (by omega)]
      exact i1 j (by omega)
    · unfold mup
      rw [if_pos rfl]
    · unfold mup
      repeat' split
      all_goals first | exact ⟨_, rfl⟩ | exact i2 j hj
  have m1 := q1
  have hm : mem.set Mm (.inl (0, 969, f)) = mem := zset_same q2
  refine mGd_plain (M := zm_225) (q := (0, .aload_n 0, 1, 0, 0, 0, 0)) hE225 rfl (by decide) (fun h => nomatch h) (fun h => nomatch h) (fun h => nomatch h) (mp_ldv rfl rfl rfl l0 rfl) ?_
  refine mGd_plain (M := zm_225) (q := (1, .aload_n 0, 1, 0, 0, 0, 0)) hE225 rfl (by decide) (fun h => nomatch h) (fun h => nomatch h) (fun h => nomatch h) (mp_ldv rfl rfl rfl l0 rfl) ?_
  refine mGd_plain (M := zm_225) (q := (2, .getfield 17, 3, 0, 11, 2, 0)) hE225 rfl (by decide) (fun h => nomatch h) (fun h => nomatch h) (fun h => nomatch h) (mp_getf m1 e1 rfl) ?_
  refine mGd_plain (M := zm_225) (q := (5, .sipush 712, 3, 0, 0, 0, 0)) hE225 rfl (by decide) (fun h => nomatch h) (fun h => nomatch h) (fun h => nomatch h) (show mplain _ _ _ _ _ _ _ = some (_, _, .int (Int32.ofNat 712) :: _, _) from rfl) ?_
  refine mGd_plain (M := zm_225) (q := (8, .iaload, 1, 0, 0, 0, 0)) hE225 rfl (by decide) (fun h => nomatch h) (fun h => nomatch h) (fun h => nomatch h) (mp_iald (marr_m q2 h8) (by decide) hn0) ?_
  refine mGd_plain (M := zm_225) (q := (9, .bipush 63, 2, 0, 0, 0, 0)) hE225 rfl (by decide) (fun h => nomatch h) (fun h => nomatch h) (fun h => nomatch h) (show mplain _ _ _ _ _ _ _ = some (_, _, .int (Int32.ofNat 63) :: _, _) from rfl) ?_
  refine mGd_call (M := zm_225) (q := (11, .invokevirtual 113, 3, 9, 181, 3, 11)) hE225 rfl rfl hE181 (Nat.le_of_ble_eq_true rfl) (Nat.le_of_ble_eq_true rfl) (Nat.le_of_ble_eq_true rfl) (mrv m1 rfl) ?_
  refine zle2 hE181 (a := n0) (b := 63) (by omega) (by omega) rfl rfl ?_
  show mGd E P (d + 1) 225 14 ls [.int (Int32.ofNat (min n0 63))] mem nc ns
  refine mGd_plain (M := zm_225) (q := (14, .istore 5, 2, 0, 0, 0, 0)) hE225 rfl (by decide) (fun h => nomatch h) (fun h => nomatch h) (fun h => nomatch h) (mp_stv rfl rfl rfl rfl rfl (by decide) (by decide)) ?_
  have l0_1 := mld_s1 (i := 5) (v := .int (Int32.ofNat (min n0 63))) (by decide : 0 ≠ 5) (fun e => by cases e) l0
  have l1_1 := mld_s1 (i := 5) (v := .int (Int32.ofNat (min n0 63))) (by decide : 1 ≠ 5) (fun e => by cases e) l1
  have l2_1 := mld_s1 (i := 5) (v := .int (Int32.ofNat (min n0 63))) (by decide : 2 ≠ 5) (fun e => by cases e) l2
  have l3_1 := mld_s1 (i := 5) (v := .int (Int32.ofNat (min n0 63))) (by decide : 3 ≠ 5) (fun e => by cases e) l3
  have l4_1 := mld_s1 (i := 5) (v := .int (Int32.ofNat (min n0 63))) (by decide : 4 ≠ 5) (fun e => by cases e) l4
  have l5_1 := mld_s0 (ls := ls) (i := 5) (v := .int (Int32.ofNat (min n0 63)))
  refine mGd_plain (M := zm_225) (q := (16, .iconst 4, 1, 0, 0, 0, 0)) hE225 rfl (by decide) (fun h => nomatch h) (fun h => nomatch h) (fun h => nomatch h) (show mplain _ _ _ _ _ _ _ = some (_, _, .int (Int32.ofNat 4) :: _, _) from rfl) ?_
  refine mGd_plain (M := zm_225) (q := (17, .iload 5, 2, 0, 0, 0, 0)) hE225 rfl (by decide) (fun h => nomatch h) (fun h => nomatch h) (fun h => nomatch h) (mp_ldv rfl rfl rfl l5_1 rfl) ?_
  refine mGd_plain (M := zm_225) (q := (19, .imul, 1, 0, 0, 0, 0)) hE225 rfl (by decide) (fun h => nomatch h) (fun h => nomatch h) (fun h => nomatch h) mp_mulN ?_
  refine mGd_plain (M := zm_225) (q := (20, .iconst 1, 1, 0, 0, 0, 0)) hE225 rfl (by decide) (fun h => nomatch h) (fun h => nomatch h) (fun h => nomatch h) (show mplain _ _ _ _ _ _ _ = some (_, _, .int (Int32.ofNat 1) :: _, _) from rfl) ?_
  by_cases hz : n0 = 0
  · subst hz
    refine mGd_plain (M := zm_225) (q := (21, .isub, 1, 0, 0, 0, 0)) hE225 rfl (by decide) (fun h => nomatch h) (fun h => nomatch h) (fun h => nomatch h) (show mplain _ _ _ _ _ _ _ = some (_, _, .int (Int32.ofInt (-1)) :: _, _) from rfl) ?_
    refine mGd_plain (M := zm_225) (q := (22, .istore 6, 2, 0, 0, 0, 0)) hE225 rfl (by decide) (fun h => nomatch h) (fun h => nomatch h) (fun h => nomatch h) (mp_stv rfl rfl rfl rfl rfl (by decide) (by decide)) ?_
    have l0_2 := mld_s1 (i := 6) (v := .int (Int32.ofInt (-1))) (by decide : 0 ≠ 6) (fun e => by cases e) l0_1
    have l1_2 := mld_s1 (i := 6) (v := .int (Int32.ofInt (-1))) (by decide : 1 ≠ 6) (fun e => by cases e) l1_1
    have l2_2 := mld_s1 (i := 6) (v := .int (Int32.ofInt (-1))) (by decide : 2 ≠ 6) (fun e => by cases e) l2_1
    have l3_2 := mld_s1 (i := 6) (v := .int (Int32.ofInt (-1))) (by decide : 3 ≠ 6) (fun e => by cases e) l3_1
    have l4_2 := mld_s1 (i := 6) (v := .int (Int32.ofInt (-1))) (by decide : 4 ≠ 6) (fun e => by cases e) l4_1
    have l5_2 := mld_s1 (i := 6) (v := .int (Int32.ofInt (-1))) (by decide : 5 ≠ 6) (fun e => by cases e) l5_1
    have l6_2 := mld_s0 (ls := (mst1 ls 5 (.int (Int32.ofNat (min 0 63))))) (i := 6) (v := .int (Int32.ofInt (-1)))
    refine mGd_plain (M := zm_225) (q := (24, .iload 6, 2, 0, 0, 0, 0)) hE225 rfl (by decide) (fun h => nomatch h) (fun h => nomatch h) (fun h => nomatch h) (mp_ldv rfl rfl rfl l6_2 rfl) ?_
    refine mGd_plain (M := zm_225) (q := (26, .ifCond .lt 31, 3, 0, 0, 0, 0)) hE225 rfl (by decide) (fun h => nomatch h) (fun h => nomatch h) (fun h => nomatch h) (mp_iz1 (t := 57) rfl (by decide)) ?_
    rw [← hm]
    exact zrE hE225 h8 q1 e1 n2 q2 (n := min 0 63) (by decide) l0_2 l1_2 l2_2 l3_2 l4_2 l5_2 (hP2 f (fun j hj => rfl) hf)
  · have hmin : 1 ≤ min n0 63 ∧ min n0 63 ≤ 63 := by omega
    refine mGd_plain (M := zm_225) (q := (21, .isub, 1, 0, 0, 0, 0)) hE225 rfl (by decide) (fun h => nomatch h) (fun h => nomatch h) (fun h => nomatch h) (mp_subN (by omega)) ?_
    refine mGd_plain (M := zm_225) (q := (22, .istore 6, 2, 0, 0, 0, 0)) hE225 rfl (by decide) (fun h => nomatch h) (fun h => nomatch h) (fun h => nomatch h) (mp_stv rfl rfl rfl rfl rfl (by decide) (by decide)) ?_
    have l0_2 := mld_s1 (i := 6) (v := .int (Int32.ofNat ((4 * (min n0 63)) - 1))) (by decide : 0 ≠ 6) (fun e => by cases e) l0_1
    have l1_2 := mld_s1 (i := 6) (v := .int (Int32.ofNat ((4 * (min n0 63)) - 1))) (by decide : 1 ≠ 6) (fun e => by cases e) l1_1
    have l2_2 := mld_s1 (i := 6) (v := .int (Int32.ofNat ((4 * (min n0 63)) - 1))) (by decide : 2 ≠ 6) (fun e => by cases e) l2_1
    have l3_2 := mld_s1 (i := 6) (v := .int (Int32.ofNat ((4 * (min n0 63)) - 1))) (by decide : 3 ≠ 6) (fun e => by cases e) l3_1
    have l4_2 := mld_s1 (i := 6) (v := .int (Int32.ofNat ((4 * (min n0 63)) - 1))) (by decide : 4 ≠ 6) (fun e => by cases e) l4_1
    have l5_2 := mld_s1 (i := 6) (v := .int (Int32.ofNat ((4 * (min n0 63)) - 1))) (by decide : 5 ≠ 6) (fun e => by cases e) l5_1
    have l6_2 := mld_s0 (ls := (mst1 ls 5 (.int (Int32.ofNat (min n0 63))))) (i := 6) (v := .int (Int32.ofNat ((4 * (min n0 63)) - 1)))
    rw [← hm]
    exact zrL hE225 h8 q1 e1 n2 q2 (n := min n0 63) hmin.2 hP2 (4 * min n0 63 - 1) _ f (by omega) (fun j hj => rfl) hf l0_2 l1_2 l2_2 l3_2 l4_2 l5_2 l6_2
