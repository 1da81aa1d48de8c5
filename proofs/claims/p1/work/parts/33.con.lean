/-! steps of the small machine that touch the memory, one by one -/
theorem mp_getf {E : mEnv} {nL pc p0 ln t ci sl : Nat} {z : Int} {idx : Nat} {ls : mLs} {r : List Value} {mem : mMem} {a : Nat} {fs : List Value} {v : Value} (h1 : mem[a]? = some (.inr (ci, fs))) (h2 : fs[sl]? = some v) (hk : (mkind 0 v || mkind 1 v || mkind 2 v) = true) :
    mplain E nL (p0, .getfield idx, ln, t, ci, sl, z) pc ls (.ref a :: r) mem = some (pc + 3, ls, v :: r, mem) := by
  unfold mplain
  try dsimp only
  rw [h1]
  try dsimp only
  rw [if_pos rfl, h2]
  try dsimp only
  rw [if_pos hk]
theorem mp_putf {E : mEnv} {nL pc p0 ln t ci sl : Nat} {z : Int} {idx : Nat} {ls : mLs} {r : List Value} {mem : mMem} {a : Nat} {fs : List Value} {v : Value} {ty : FieldType} (h1 : mem[a]? = some (.inr (ci, fs))) (h2 : (E.2.1 ci)[sl]? = some ty)
    (hk : (mfit ty v && (mkind 0 v || mkind 1 v || mkind 2 v) && decide (sl < fs.length)) = true) :
    mplain E nL (p0, .putfield idx, ln, t, ci, sl, z) pc ls (v :: .ref a :: r) mem = some (pc + 3, ls, r, mem.set a (.inr (ci, fs.set sl v))) := by
  unfold mplain
  try dsimp only
  rw [h1]
  try dsimp only
  rw [if_pos rfl, h2]
  try dsimp only
  rw [if_pos hk]
theorem mp_iald {E : mEnv} {nL pc p0 ln : Nat} {ax : mAux} {ls : mLs} {r : List Value} {mem : mMem} {a n : Nat} {f : Nat → Value} {i x : Int32} (ha : marr E mem a = some (0, n, f)) (hi : mIn i n = true) (hx : f i.toNatClampNeg = .int x) :
    mplain E nL (p0, .iaload, ln, ax) pc ls (.int i :: .ref a :: r) mem = some (pc + 1, ls, .int x :: r, mem) := by
  unfold mplain
  try dsimp only
  rw [ha]
  show (if mIn i n = true then (match f i.toNatClampNeg with | .int x => some (pc + 1, ls, Value.int x :: r, mem) | _ => none) else none) = _
  rw [if_pos hi, hx]
theorem mp_iast {E : mEnv} {nL pc p0 ln : Nat} {ax : mAux} {ls : mLs} {r : List Value} {mem : mMem} {a n : Nat} {f : Nat → Value} {i x : Int32} (ha : mem[a]? = some (.inl (0, n, f))) (hi : mIn i n = true) :
    mplain E nL (p0, .iastore, ln, ax) pc ls (.int x :: .int i :: .ref a :: r) mem = some (pc + 1, ls, r, mem.set a (.inl (0, n, mup f i.toNatClampNeg (.int x)))) := by
  unfold mplain
  try dsimp only
  rw [ha]
  show (if mIn i n = true then some (pc + 1, ls, r, mem.set a (.inl (0, n, mup f i.toNatClampNeg (.int x)))) else none) = _
  rw [if_pos hi]
theorem mp_alen {E : mEnv} {nL pc p0 ln : Nat} {ax : mAux} {ls : mLs} {r : List Value} {mem : mMem} {a n t : Nat} {f : Nat → Value} (ha : marr E mem a = some (t, n, f)) (ht : t < 3) :
    mplain E nL (p0, .arraylength, ln, ax) pc ls (.ref a :: r) mem = some (pc + 1, ls, .int (Int32.ofNat n) :: r, mem) := by
  unfold mplain
  try dsimp only
  rw [ha]
  try dsimp only
  rw [if_pos ht]
theorem mp_ge1 {E : mEnv} {nL pc p0 ln t : Nat} {off : Int} {ax : mAux} {ls : mLs} {r : List Value} {mem : mMem} {x y : Int32} (ht : mtgt pc off = some t) (h : y ≤ x) :
    mplain E nL (p0, .if_icmp .ge off, ln, ax) pc ls (.int y :: .int x :: r) mem = some (t, ls, r, mem) := by
  unfold mplain
  try dsimp only
  rw [ht]
  try dsimp only
  rw [if_pos (by simp only [mcond, decide_eq_true_eq]; exact h)]
theorem mp_ge0 {E : mEnv} {nL pc p0 ln t : Nat} {off : Int} {ax : mAux} {ls : mLs} {r : List Value} {mem : mMem} {x y : Int32} (ht : mtgt pc off = some t) (h : ¬ y ≤ x) :
    mplain E nL (p0, .if_icmp .ge off, ln, ax) pc ls (.int y :: .int x :: r) mem = some (pc + 3, ls, r, mem) := by
  unfold mplain
  try dsimp only
  rw [ht]
  try dsimp only
  rw [if_neg (by simp only [mcond, decide_eq_true_eq]; exact h)]
theorem zi32n {k : Nat} (h : k < 2147483648) : (Int32.ofNat k).toInt = (k : Int) := Int32.toInt_ofNat_of_lt h
theorem zi32c {k : Nat} (h : k < 2147483648) : (Int32.ofNat k).toNatClampNeg = k := Int32.toNatClampNeg_ofNat_of_lt h
theorem zi32in {k n : Nat} (h : k < n) (hn : n < 2147483648) : mIn (Int32.ofNat k) n = true := by
  have h1 : (Int32.ofNat k).toInt = (k : Int) := zi32n (by omega)
  have h2 : ¬ Int32.ofNat k < 0 := by
    rw [Int32.lt_iff_toInt_lt, h1]
    have : (0 : Int32).toInt = 0 := rfl
    omega
  unfold mIn
  rw [zi32c (by omega)]
  simp [h2, h]
theorem zi32s (k : Nat) : Int32.ofNat k + Int32.ofInt 1 = Int32.ofNat (k + 1) := by
  rw [show Int32.ofInt 1 = Int32.ofNat 1 from rfl, ← Int32.ofNat_add]
theorem zi32le {a b : Nat} (ha : a < 2147483648) (hb : b < 2147483648) : Int32.ofNat a ≤ Int32.ofNat b ↔ a ≤ b := by
  rw [Int32.le_iff_toInt_le, zi32n ha, zi32n hb]
  omega
theorem marr_m {E : mEnv} {mem : mMem} {a : Nat} {x : Nat × Nat × (Nat → Value)} (h : mem[a]? = some (.inl x)) (h8 : mem.length ≤ 128) : marr E mem a = some x := by
  have : a < mem.length := (List.getElem?_eq_some_iff.mp h).1
  unfold marr
  rw [if_pos (by omega), h]
theorem mset_ne {mem : mMem} {a b : Nat} {c : mCell} (h : a ≠ b) : (mem.set a c)[b]? = mem[b]? := by
  rw [List.getElem?_set_ne h]
theorem mset_eq {mem : mMem} {a : Nat} {c c0 : mCell} (h : mem[a]? = some c0) : (mem.set a c)[a]? = some c := by
  rw [List.getElem?_set_self (List.getElem?_eq_some_iff.mp h).1]
theorem mset_set {mem : mMem} {a : Nat} {c c' : mCell} : (mem.set a c).set a c' = mem.set a c' := by simp
/-- ints alone -/
def zallI : List zR → zN → Bool
  | base, es => base.all (fun q => Nat.beq q.2.1 1) && es.all (fun e => Nat.beq e.2.1 1)
theorem zallI_ok {r : List Int} {base : List zR} : ∀ {es : zN} {j : Nat} {v : Value}, zallI base es = true → zak r base es j v → ∃ x, v = .int x
  | [], j, v, h, hv => by
    obtain ⟨t, l, hh, e, hv⟩ := hv
    simp only [zallI, Bool.and_eq_true] at h
    have key : ∀ {b : List zR}, b.all (fun q => Nat.beq q.2.1 1) = true → zba b j = some (t, l, hh) → t = 1 := by
      intro b
      induction b with
      | nil => intro _ e; cases e
      | cons q b ih =>
        intro h e
        simp only [List.all_cons, Bool.and_eq_true] at h
        unfold zba at e
        cases c : Nat.ble (Nat.succ j) q.1 with
        | true => rw [c] at e; simp only [cond_true, Option.some.injEq] at e; rw [e] at h; exact zbe.mp h.1
        | false => rw [c] at e; exact ih h.2 e
    obtain rfl := key h.1 e
    obtain ⟨x, rfl, -⟩ := hv
    exact ⟨x, rfl⟩
  | e :: es, j, v, h, hv => by
    obtain ⟨i, h1, h2⟩ := hv
    simp only [zallI, List.all_cons, Bool.and_eq_true] at h
    by_cases hj : j = i
    · rw [if_pos hj] at h2
      obtain ⟨x, rfl, -⟩ := zvm_i h2 h.2.1
      exact ⟨x, rfl⟩
    · rw [if_neg hj] at h2
      exact zallI_ok (by simp only [zallI, Bool.and_eq_true]; exact ⟨h.1, h.2.2⟩) h2
theorem zlay_253 {E : mEnv} (hE : E.1 253 = some zm_253) {P : mRes → Prop} {d nc ns Mp mp kp : Nat} {fs : List Value} {f : Nat → Value} (hf : ∀ j, j < 969 → ∃ x, f j = .int x) (e1 : fs[2]? = some (.ref mp)) (e2 : fs[3]? = some (.ref kp)) (n1 : kp ≠ mp) (n2 : kp ≠ Mp) :
    ∀ (t k : Nat) (mem : mMem) (h : Nat → Value), k + t = 969 → mem.length ≤ 128 → mem[Mp]? = some (.inr (11, fs)) → mem[mp]? = some (.inl (0, 969, f)) → mem[kp]? = some (.inl (0, 969, h)) → (∀ j, j < k → h j = f j) →
    (∀ h', (∀ j, j < 969 → h' j = f j) → mGd E P d 253 27 [(1, .int (Int32.ofNat 969)), (0, .ref Mp)] [] (mem.set kp (.inl (0, 969, h'))) nc ns) → mGd E P d 253 2 [(1, .int (Int32.ofNat k)), (0, .ref Mp)] [] mem nc ns := by
  intro t
  induction t with
  | zero =>
    intro k mem h hk h8 m1 m2 m3 hh hP
    obtain rfl : k = 969 := by omega
    have hP := hP h hh
    rw [zset_same m3] at hP
    refine mGd_plain (M := zm_253) (q := (2, .iload_n 1, 1, 0, 0, 0, 0)) hE rfl (by decide) (fun h => nomatch h) (fun h => nomatch h) (fun h => nomatch h) rfl ?_
    refine mGd_plain (M := zm_253) (q := (3, .sipush 969, 3, 0, 0, 0, 0)) hE rfl (by decide) (fun h => nomatch h) (fun h => nomatch h) (fun h => nomatch h) rfl ?_
    refine mGd_plain (M := zm_253) (q := (6, .if_icmp .ge 21, 3, 0, 0, 0, 0)) hE rfl (by decide) (fun h => nomatch h) (fun h => nomatch h) (fun h => nomatch h) (mp_ge1 (t := 27) rfl (by decide)) ?_
    exact hP
  | succ t ih =>
    intro k mem h hk h8 m1 m2 m3 hh hP
    obtain ⟨x, hx⟩ := hf k (by omega)
    have hin : mIn (Int32.ofNat k) 969 = true := zi32in (by omega) (by decide)
    refine mGd_plain (M := zm_253) (q := (2, .iload_n 1, 1, 0, 0, 0, 0)) hE rfl (by decide) (fun h => nomatch h) (fun h => nomatch h) (fun h => nomatch h) rfl ?_
    refine mGd_plain (M := zm_253) (q := (3, .sipush 969, 3, 0, 0, 0, 0)) hE rfl (by decide) (fun h => nomatch h) (fun h => nomatch h) (fun h => nomatch h) rfl ?_
    refine mGd_plain (M := zm_253) (q := (6, .if_icmp .ge 21, 3, 0, 0, 0, 0)) hE rfl (by decide) (fun h => nomatch h) (fun h => nomatch h) (fun h => nomatch h) (mp_ge0 (t := 27) rfl (by rw [show (Int16.ofInt 969).toInt32 = Int32.ofNat 969 from by decide, zi32le (by decide) (by omega)]; omega)) ?_
    refine mGd_plain (M := zm_253) (q := (9, .aload_n 0, 1, 0, 0, 0, 0)) hE rfl (by decide) (fun h => nomatch h) (fun h => nomatch h) (fun h => nomatch h) rfl ?_
    refine mGd_plain (M := zm_253) (q := (10, .getfield 20, 3, 0, 11, 3, 0)) hE rfl (by decide) (fun h => nomatch h) (fun h => nomatch h) (fun h => nomatch h) (mp_getf m1 e2 rfl) ?_
    refine mGd_plain (M := zm_253) (q := (13, .iload_n 1, 1, 0, 0, 0, 0)) hE rfl (by decide) (fun h => nomatch h) (fun h => nomatch h) (fun h => nomatch h) rfl ?_
    refine mGd_plain (M := zm_253) (q := (14, .aload_n 0, 1, 0, 0, 0, 0)) hE rfl (by decide) (fun h => nomatch h) (fun h => nomatch h) (fun h => nomatch h) rfl ?_
    refine mGd_plain (M := zm_253) (q := (15, .getfield 17, 3, 0, 11, 2, 0)) hE rfl (by decide) (fun h => nomatch h) (fun h => nomatch h) (fun h => nomatch h) (mp_getf m1 e1 rfl) ?_
    refine mGd_plain (M := zm_253) (q := (18, .iload_n 1, 1, 0, 0, 0, 0)) hE rfl (by decide) (fun h => nomatch h) (fun h => nomatch h) (fun h => nomatch h) rfl ?_
    refine mGd_plain (M := zm_253) (q := (19, .iaload, 1, 0, 0, 0, 0)) hE rfl (by decide) (fun h => nomatch h) (fun h => nomatch h) (fun h => nomatch h) (mp_iald (marr_m m2 h8) hin (by rw [zi32c (by omega)]; exact hx)) ?_
    refine mGd_plain (M := zm_253) (q := (20, .iastore, 1, 0, 0, 0, 0)) hE rfl (by decide) (fun h => nomatch h) (fun h => nomatch h) (fun h => nomatch h) (mp_iast m3 hin) ?_
    refine mGd_plain (M := zm_253) (q := (21, .iinc 1 1, 3, 0, 0, 0, 0)) hE rfl (by decide) (fun h => nomatch h) (fun h => nomatch h) (fun h => nomatch h) rfl ?_
    refine mGd_plain (M := zm_253) (q := (24, .goto (-22), 3, 0, 0, 0, 0)) hE rfl (by decide) (fun h => nomatch h) (fun h => nomatch h) (fun h => nomatch h) rfl ?_
    rw [zi32c (by omega : k < 2147483648)]
    show mGd E P d 253 2 [(1, .int (Int32.ofNat k + Int32.ofInt 1)), (0, .ref Mp)] [] _ nc ns
    rw [zi32s]
    refine ih (k + 1) _ (mup h k (.int x)) (by omega) (by rw [List.length_set]; exact h8) (by rw [mset_ne n2]; exact m1) (by rw [mset_ne n1]; exact m2) (mset_eq m3) (fun j hj => ?_) (fun h' hh' => ?_)
    · unfold mup
      by_cases e : j = k
      · rw [if_pos e, e]; exact hx.symm
      · rw [if_neg e]; exact hh j (by omega)
    · rw [mset_set]
      exact hP h' hh' 
theorem zlayA_253 {E : mEnv} (hE : E.1 253 = some zm_253) (hE2 : (E.2.1 11)[9]? = some .long) {P : mRes → Prop} {d nc ns Mp mp kp : Nat} {fs : List Value} {f h : Nat → Value} {mem : mMem} {y : Int64} (hf : ∀ j, j < 969 → ∃ x, f j = .int x) (e1 : fs[2]? = some (.ref mp)) (e2 : fs[3]? = some (.ref kp)) (e3 : fs[8]? = some (.long y)) (e4 : 9 < fs.length)
    (n1 : kp ≠ mp) (n2 : kp ≠ Mp) (h8 : mem.length ≤ 128) (m1 : mem[Mp]? = some (.inr (11, fs))) (m2 : mem[mp]? = some (.inl (0, 969, f))) (m3 : mem[kp]? = some (.inl (0, 969, h)))
    (hP : ∀ h', (∀ j, j < 969 → h' j = f j) → P (.inr none, (mem.set kp (.inl (0, 969, h'))).set Mp (.inr (11, fs.set 9 (.long y))), nc, ns)) : mGd E P d 253 0 [(0, .ref Mp)] [] mem nc ns := by
  refine mGd_plain (M := zm_253) (q := (0, .iconst 0, 1, 0, 0, 0, 0)) hE rfl (by decide) (fun h => nomatch h) (fun h => nomatch h) (fun h => nomatch h) rfl ?_
  refine mGd_plain (M := zm_253) (q := (1, .istore_n 1, 1, 0, 0, 0, 0)) hE rfl (by decide) (fun h => nomatch h) (fun h => nomatch h) (fun h => nomatch h) rfl ?_
  refine zlay_253 hE (fs := fs) (mp := mp) (kp := kp) hf e1 e2 n1 n2 969 0 mem h rfl h8 m1 m2 m3 (fun j hj => absurd hj (Nat.not_lt_zero _)) (fun h' hh' => ?_)
  have m9 : (mem.set kp (.inl (0, 969, h')))[Mp]? = some (.inr (11, fs)) := by rw [mset_ne n2]; exact m1
  refine mGd_plain (M := zm_253) (q := (27, .aload_n 0, 1, 0, 0, 0, 0)) hE rfl (by decide) (fun h => nomatch h) (fun h => nomatch h) (fun h => nomatch h) rfl ?_
  refine mGd_plain (M := zm_253) (q := (28, .aload_n 0, 1, 0, 0, 0, 0)) hE rfl (by decide) (fun h => nomatch h) (fun h => nomatch h) (fun h => nomatch h) rfl ?_
  refine mGd_plain (M := zm_253) (q := (29, .getfield 57, 3, 0, 11, 8, 0)) hE rfl (by decide) (fun h => nomatch h) (fun h => nomatch h) (fun h => nomatch h) (mp_getf m9 e3 rfl) ?_
  refine mGd_plain (M := zm_253) (q := (32, .putfield 385, 3, 0, 11, 9, 0)) hE rfl (by decide) (fun h => nomatch h) (fun h => nomatch h) (fun h => nomatch h) (mp_putf m9 hE2 (by simp [mfit, narrow, fits, mkind, e4])) ?_
  exact mGd_ret (M := zm_253) (q := (35, .return_, 1, 0, 0, 0, 0)) hE rfl (by decide) rfl rfl (hP h' hh')
theorem zlay_254 {E : mEnv} (hE : E.1 254 = some zm_254) {P : mRes → Prop} {d nc ns Mp mp kp : Nat} {fs : List Value} {f : Nat → Value} (hf : ∀ j, j < 969 → ∃ x, f j = .int x) (e1 : fs[3]? = some (.ref mp)) (e2 : fs[2]? = some (.ref kp)) (n1 : kp ≠ mp) (n2 : kp ≠ Mp) :
    ∀ (t k : Nat) (mem : mMem) (h : Nat → Value), k + t = 969 → mem.length ≤ 128 → mem[Mp]? = some (.inr (11, fs)) → mem[mp]? = some (.inl (0, 969, f)) → mem[kp]? = some (.inl (0, 969, h)) → (∀ j, j < k → h j = f j) →
    (∀ h', (∀ j, j < 969 → h' j = f j) → mGd E P d 254 27 [(1, .int (Int32.ofNat 969)), (0, .ref Mp)] [] (mem.set kp (.inl (0, 969, h'))) nc ns) → mGd E P d 254 2 [(1, .int (Int32.ofNat k)), (0, .ref Mp)] [] mem nc ns := by
  intro t
  induction t with
  | zero =>
    intro k mem h hk h8 m1 m2 m3 hh hP
    obtain rfl : k = 969 := by omega
    have hP := hP h hh
    rw [zset_same m3] at hP
    refine mGd_plain (M := zm_254) (q := (2, .iload_n 1, 1, 0, 0, 0, 0)) hE rfl (by decide) (fun h => nomatch h) (fun h => nomatch h) (fun h => nomatch h) rfl ?_
    refine mGd_plain (M := zm_254) (q := (3, .sipush 969, 3, 0, 0, 0, 0)) hE rfl (by decide) (fun h => nomatch h) (fun h => nomatch h) (fun h => nomatch h) rfl ?_
    refine mGd_plain (M := zm_254) (q := (6, .if_icmp .ge 21, 3, 0, 0, 0, 0)) hE rfl (by decide) (fun h => nomatch h) (fun h => nomatch h) (fun h => nomatch h) (mp_ge1 (t := 27) rfl (by decide)) ?_
    exact hP
  | succ t ih =>
    intro k mem h hk h8 m1 m2 m3 hh hP
    obtain ⟨x, hx⟩ := hf k (by omega)
    have hin : mIn (Int32.ofNat k) 969 = true := zi32in (by omega) (by decide)
    refine mGd_plain (M := zm_254) (q := (2, .iload_n 1, 1, 0, 0, 0, 0)) hE rfl (by decide) (fun h => nomatch h) (fun h => nomatch h) (fun h => nomatch h) rfl ?_
    refine mGd_plain (M := zm_254) (q := (3, .sipush 969, 3, 0, 0, 0, 0)) hE rfl (by decide) (fun h => nomatch h) (fun h => nomatch h) (fun h => nomatch h) rfl ?_
    refine mGd_plain (M := zm_254) (q := (6, .if_icmp .ge 21, 3, 0, 0, 0, 0)) hE rfl (by decide) (fun h => nomatch h) (fun h => nomatch h) (fun h => nomatch h) (mp_ge0 (t := 27) rfl (by rw [show (Int16.ofInt 969).toInt32 = Int32.ofNat 969 from by decide, zi32le (by decide) (by omega)]; omega)) ?_
    refine mGd_plain (M := zm_254) (q := (9, .aload_n 0, 1, 0, 0, 0, 0)) hE rfl (by decide) (fun h => nomatch h) (fun h => nomatch h) (fun h => nomatch h) rfl ?_
    refine mGd_plain (M := zm_254) (q := (10, .getfield 17, 3, 0, 11, 2, 0)) hE rfl (by decide) (fun h => nomatch h) (fun h => nomatch h) (fun h => nomatch h) (mp_getf m1 e2 rfl) ?_
    refine mGd_plain (M := zm_254) (q := (13, .iload_n 1, 1, 0, 0, 0, 0)) hE rfl (by decide) (fun h => nomatch h) (fun h => nomatch h) (fun h => nomatch h) rfl ?_
    refine mGd_plain (M := zm_254) (q := (14, .aload_n 0, 1, 0, 0, 0, 0)) hE rfl (by decide) (fun h => nomatch h) (fun h => nomatch h) (fun h => nomatch h) rfl ?_
    refine mGd_plain (M := zm_254) (q := (15, .getfield 20, 3, 0, 11, 3, 0)) hE rfl (by decide) (fun h => nomatch h) (fun h => nomatch h) (fun h => nomatch h) (mp_getf m1 e1 rfl) ?_
    refine mGd_plain (M := zm_254) (q := (18, .iload_n 1, 1, 0, 0, 0, 0)) hE rfl (by decide) (fun h => nomatch h) (fun h => nomatch h) (fun h => nomatch h) rfl ?_
    refine mGd_plain (M := zm_254) (q := (19, .iaload, 1, 0, 0, 0, 0)) hE rfl (by decide) (fun h => nomatch h) (fun h => nomatch h) (fun h => nomatch h) (mp_iald (marr_m m2 h8) hin (by rw [zi32c (by omega)]; exact hx)) ?_
    refine mGd_plain (M := zm_254) (q := (20, .iastore, 1, 0, 0, 0, 0)) hE rfl (by decide) (fun h => nomatch h) (fun h => nomatch h) (fun h => nomatch h) (mp_iast m3 hin) ?_
    refine mGd_plain (M := zm_254) (q := (21, .iinc 1 1, 3, 0, 0, 0, 0)) hE rfl (by decide) (fun h => nomatch h) (fun h => nomatch h) (fun h => nomatch h) rfl ?_
    refine mGd_plain (M := zm_254) (q := (24, .goto (-22), 3, 0, 0, 0, 0)) hE rfl (by decide) (fun h => nomatch h) (fun h => nomatch h) (fun h => nomatch h) rfl ?_
    rw [zi32c (by omega : k < 2147483648)]
    show mGd E P d 254 2 [(1, .int (Int32.ofNat k + Int32.ofInt 1)), (0, .ref Mp)] [] _ nc ns
    rw [zi32s]
    refine ih (k + 1) _ (mup h k (.int x)) (by omega) (by rw [List.length_set]; exact h8) (by rw [mset_ne n2]; exact m1) (by rw [mset_ne n1]; exact m2) (mset_eq m3) (fun j hj => ?_) (fun h' hh' => ?_)
    · unfold mup
      by_cases e : j = k
      · rw [if_pos e, e]; exact hx.symm
      · rw [if_neg e]; exact hh j (by omega)
    · rw [mset_set]
      exact hP h' hh' 
theorem zlayA_254 {E : mEnv} (hE : E.1 254 = some zm_254) (hE2 : (E.2.1 11)[8]? = some .long) {P : mRes → Prop} {d nc ns Mp mp kp : Nat} {fs : List Value} {f h : Nat → Value} {mem : mMem} {y : Int64} (hf : ∀ j, j < 969 → ∃ x, f j = .int x) (e1 : fs[3]? = some (.ref mp)) (e2 : fs[2]? = some (.ref kp)) (e3 : fs[9]? = some (.long y)) (e4 : 8 < fs.length)
    (n1 : kp ≠ mp) (n2 : kp ≠ Mp) (h8 : mem.length ≤ 128) (m1 : mem[Mp]? = some (.inr (11, fs))) (m2 : mem[mp]? = some (.inl (0, 969, f))) (m3 : mem[kp]? = some (.inl (0, 969, h)))
    (hP : ∀ h', (∀ j, j < 969 → h' j = f j) → P (.inr none, (mem.set kp (.inl (0, 969, h'))).set Mp (.inr (11, fs.set 8 (.long y))), nc, ns)) : mGd E P d 254 0 [(0, .ref Mp)] [] mem nc ns := by
  refine mGd_plain (M := zm_254) (q := (0, .iconst 0, 1, 0, 0, 0, 0)) hE rfl (by decide) (fun h => nomatch h) (fun h => nomatch h) (fun h => nomatch h) rfl ?_
  refine mGd_plain (M := zm_254) (q := (1, .istore_n 1, 1, 0, 0, 0, 0)) hE rfl (by decide) (fun h => nomatch h) (fun h => nomatch h) (fun h => nomatch h) rfl ?_
  refine zlay_254 hE (fs := fs) (mp := mp) (kp := kp) hf e1 e2 n1 n2 969 0 mem h rfl h8 m1 m2 m3 (fun j hj => absurd hj (Nat.not_lt_zero _)) (fun h' hh' => ?_)
  have m9 : (mem.set kp (.inl (0, 969, h')))[Mp]? = some (.inr (11, fs)) := by rw [mset_ne n2]; exact m1
  refine mGd_plain (M := zm_254) (q := (27, .aload_n 0, 1, 0, 0, 0, 0)) hE rfl (by decide) (fun h => nomatch h) (fun h => nomatch h) (fun h => nomatch h) rfl ?_
  refine mGd_plain (M := zm_254) (q := (28, .aload_n 0, 1, 0, 0, 0, 0)) hE rfl (by decide) (fun h => nomatch h) (fun h => nomatch h) (fun h => nomatch h) rfl ?_
  refine mGd_plain (M := zm_254) (q := (29, .getfield 385, 3, 0, 11, 9, 0)) hE rfl (by decide) (fun h => nomatch h) (fun h => nomatch h) (fun h => nomatch h) (mp_getf m9 e3 rfl) ?_
  refine mGd_plain (M := zm_254) (q := (32, .putfield 57, 3, 0, 11, 8, 0)) hE rfl (by decide) (fun h => nomatch h) (fun h => nomatch h) (fun h => nomatch h) (mp_putf m9 hE2 (by simp [mfit, narrow, fits, mkind, e4])) ?_
  exact mGd_ret (M := zm_254) (q := (35, .return_, 1, 0, 0, 0, 0)) hE rfl (by decide) rfl rfl (hP h' hh')
/-! the fill of an int array -/
theorem mp_ldv {E : mEnv} {nL pc p0 ln : Nat} {ax : mAux} {i : Instr} {ls : mLs} {st : List Value} {mem : mMem} {j kd k : Nat} {v : Value} (h0 : zisd i = true) (h1 : mpush (p0, i, ln, ax) = none) (h2 : mload i = some (j, kd, k)) (h3 : mld ls j = some v) (h4 : mkind kd v = true) :
    mplain E nL (p0, i, ln, ax) pc ls st mem = some (pc + k, ls, v :: st, mem) := by
  rw [zisd_ok h0]
  unfold mdef
  rw [h1]
  try dsimp only
  rw [h2]
  try dsimp only
  rw [h3]
  try dsimp only
  rw [if_pos h4]
theorem mp_iinc {E : mEnv} {nL pc p0 ln i : Nat} {n : Int} {ax : mAux} {ls : mLs} {st : List Value} {mem : mMem} {x : Int32} (h : mld ls i = some (.int x)) (hi : i < nL) :
    mplain E nL (p0, .iinc i n, ln, ax) pc ls st mem = some (pc + 3, mst1 ls i (.int (x + Int32.ofInt n)), st, mem) := by
  unfold mplain
  try dsimp only
  rw [h]
  try dsimp only
  rw [if_pos hi]
theorem mld_s1 {ls : mLs} {i j : Nat} {v u : Value} (hj : j ≠ i) (hu : u.category ≠ 2) (h : mld ls j = some u) : mld (mst1 ls i v) j = some u := by
  unfold mst1 mld
  rw [if_neg (fun e => hj e.symm)]
  refine mld_flt ?_ h
  simp only [Bool.and_eq_true, Bool.not_eq_true', beq_eq_false_iff_ne, Bool.and_eq_false_iff]
  exact ⟨hj, Or.inr hu⟩
theorem mld_s0 {ls : mLs} {i : Nat} {v : Value} : mld (mst1 ls i v) i = some v := by
  unfold mst1 mld
  rw [if_pos rfl]
theorem zfill {E : mEnv} (hE : E.1 0 = some zm_0) {P : mRes → Prop} {d nc ns A n : Nat} {c : Int32} (hn : n ≤ 100000) :
    ∀ (t k : Nat) (ls : mLs) (mem : mMem) (h : Nat → Value), k + t = n → mld ls 0 = some (.ref A) → mld ls 1 = some (.int c) → mld ls 2 = some (.int (Int32.ofNat k)) → mld ls 3 = some (.int (Int32.ofNat n)) → mem[A]? = some (.inl (0, n, h)) → (∀ j, j < k → h j = .int c) →
    (∀ h', (∀ j, j < n → h' j = .int c) → P (.inr none, mem.set A (.inl (0, n, h')), nc, ns)) → mGd E P d 0 5 ls [] mem nc ns := by
  intro t
  induction t with
  | zero =>
    intro k ls mem h hk l0 l1 l2 l3 m1 hh hP
    obtain rfl : k = n := by omega
    have hP := hP h hh
    rw [zset_same m1] at hP
    refine mGd_plain (M := zm_0) (q := (5, .iload_n 2, 1, 0, 0, 0, 0)) hE rfl (by decide) (fun h => nomatch h) (fun h => nomatch h) (fun h => nomatch h) (mp_ldv rfl rfl rfl l2 rfl) ?_
    refine mGd_plain (M := zm_0) (q := (6, .iload_n 3, 1, 0, 0, 0, 0)) hE rfl (by decide) (fun h => nomatch h) (fun h => nomatch h) (fun h => nomatch h) (mp_ldv rfl rfl rfl l3 rfl) ?_
    refine mGd_plain (M := zm_0) (q := (7, .if_icmp .ge 13, 3, 0, 0, 0, 0)) hE rfl (by decide) (fun h => nomatch h) (fun h => nomatch h) (fun h => nomatch h) (mp_ge1 (t := 20) rfl (by rw [zi32le (by omega) (by omega)]; exact Nat.le_refl _)) ?_
    exact mGd_ret (M := zm_0) (q := (20, .return_, 1, 0, 0, 0, 0)) hE rfl (by decide) rfl rfl hP
  | succ t ih =>
    intro k ls mem h hk l0 l1 l2 l3 m1 hh hP
    have hin : mIn (Int32.ofNat k) n = true := zi32in (by omega) (by omega)
    refine mGd_plain (M := zm_0) (q := (5, .iload_n 2, 1, 0, 0, 0, 0)) hE rfl (by decide) (fun h => nomatch h) (fun h => nomatch h) (fun h => nomatch h) (mp_ldv rfl rfl rfl l2 rfl) ?_
    refine mGd_plain (M := zm_0) (q := (6, .iload_n 3, 1, 0, 0, 0, 0)) hE rfl (by decide) (fun h => nomatch h) (fun h => nomatch h) (fun h => nomatch h) (mp_ldv rfl rfl rfl l3 rfl) ?_
    refine mGd_plain (M := zm_0) (q := (7, .if_icmp .ge 13, 3, 0, 0, 0, 0)) hE rfl (by decide) (fun h => nomatch h) (fun h => nomatch h) (fun h => nomatch h) (mp_ge0 (t := 20) rfl (by rw [zi32le (by omega) (by omega)]; omega)) ?_
    refine mGd_plain (M := zm_0) (q := (10, .aload_n 0, 1, 0, 0, 0, 0)) hE rfl (by decide) (fun h => nomatch h) (fun h => nomatch h) (fun h => nomatch h) (mp_ldv rfl rfl rfl l0 rfl) ?_
    refine mGd_plain (M := zm_0) (q := (11, .iload_n 2, 1, 0, 0, 0, 0)) hE rfl (by decide) (fun h => nomatch h) (fun h => nomatch h) (fun h => nomatch h) (mp_ldv rfl rfl rfl l2 rfl) ?_
    refine mGd_plain (M := zm_0) (q := (12, .iload_n 1, 1, 0, 0, 0, 0)) hE rfl (by decide) (fun h => nomatch h) (fun h => nomatch h) (fun h => nomatch h) (mp_ldv rfl rfl rfl l1 rfl) ?_
    refine mGd_plain (M := zm_0) (q := (13, .iastore, 1, 0, 0, 0, 0)) hE rfl (by decide) (fun h => nomatch h) (fun h => nomatch h) (fun h => nomatch h) (mp_iast m1 hin) ?_
    refine mGd_plain (M := zm_0) (q := (14, .iinc 2 1, 3, 0, 0, 0, 0)) hE rfl (by decide) (fun h => nomatch h) (fun h => nomatch h) (fun h => nomatch h) (mp_iinc l2 (by decide)) ?_
    refine mGd_plain (M := zm_0) (q := (17, .goto (-12), 3, 0, 0, 0, 0)) hE rfl (by decide) (fun h => nomatch h) (fun h => nomatch h) (fun h => nomatch h) rfl ?_
    rw [zi32c (by omega : k < 2147483648), zi32s]
    refine ih (k + 1) _ _ (mup h k (.int c)) (by omega) (mld_s1 (by decide) (fun e => by cases e) l0) (mld_s1 (by decide) (fun e => by cases e) l1) mld_s0 (mld_s1 (by decide) (fun e => by cases e) l3) (mset_eq m1) (fun j hj => ?_) (fun h' hh' => ?_)
    · unfold mup
      by_cases e : j = k
      · rw [if_pos e]
      · rw [if_neg e]; exact hh j (by omega)
    · rw [mset_set]
      exact hP h' hh'
theorem zfillA {E : mEnv} (hE : E.1 0 = some zm_0) {P : mRes → Prop} {d nc ns A n : Nat} {c : Int32} {mem : mMem} {h : Nat → Value} (hn : n ≤ 100000) (h8 : mem.length ≤ 128) (m1 : mem[A]? = some (.inl (0, n, h)))
    (hP : ∀ h', (∀ j, j < n → h' j = .int c) → P (.inr none, mem.set A (.inl (0, n, h')), nc, ns)) : mGd E P d 0 0 [(0, .ref A), (1, .int c)] [] mem nc ns := by
  refine mGd_plain (M := zm_0) (q := (0, .iconst 0, 1, 0, 0, 0, 0)) hE rfl (by decide) (fun h => nomatch h) (fun h => nomatch h) (fun h => nomatch h) rfl ?_
  refine mGd_plain (M := zm_0) (q := (1, .istore_n 2, 1, 0, 0, 0, 0)) hE rfl (by decide) (fun h => nomatch h) (fun h => nomatch h) (fun h => nomatch h) rfl ?_
  refine mGd_plain (M := zm_0) (q := (2, .aload_n 0, 1, 0, 0, 0, 0)) hE rfl (by decide) (fun h => nomatch h) (fun h => nomatch h) (fun h => nomatch h) rfl ?_
  refine mGd_plain (M := zm_0) (q := (3, .arraylength, 1, 0, 0, 0, 0)) hE rfl (by decide) (fun h => nomatch h) (fun h => nomatch h) (fun h => nomatch h) (mp_alen (marr_m m1 h8) (by decide)) ?_
  refine mGd_plain (M := zm_0) (q := (4, .istore_n 3, 1, 0, 0, 0, 0)) hE rfl (by decide) (fun h => nomatch h) (fun h => nomatch h) (fun h => nomatch h) rfl ?_
  exact zfill hE hn n 0 _ mem h (by omega) rfl rfl rfl rfl m1 (fun j hj => absurd hj (Nat.not_lt_zero _)) hP
/-! the contracts as the checker takes them -/
def zlyc (sf df sl dl : Nat) (args : List zV) (F : zF) (w : zW) (nc ns : Nat) : Option (List zU) := match args with
  | [a] => bif Nat.beq a.1 2 && Nat.ble (Nat.succ a.2.1) w.1 then (match ztg 7 w.2 a.2.1 with
    | .inr (ci, fs) => (match zln fs sf, zln fs df, zln fs sl with
      | some ms, some mw, some lv => bif Nat.beq ci 11 && Nat.beq ms.1 2 && Nat.beq mw.1 2 && Nat.ble 3 lv.1 && !(Nat.beq mw.2.1 ms.2.1) && !(Nat.beq mw.2.1 a.2.1) && Nat.ble (Nat.succ ms.2.1) w.1 && Nat.ble (Nat.succ mw.2.1) w.1 && Nat.ble (Nat.succ dl) fs.length then
        (match ztg 7 w.2 ms.2.1, ztg 7 w.2 mw.2.1 with
        | .inl (t, n, base, es), .inl (t', n', _, _) => bif Nat.beq t 0 && Nat.beq n 969 && Nat.beq t' 0 && Nat.beq n' 969 && zallI base es then
            some [(0, (0, 0, 0), F, (w.1, zts 7 (zts 7 w.2 mw.2.1 (.inl (0, 969, base, es))) a.2.1 (.inr (11, zlu fs dl lv))), nc, ns)] else none
        | _, _ => none) else none
      | _, _, _ => none)
    | .inl _ => none) else none
  | _ => none
def zfc (args : List zV) (F : zF) (w : zW) (nc ns : Nat) : Option (List zU) := match args with
  | [a, v] => bif Nat.beq a.1 2 && Nat.beq v.1 1 && Nat.beq v.2.1 0 && Nat.ble (Nat.succ a.2.1) w.1 then (match ztg 7 w.2 a.2.1 with
    | .inl (t, n, _, _) => bif Nat.beq t 0 && Nat.ble n 100000 then some [(0, (0, 0, 0), F, (w.1, zts 7 w.2 a.2.1 (.inl (0, n, [(n, 1, v.2.2, v.2.2)], []))), nc, ns)] else none
    | .inr _ => none) else none
  | _ => none
theorem zlyc_ok {E : mEnv} {mi sf df sl dl : Nat} (hrun : ∀ {P : mRes → Prop} {d nc ns Mp mp kp : Nat} {fs : List Value} {f h : Nat → Value} {mem : mMem} {y : Int64}, (∀ j, j < 969 → ∃ x, f j = .int x) → fs[sf]? = some (.ref mp) → fs[df]? = some (.ref kp) → fs[sl]? = some (.long y) → dl < fs.length →
    kp ≠ mp → kp ≠ Mp → mem.length ≤ 128 → mem[Mp]? = some (.inr (11, fs)) → mem[mp]? = some (.inl (0, 969, f)) → mem[kp]? = some (.inl (0, 969, h)) →
    (∀ h', (∀ j, j < 969 → h' j = f j) → P (.inr none, (mem.set kp (.inl (0, 969, h'))).set Mp (.inr (11, fs.set dl (.long y))), nc, ns)) → mGd E P d mi 0 [(0, .ref Mp)] [] mem nc ns)
    {d : Nat} {args : List zV} {F : zF} {w : zW} {nc ns : Nat} {L : List zU} (h : zlyc sf df sl dl args F w nc ns = some L) {r : List Int} {vs : List Value} {mem : mMem} {nc0 ns0 : Nat} (hF : zFok r F) (hl : zlm r vs args) (hm : zmm r mem w) (hnc : nc0 ≤ nc) (hns : ns0 ≤ ns) :
    ∃ n res, mrun E n d mi 0 (lv_args 0 vs) [] mem nc0 ns0 = some res ∧ ∃ o ∈ L, ∃ r', zX r r' ∧ zuo E r' o res := by
  unfold zlyc at h
  split at h
  · rename_i a
    obtain ⟨v, vs', rfl, hv, hvs⟩ := zlm_cons hl
    cases vs' with
    | cons _ _ => exact hvs.elim
    | nil =>
    cases c1 : (Nat.beq a.1 2 && Nat.ble (Nat.succ a.2.1) w.1) with
    | false => rw [c1] at h; cases h
    | true =>
      rw [c1] at h
      simp only [cond_true] at h
      simp only [Bool.and_eq_true, Nat.ble_eq] at c1
      obtain rfl := zvm_r hv c1.1
      obtain ⟨cc, q1, q2⟩ := hm.2.2 a.2.1 (by omega)
      split at h
      · rename_i ci fs ez
        rw [ez] at q2
        obtain ⟨fs', rfl, hfs⟩ := q2
        split at h
        · rename_i ms mw lv e1 e2 e3
          cases c2 : (Nat.beq ci 11 && Nat.beq ms.1 2 && Nat.beq mw.1 2 && Nat.ble 3 lv.1 && !(Nat.beq mw.2.1 ms.2.1) && !(Nat.beq mw.2.1 a.2.1) && Nat.ble (Nat.succ ms.2.1) w.1 && Nat.ble (Nat.succ mw.2.1) w.1 && Nat.ble (Nat.succ dl) fs.length) with
          | false => rw [c2] at h; cases h
          | true =>
            rw [c2] at h
            simp only [cond_true] at h
            simp only [Bool.and_eq_true, Nat.ble_eq, Bool.not_eq_true'] at c2
            obtain ⟨⟨⟨⟨⟨⟨⟨⟨k1, k2⟩, k3⟩, k4⟩, k5⟩, k6⟩, k7⟩, k8⟩, k9⟩ := c2
            obtain rfl := zbe.mp k1
            obtain ⟨u1, g1, v1⟩ := zln_ok hfs e1
            obtain ⟨u2, g2, v2⟩ := zln_ok hfs e2
            obtain ⟨u3, g3, v3⟩ := zln_ok hfs e3
            obtain rfl := zvm_r v1 k2
            obtain rfl := zvm_r v2 k3
            obtain ⟨y, rfl⟩ := zvm_l v3 (Nat.ble_eq.mpr k4)
            have n5 : mw.2.1 ≠ ms.2.1 := fun e => by rw [zbe.mpr e] at k5; cases k5
            have n6 : mw.2.1 ≠ a.2.1 := fun e => by rw [zbe.mpr e] at k6; cases k6
            obtain ⟨cm, m1, z1⟩ := hm.2.2 ms.2.1 (by omega)
            obtain ⟨ck, m2, z2⟩ := hm.2.2 mw.2.1 (by omega)
            split at h
            · rename_i t n base es t' n' b' e' x1 x2
              cases c3 : (Nat.beq t 0 && Nat.beq n 969 && Nat.beq t' 0 && Nat.beq n' 969 && zallI base es) with
              | false => rw [c3] at h; cases h
              | true =>
                rw [c3] at h
                simp only [cond_true, Option.some.injEq] at h
                simp only [Bool.and_eq_true, zbe] at c3
                obtain ⟨⟨⟨⟨rfl, rfl⟩, rfl⟩, rfl⟩, ka⟩ := c3
                rw [x1] at z1
                rw [x2] at z2
                obtain ⟨f, rfl, hf⟩ := z1
                obtain ⟨h9, rfl, -⟩ := z2
                have hlen : dl < fs'.length := by rw [zlm_len hfs]; omega
                obtain ⟨nn, res, hr, hp⟩ := hrun (P := fun res => ∃ o ∈ L, ∃ r', zX r r' ∧ zuo E r' o res) (d := d) (nc := nc0) (ns := ns0) (fun j hj => zallI_ok ka (hf j hj)) g1 g2 g3 hlen n5 n6 (by rw [hm.1]; exact hm.2.1) q1 m1 m2 (fun h' hh' => by
                  subst h
                  refine ⟨_, List.mem_singleton.mpr rfl, r, zX.rf, hF, ?_, hnc, hns, rfl⟩
                  exact (hm.set (by omega) (c := .inl (0, 969, h')) (z := .inl (0, 969, base, es)) ⟨h', rfl, fun j hj => by rw [hh' j hj]; exact hf j hj⟩).set (a := a.2.1) (by show a.2.1 < w.1; omega) (c := .inr (11, fs'.set dl (.long y))) (z := .inr (11, zlu fs dl lv)) ⟨_, rfl, zlu_ok v3 hfs⟩)
                exact ⟨nn, res, hr, hp⟩
            · cases h
        · cases h
      · cases h
  · cases h
theorem zfc_ok {E : mEnv} (hE : E.1 0 = some zm_0) {d : Nat} {args : List zV} {F : zF} {w : zW} {nc ns : Nat} {L : List zU} (h : zfc args F w nc ns = some L) {r : List Int} {vs : List Value} {mem : mMem} {nc0 ns0 : Nat} (hF : zFok r F) (hl : zlm r vs args) (hm : zmm r mem w) (hnc : nc0 ≤ nc) (hns : ns0 ≤ ns) :
    ∃ n res, mrun E n d 0 0 (lv_args 0 vs) [] mem nc0 ns0 = some res ∧ ∃ o ∈ L, ∃ r', zX r r' ∧ zuo E r' o res := by
  unfold zfc at h
  split at h
  · rename_i a v
    obtain ⟨u1, vs1, rfl, hu1, hvs1⟩ := zlm_cons hl
    obtain ⟨u2, vs2, rfl, hu2, hvs2⟩ := zlm_cons hvs1
    cases vs2 with
    | cons _ _ => exact hvs2.elim
    | nil =>
    cases c1 : (Nat.beq a.1 2 && Nat.beq v.1 1 && Nat.beq v.2.1 0 && Nat.ble (Nat.succ a.2.1) w.1) with
    | false => rw [c1] at h; cases h
    | true =>
      rw [c1] at h
      simp only [cond_true] at h
      simp only [Bool.and_eq_true, Nat.ble_eq] at c1
      obtain ⟨⟨⟨k1, k2⟩, k3⟩, k4⟩ := c1
      obtain rfl := zvm_r hu1 k1
      obtain ⟨x, rfl, hx⟩ := zvm_i hu2 k2
      have ex : x.toInt = v.2.2 := by
        obtain ⟨u, e1, e2⟩ := zd_some.mp hx
        rw [zbe.mp k3, hF.2.1] at e1
        cases e1
        omega
      obtain ⟨cc, q1, q2⟩ := hm.2.2 a.2.1 (by omega)
      split at h
      · rename_i t n base es ez
        rw [ez] at q2
        obtain ⟨f, rfl, hf⟩ := q2
        cases c2 : (Nat.beq t 0 && Nat.ble n 100000) with
        | false => rw [c2] at h; cases h
        | true =>
          rw [c2] at h
          simp only [cond_true, Option.some.injEq] at h
          simp only [Bool.and_eq_true, Nat.ble_eq, zbe] at c2
          obtain ⟨rfl, hn⟩ := c2
          obtain ⟨nn, res, hr, hp⟩ := zfillA hE (P := fun res => ∃ o ∈ L, ∃ r', zX r r' ∧ zuo E r' o res) (d := d) (nc := nc0) (ns := ns0) (c := x) hn (by rw [hm.1]; exact hm.2.1) q1 (fun h' hh' => by
            subst h
            refine ⟨_, List.mem_singleton.mpr rfl, r, zX.rf, hF, ?_, hnc, hns, rfl⟩
            refine hm.set (by omega) (c := .inl (0, n, h')) (z := .inl (0, n, [(n, 1, v.2.2, v.2.2)], [])) ⟨h', rfl, fun j hj => ?_⟩
            refine ⟨1, v.2.2, v.2.2, ?_, ?_⟩
            · unfold zba
              rw [show Nat.ble (Nat.succ j) n = true from Nat.ble_eq.mpr hj]
              rfl
            · rw [hh' j hj]
              exact ⟨x, rfl, by omega, by omega⟩)
          exact ⟨nn, res, hr, hp⟩
      · cases h
  · cases h
def zcon1 : zK := fun mi args F w nc ns => bif Nat.beq mi 0 then zfc args F w nc ns else bif Nat.beq mi 253 then zlyc 2 3 8 9 args F w nc ns else bif Nat.beq mi 254 then zlyc 3 2 9 8 args F w nc ns else none
theorem zcon1_ok {E : mEnv} (hE : E.1 = zmt) (hE2 : E.2.1 = zft_) {ro : zQ} : zCon E ro 100 zcon1 := by
  intro d mi args F w nc ns L _ h r vs mem nc0 ns0 _ hF hl hm hnc hns
  have h0 : E.1 0 = some zm_0 := by rw [hE]; rfl
  have h253 : E.1 253 = some zm_253 := by rw [hE]; rfl
  have h254 : E.1 254 = some zm_254 := by rw [hE]; rfl
  have g9 : (E.2.1 11)[9]? = some .long := by rw [hE2]; rfl
  have g8 : (E.2.1 11)[8]? = some .long := by rw [hE2]; rfl
  unfold zcon1 at h
  cases c0 : Nat.beq mi 0 with
  | true => rw [c0] at h; obtain rfl := zbe.mp c0; exact zfc_ok h0 h hF hl hm hnc hns
  | false =>
    rw [c0] at h
    simp only [cond_false] at h
    cases c1 : Nat.beq mi 253 with
    | true => rw [c1] at h; obtain rfl := zbe.mp c1; exact zlyc_ok (fun {P} {d} {nc} {ns} {Mp} {mp} {kp} {fs} {f} {h} {mem} {y} a1 a2 a3 a4 a5 a6 a7 a8 a9 a10 a11 a12 => zlayA_253 h253 g9 a1 a2 a3 a4 a5 a6 a7 a8 a9 a10 a11 a12) h hF hl hm hnc hns
    | false =>
      rw [c1] at h
      simp only [cond_false] at h
      cases c2 : Nat.beq mi 254 with
      | true => rw [c2] at h; obtain rfl := zbe.mp c2; exact zlyc_ok (fun {P} {d} {nc} {ns} {Mp} {mp} {kp} {fs} {f} {h} {mem} {y} a1 a2 a3 a4 a5 a6 a7 a8 a9 a10 a11 a12 => zlayA_254 h254 g8 a1 a2 a3 a4 a5 a6 a7 a8 a9 a10 a11 a12) h hF hl hm hnc hns
      | false => rw [c2] at h; cases h
