/-! more single steps -/
theorem mld_s1 {ls : mLs} {i : Nat} {v : Value} : mld (mst1 ls i v) i = some v := by
  unfold mst1 mld
  rw [if_pos rfl]
theorem mld_s1n {ls : mLs} {i j : Nat} {v w : Value} (hj : j ≠ i) (hw : w.category = 1) (h : mld ls j = some w) : mld (mst1 ls i v) j = some w := by
  unfold mst1 mld
  rw [if_neg (fun e => hj e.symm)]
  refine mld_flt ?_ h
  have h1 : (j == i) = false := by simpa using hj
  simp [h1, hw]
section
variable {f : Nat → Option (Nat × Nat × (Nat → Value))} {P : mRes → Prop} {d mi pc : Nat} {ls : mLs} {st : List Value} {mem : mMem} {nc ns : Nat} {M : mMeth} {a b c : Nat} {e : Int}
theorem sBip {k' : _} {v : Int32} (hM : zmt mi = some M) (hq : M.2.2.2.2.1.find? (fun q => q.1 == pc) = some (pc, .bipush k', 2, 0, b, c, e)) (hv : (Int8.ofInt k').toInt32 = v) (h : mGd (yEx f) P d mi (pc + 2) ls (.int v :: st) mem nc ns) : mGd (yEx f) P d mi pc ls st mem nc ns :=
  mGd_plain (pc' := pc + 2) (ls' := ls) (st' := .int v :: st) (mem' := mem) hM hq (show (0 : Nat) < 7 by omega) (by simp) (by simp) (by simp) (by simp [mplain, mdef, mpush, hv]) h
theorem sIaload {n : Nat} {g : Nat → Value} {i x : Int32} (hM : zmt mi = some M) (hq : M.2.2.2.2.1.find? (fun q => q.1 == pc) = some (pc, .iaload, 1, 0, b, c, e)) (ha : a < 1000) (hm : mem[a]? = some (.inl (0, n, g))) (hi : mIn i n = true) (hx : g i.toNatClampNeg = .int x) (h : mGd (yEx f) P d mi (pc + 1) ls (.int x :: st) mem nc ns) : mGd (yEx f) P d mi pc ls (.int i :: .ref a :: st) mem nc ns :=
  mGd_plain (pc' := pc + 1) (ls' := ls) (st' := .int x :: st) (mem' := mem) hM hq (show (0 : Nat) < 7 by omega) (by simp) (by simp) (by simp) (by simp [mplain, marr, ha, hm, hi, hx]) h
theorem sIst {k : Fin 4} {v : Int32} (hM : zmt mi = some M) (hq : M.2.2.2.2.1.find? (fun q => q.1 == pc) = some (pc, .istore_n k, 1, 0, b, c, e)) (hk : (k : Nat) < M.2.2.1) (h : mGd (yEx f) P d mi (pc + 1) (mst1 ls k (.int v)) st mem nc ns) : mGd (yEx f) P d mi pc ls (.int v :: st) mem nc ns :=
  mGd_plain (pc' := pc + 1) (ls' := mst1 ls k (.int v)) (st' := st) (mem' := mem) hM hq (show (0 : Nat) < 7 by omega) (by simp) (by simp) (by simp) (by simp [mplain, mdef, mpush, mload, mstore, mkind, hk]) h
theorem sIst2 {k : Nat} {v : Int32} (hM : zmt mi = some M) (hq : M.2.2.2.2.1.find? (fun q => q.1 == pc) = some (pc, .istore k, 2, 0, b, c, e)) (hk : k < M.2.2.1) (h : mGd (yEx f) P d mi (pc + 2) (mst1 ls k (.int v)) st mem nc ns) : mGd (yEx f) P d mi pc ls (.int v :: st) mem nc ns :=
  mGd_plain (pc' := pc + 2) (ls' := mst1 ls k (.int v)) (st' := st) (mem' := mem) hM hq (show (0 : Nat) < 7 by omega) (by simp) (by simp) (by simp) (by simp [mplain, mdef, mpush, mload, mstore, mkind, hk]) h
theorem sPop {v : Value} (hM : zmt mi = some M) (hq : M.2.2.2.2.1.find? (fun q => q.1 == pc) = some (pc, .pop, 1, 0, b, c, e)) (hv : v.category = 1) (h : mGd (yEx f) P d mi (pc + 1) ls st mem nc ns) : mGd (yEx f) P d mi pc ls (v :: st) mem nc ns :=
  mGd_plain (pc' := pc + 1) (ls' := ls) (st' := st) (mem' := mem) hM hq (show (0 : Nat) < 7 by omega) (by simp) (by simp) (by simp) (by simp [mplain, hv]) h
theorem sIinc {i : Nat} {n : _} {x : Int32} (hM : zmt mi = some M) (hq : M.2.2.2.2.1.find? (fun q => q.1 == pc) = some (pc, .iinc i n, 3, 0, b, c, e)) (hl : mld ls i = some (.int x)) (hi : i < M.2.2.1) (h : mGd (yEx f) P d mi (pc + 3) (mst1 ls i (.int (x + Int32.ofInt n))) st mem nc ns) : mGd (yEx f) P d mi pc ls st mem nc ns :=
  mGd_plain (pc' := pc + 3) (ls' := mst1 ls i (.int (x + Int32.ofInt n))) (st' := st) (mem' := mem) hM hq (show (0 : Nat) < 7 by omega) (by simp) (by simp) (by simp) (by simp [mplain, hl, hi]) h
theorem sGoto {off : _} {t : Nat} (hM : zmt mi = some M) (hq : M.2.2.2.2.1.find? (fun q => q.1 == pc) = some (pc, .goto off, 3, 0, b, c, e)) (ht : mtgt pc off = some t) (h : mGd (yEx f) P d mi t ls st mem nc ns) : mGd (yEx f) P d mi pc ls st mem nc ns :=
  mGd_plain (pc' := t) (ls' := ls) (st' := st) (mem' := mem) hM hq (show (0 : Nat) < 7 by omega) (by simp) (by simp) (by simp) (by simp [mplain, ht]) h
theorem sIcmp {off : _} {cc : Jvm.ClassFile.Cond} {t : Nat} {x y : Int32} (hM : zmt mi = some M) (hq : M.2.2.2.2.1.find? (fun q => q.1 == pc) = some (pc, .if_icmp cc off, 3, 0, b, c, e)) (ht : mtgt pc off = some t) (h : mGd (yEx f) P d mi (if mcond cc x y then t else pc + 3) ls st mem nc ns) : mGd (yEx f) P d mi pc ls (.int y :: .int x :: st) mem nc ns :=
  mGd_plain (pc' := if mcond cc x y then t else pc + 3) (ls' := ls) (st' := st) (mem' := mem) hM hq (show (0 : Nat) < 7 by omega) (by simp) (by simp) (by simp) (by by_cases h : mcond cc x y = true <;> simp [mplain, ht, h]) h
end
theorem y77arr {K : List (Nat × yK)} {m : mMem} (hT : yTM yY K yNn m) : ∃ g, m[77]? = some (.inl (0, 969, g)) ∧ ∀ j, j < 969 → yva m 77 j = some (g j) := by
  have hlt : 77 < m.length := by rw [hT.1]; decide
  obtain ⟨s1, -⟩ := hT.2.2 77 m[77] (List.getElem?_eq_getElem hlt)
  have hg := List.getElem?_eq_getElem hlt
  generalize m[77] = c at s1 hg
  cases c with
  | inl q =>
    obtain ⟨t, n, g⟩ := q
    obtain ⟨-, e1, e2⟩ := s1
    have e1 : 0 = t := e1
    have e2 : 969 = n := e2
    subst e1
    subst e2
    refine ⟨g, hg, fun j hj => ?_⟩
    unfold yva
    rw [hg]
    show (if j < 969 then some (g j) else none) = _
    rw [if_pos hj]
  | inr q =>
    obtain ⟨ci, fs⟩ := q
    have := s1.1
    exact absurd this (by decide +kernel)
theorem yok30 {x : Int32} (h0 : 0 ≤ x.toInt) (h1 : x.toInt ≤ 1) : yok (ykk yKk (ztg 7 yY 75).2.2.2) 30 (.int x) := ⟨⟨(1, 0, 1), by decide +kernel, show ∃ y, Value.int x = .int y ∧ (0 : Int) ≤ y.toInt ∧ y.toInt ≤ 1 from ⟨x, rfl, h0, h1⟩⟩, fun p hp => by cases hp⟩
theorem mfitI {x : Int32} : mfit .int (.int x) = true := by
  unfold mfit
  rw [Bool.and_eq_true]
  exact ⟨decide_eq_true rfl, rfl⟩
/-! runsPlainly -/
def yA30 (a : Nat → Nat → Option Value) (p j : Nat) : Option Value := if p = 75 ∧ j = 30 then some (.int 1) else a p j
theorem yZ_eq {f : Nat → Option (Nat × Nat × (Nat → Value))} {a a' : Nat → Nat → Option Value} {l s g z : Int32} (h : ∀ p j, ¬ yDk p j → a p j = a' p j) (hz : yZ f a l s g z) : yZ f a' l s g z := by
  have e : ∀ P, yHat a P ↔ yHat a' P := fun P =>
    ⟨fun hP => ⟨hP.1, fun p j v h1 h2 => by obtain ⟨x, y⟩ := hP.2 p j v h1 h2; exact ⟨x, by rw [← h p j x]; exact y⟩⟩,
     fun hP => ⟨hP.1, fun p j v h1 h2 => by obtain ⟨x, y⟩ := hP.2 p j v h1 h2; exact ⟨x, by rw [h p j x]; exact y⟩⟩⟩
  obtain ⟨⟨P, n, r, h1, h2⟩, h3⟩ := hz
  exact ⟨⟨P, n, r, (e P).mp h1, h2⟩, fun P n r z' h4 => h3 P n r z' ((e P).mpr h4)⟩
theorem yP_x {f : Nat → Option (Nat × Nat × (Nat → Value))} (hf : yFf f) {M : mMem} {l s g : Int32} {nc ns : Nat} {Q : mRes → Prop} (hT : yTM yY yKk yNn M) (hA : ∀ t ∈ yALW, yPH (0, 0) [0] M t) (h21 : yva M 75 21 = some (.int 0)) (hs0 : 0 ≤ s.toInt) (hs8 : s.toInt ≤ 8)
    (h : ∀ (x : Int32) (C : mMem) (nc' ns' : Nat), yTM yY yKk yNn C → (∀ t ∈ yP8, yPH (0, 0) [0] C t) → nc' ≤ nc → ns' ≤ ns → (∀ j, yva C 78 j = yva M 77 j) → yva C 75 9 = yva M 75 8 → (∀ p j, yRn p j → ¬ (p = 75 ∧ j = 30) → yva C p j = yva M p j) →
      (∃ z : Int32, yva C 77 36 = some (.int z) ∧ yZ f (yA30 (yaim M)) l s g z) → Q (.inr (some (.int x)), C, nc', ns')) :
    mGd (yEx f) Q 57 262 0 (yRa l s g) [] M nc ns := by
  obtain ⟨fs, o1, o2⟩ := yobj75 hT
  obtain ⟨p1, p2⟩ := yput (v := .int 1) (k := 30) hT o1 o2 (by omega) (yok30 (by decide) (by decide))
  refine sAload (M := zm_262) (v := 75) rfl rfl rfl ?_
  refine sConst (k := 0) (M := zm_262) (v := 1) rfl rfl rfl ?_
  refine sPut (M := zm_262) (v := .int 1) rfl rfl o1 (ty := .boolean) rfl (by decide +kernel) rfl (by omega) ?_
  have o1' : (M.set 75 (.inr (11, fs.set 30 (.int 1))))[75]? = some (.inr (11, fs.set 30 (.int 1))) := List.getElem?_set_self (by rw [hT.1]; decide)
  generalize M.set 75 (.inr (11, fs.set 30 (.int 1))) = M1 at p1 p2 o1' ⊢
  refine sAload (M := zm_262) (v := 75) rfl rfl rfl ?_
  refine sIload (M := zm_262) (v := l) rfl rfl rfl ?_
  refine sIload (M := zm_262) (v := s) rfl rfl rfl ?_
  refine sIload (M := zm_262) (v := g) rfl rfl rfl ?_
  refine mGd_call (d := 56) (q := (9, .invokevirtual 394, 3, 9, 260, 4, 11)) (M := zm_262) (M' := zm_260) rfl rfl rfl rfl (Nat.le_refl _) (Nat.zero_le _) (Nat.le_of_ble_eq_true rfl) (yrcv o1') ?_
  obtain ⟨n, res, run, hr⟩ := yR_x hf (l := l) (g := g) (nc := nc) (ns := ns) p1 (yq0 (P := yALW) (by decide) p2.fr hA) (by rw [p2.ne (Or.inr (by omega))]; exact h21) p2.at hs0 hs8
  refine ⟨n, res, run, ?_⟩
  obtain ⟨res0, C, nc', ns'⟩ := res
  obtain ⟨⟨x, rfl⟩, hC, hP8, hnc, hns, h78, h759, hfr, z, z1, z2⟩ := hr
  dsimp only at hC hP8 hnc hns h78 h759 hfr z1
  show mGd (yEx f) Q 57 262 12 (yRa l s g) [.int x] C nc' ns'
  obtain ⟨fs2, c1, c2⟩ := yobj75 hC
  obtain ⟨p3, p4⟩ := yput (v := .int 0) (k := 30) hC c1 c2 (by omega) (yok30 (by decide) (by decide))
  refine sIst2 (M := zm_262) rfl rfl (by decide) ?_
  refine sAload (M := zm_262) (v := 75) rfl rfl (mld_s1n (by decide) rfl rfl) ?_
  refine sConst (k := 0) (M := zm_262) (v := 0) rfl rfl rfl ?_
  refine sPut (M := zm_262) (v := .int 0) rfl rfl c1 (ty := .boolean) rfl (by decide +kernel) rfl (by omega) ?_
  refine sIload2 (M := zm_262) (v := x) rfl rfl mld_s1 ?_
  refine sIret (M := zm_262) rfl rfl rfl ?_
  refine h x _ nc' ns' p3 (yq0 (P := yP8) (by decide) p4.fr hP8) hnc hns (fun j => ?_) ?_ (fun p j h1 h2 => ?_) ⟨z, ?_, yZ_eq (fun p j hd => ?_) z2⟩
  · rw [p4.ne (Or.inl (by omega)), h78, p2.ne (Or.inl (by omega))]
  · rw [p4.ne (Or.inr (by omega)), h759, p2.ne (Or.inr (by omega))]
  · have hn : p ≠ 75 ∨ j ≠ 30 := by omega
    rw [p4.ne hn, hfr p j h1, p2.ne hn]
  · rw [p4.ne (Or.inl (by omega))]; exact z1
  · show (if p = 78 then yva M1 77 j else if p = 75 ∧ j = 9 then yva M1 75 8 else yva M1 p j) = if p = 75 ∧ j = 30 then some (.int 1) else if p = 78 then yva M 77 j else if p = 75 ∧ j = 9 then yva M 75 8 else yva M p j
    by_cases e : p = 75 ∧ j = 30
    · rw [if_pos e, if_neg (by omega), if_neg (by omega), e.1, e.2]; exact p2.at
    · rw [if_neg e, p2.ne (Or.inl (by omega)), p2.ne (Or.inr (by omega)), p2.ne (by omega)]
