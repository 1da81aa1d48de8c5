/-! RUNS: what it answers depends on nothing that it writes first -/
theorem zba_mem {l : List zR} {j : Nat} {q : Nat × Int × Int} (h : zba l j = some q) : ∃ r ∈ l, r.2 = q := by
  induction l with
  | nil => cases h
  | cons a l ih =>
    unfold zba at h
    cases c : Nat.ble (Nat.succ j) a.1 with
    | true => rw [c] at h; exact ⟨a, List.mem_cons_self, by simpa using h⟩
    | false =>
      rw [c] at h
      obtain ⟨r, h1, h2⟩ := ih h
      exact ⟨r, List.mem_cons_of_mem _ h1, h2⟩
theorem yKk_nz : (yKk.all fun e => e.2.1.all fun r => !(Nat.beq r.2.1 0)) = true := by decide +kernel
theorem ykk_mem {K : List (Nat × yK)} {k : Nat} (h : ∀ e ∈ K, ∀ r ∈ e.2.1, r.2.1 ≠ 0) : ∀ r ∈ (ykk K k).1, r.2.1 ≠ 0 := by
  induction K with
  | nil => intro r hr; cases hr
  | cons e K ih =>
    unfold ykk
    cases c : Nat.beq e.1 k with
    | true => exact h e List.mem_cons_self
    | false => exact ih fun e he => h e (List.mem_cons_of_mem _ he)
theorem ynn {m : mMem} {p j : Nat} {v : Value} (hT : yTM yY yKk yNn m) (h : yva m p j = some v) : v ≠ .null := by
  unfold yva at h
  split at h
  · rename_i c hc
    obtain ⟨-, h2⟩ := hT.2.2 p c hc
    obtain ⟨⟨q, q1, q2⟩, -⟩ := h2 j v h
    obtain ⟨r, r1, r2⟩ := zba_mem q1
    have nz := ykk_mem (K := yKk) (fun e he r hr => by
      have := List.all_eq_true.mp (List.all_eq_true.mp yKk_nz e he) r hr
      simp only [Bool.not_eq_true'] at this
      exact nbe this) r r1
    rw [r2] at nz
    unfold yrm at q2
    split at q2
    · rename_i e; exact absurd e nz
    · obtain ⟨x, rfl, -⟩ := q2; exact fun z => by cases z
    · obtain ⟨x, rfl, -⟩ := q2; exact fun z => by cases z
    · obtain ⟨x, rfl⟩ := q2; exact fun z => by cases z
  · cases h
theorem yva_no {K K' : List (Nat × yK)} {m m' : mMem} {p j : Nat} (hT : yTM yY K yNn m) (hT' : yTM yY K' yNn m') (h : yva m p j = none) : yva m' p j = none := by
  by_cases hp : p < yNn
  · by_cases hj : j < (ztg 7 yY p).2.2.1
    · obtain ⟨v, v1, -⟩ := yva_ex hT hp hj
      rw [h] at v1
      cases v1
    · exact yva_ge hT' (by omega)
  · unfold yva
    rw [List.getElem?_eq_none (by have := hT'.1; omega)]
theorem pM_of {K K' : List (Nat × yK)} {m m' : mMem} (hT : yTM yY K yNn m) (hT' : yTM yY K' yNn m') (h : ∀ p j v, yva m p j = some v → v ≠ .null → yva m' p j = some v) : pM m m' := by
  refine ⟨by rw [hT.1, hT'.1], fun k c hk => ?_⟩
  have hlt : k < m'.length := by
    have := (List.getElem?_eq_some_iff.mp hk).1
    rw [hT'.1, ← hT.1]
    exact this
  refine ⟨m'[k], List.getElem?_eq_getElem hlt, ?_⟩
  have hk' := List.getElem?_eq_getElem hlt
  obtain ⟨s1, -⟩ := hT.2.2 k c hk
  obtain ⟨s2, -⟩ := hT'.2.2 k _ hk'
  have hv : ∀ j v, yv1 c j = some v → v ≠ .null → yv1 m'[k] j = some v := fun j v h1 h2 => by
    have := h k j v (by unfold yva; rw [hk]; exact h1) h2
    unfold yva at this
    rw [hk'] at this
    exact this
  generalize m'[k] = c' at s2 hv
  cases c with
  | inl x =>
    cases c' with
    | inl y =>
      obtain ⟨t, n, f⟩ := x
      obtain ⟨t', n', f'⟩ := y
      obtain ⟨a1, a2, a3⟩ := s1
      obtain ⟨b1, b2, b3⟩ := s2
      have en : n = n' := by omega
      subst en
      refine ⟨by omega, rfl, fun j hj hn => ?_⟩
      have := hv j (f j) (by show (if j < n then some (f j) else none) = _; rw [if_pos hj]) hn
      have h2 : (if j < n then some (f' j) else none) = some (f j) := this
      rw [if_pos hj] at h2
      exact Option.some.inj h2
    | inr y =>
      obtain ⟨t, n, f⟩ := x
      obtain ⟨ci, fs⟩ := y
      have a1 := s1.1
      have b1 := s2.1
      omega
  | inr x =>
    cases c' with
    | inl y =>
      obtain ⟨t, n, f⟩ := y
      obtain ⟨ci, fs⟩ := x
      have a1 := s1.1
      have b1 := s2.1
      omega
    | inr y =>
      obtain ⟨ci, fs⟩ := x
      obtain ⟨ci', fs'⟩ := y
      obtain ⟨a1, a2, a3⟩ := s1
      obtain ⟨b1, b2, b3⟩ := s2
      exact ⟨by omega, by omega, fun j v h1 h2 => hv j v h1 h2⟩
theorem pM.va {m m' : mMem} (h : pM m m') {p j : Nat} {v : Value} (h1 : yva m p j = some v) (h2 : v ≠ .null) : yva m' p j = some v := by
  unfold yva at h1
  split at h1
  · rename_i c hc
    obtain ⟨c', e, hcc⟩ := h.2 p c hc
    unfold yva
    rw [e]
    cases c with
    | inl x =>
      cases c' with
      | inl y =>
        obtain ⟨t, n, f⟩ := x
        obtain ⟨t', n', f'⟩ := y
        obtain ⟨rfl, rfl, h3⟩ := hcc
        have h4 : (if j < n then some (f j) else none) = some v := h1
        show (if j < n then some (f' j) else none) = some v
        by_cases hj : j < n
        · rw [if_pos hj] at h4 ⊢
          cases h4
          rw [h3 j hj h2]
        · rw [if_neg hj] at h4
          cases h4
      | inr y => exact hcc.elim
    | inr x =>
      cases c' with
      | inl y => exact hcc.elim
      | inr y => exact hcc.2.2 j v h1 h2
  · cases h1
/-! the junk world's types -/
theorem yj_eq : ((List.range 85).all fun p => Nat.beq p 75 || (decide ((ykk yKj (ztg 7 yY p).2.2.2).1 = (ykk yKk (ztg 7 yY p).2.2.2).1) && decide ((ykk yKj (ztg 7 yY p).2.2.2).2 = (ykk yKk (ztg 7 yY p).2.2.2).2))) = true := by decide +kernel
theorem yj_75 : ((List.range 35).all fun j => (Nat.ble 10 j && Nat.ble j 12 && decide (zba (ykk yKj (ztg 7 yY 75).2.2.2).1 j = some (0, 0, 0))) || decide (zba (ykk yKj (ztg 7 yY 75).2.2.2).1 j = zba (ykk yKk (ztg 7 yY 75).2.2.2).1 j)) = true := by decide +kernel
theorem yTM_j {m : mMem} (hT : yTM yY yKk yNn m) : yTM yY yKj yNn m := by
  refine ⟨hT.1, hT.2.1, fun p c hc => ?_⟩
  obtain ⟨s1, s2⟩ := hT.2.2 p c hc
  refine ⟨s1, fun j v hv => ?_⟩
  have h9 := s2 j v hv
  have hp : p < 85 := by
    have := (List.getElem?_eq_some_iff.mp hc).1
    rw [hT.1] at this
    exact this
  have := List.all_eq_true.mp yj_eq p (List.mem_range.mpr hp)
  rw [Bool.or_eq_true, Bool.and_eq_true, decide_eq_true_eq, decide_eq_true_eq] at this
  rcases this with e | ⟨e1, e2⟩
  · have e := zbe.mp e
    subst e
    obtain ⟨⟨q, q1, q2⟩, q3⟩ := h9
    have hj : j < 35 := by
      rcases Nat.lt_or_ge j 35 with h | h
      · exact h
      · have := yva_ge (p := 75) (j := j) hT (by show 35 ≤ j; exact h)
        unfold yva at this
        rw [hc] at this
        simp only at this
        rw [this] at hv
        cases hv
    have := List.all_eq_true.mp yj_75 j (List.mem_range.mpr hj)
    simp only [Bool.or_eq_true, Bool.and_eq_true, decide_eq_true_eq] at this
    refine ⟨?_, fun p hp => by cases hp⟩
    rcases this with ⟨-, e⟩ | e
    · exact ⟨_, e, trivial⟩
    · exact ⟨q, by rw [e]; exact q1, q2⟩
  · rw [Prod.ext e1 e2]
    exact h9
def yaim (m : mMem) (p j : Nat) : Option Value := if p = 78 then yva m 77 j else if p = 75 ∧ j = 9 then yva m 75 8 else yva m p j
def yDk (p j : Nat) : Prop := p = 75 ∧ 10 ≤ j ∧ j < 13
def yHat (a : Nat → Nat → Option Value) (P : mMem) : Prop := yTM yY yKj yNn P ∧ ∀ p j v, yva P p j = some v → v ≠ .null → ¬ yDk p j ∧ a p j = some v
def yRa (l s g : Int32) : mLs := lv_args 0 [.ref 75, .int l, .int s, .int g]
def yZ (f : Nat → Option (Nat × Nat × (Nat → Value))) (a : Nat → Nat → Option Value) (l s g z : Int32) : Prop := (∃ P n r, yHat a P ∧ mrun (yEx f) n 20 260 4 (yRa l s g) [] P 0 0 = some r ∧ yva r.2.1 77 36 = some (.int z)) ∧
  ∀ P n r z', yHat a P → mrun (yEx f) n 20 260 4 (yRa l s g) [] P 0 0 = some r → yva r.2.1 77 36 = some (.int z') → z' = z
theorem yRF {l s g : Int32} (hs0 : 0 ≤ s.toInt) (hs8 : s.toInt ≤ 8) : ∀ e ∈ ([(1, (-2147483648), 2147483647), (2, 0, 8), (3, (-2147483648), 2147483647)] : zB), ∃ v, ([0, l.toInt, s.toInt, g.toInt] : List Int)[e.1]? = some v ∧ e.2.1 ≤ v ∧ v ≤ e.2.2 := by
  intro e he
  simp only [List.mem_cons, List.not_mem_nil, or_false] at he
  rcases he with rfl | rfl | rfl
  · exact ⟨_, rfl, (yi32 l).1, (yi32 l).2⟩
  · exact ⟨_, rfl, hs0, hs8⟩
  · exact ⟨_, rfl, (yi32 g).1, (yi32 g).2⟩
/-- behind laysAside: a run over what is known there -/
theorem yR_4 {f : Nat → Option (Nat × Nat × (Nat → Value))} (hf : yFf f) {A : mMem} {l s g : Int32} (hT : yTM yY yKk yNn A) (hP : ∀ t ∈ yP8, yPH (0, 0) [0] A t) (h21 : yva A 75 21 = some (.int 0)) (h30 : yva A 75 30 = some (.int 1)) (hs0 : 0 ≤ s.toInt) (hs8 : s.toInt ≤ 8) :
    ∃ P n r, yTM yY yKj yNn P ∧ (∀ p j v, yva P p j = some v → v ≠ .null → ¬ yDk p j ∧ yva A p j = some v) ∧ (∀ p j, ¬ yDk p j → yva P p j = yva A p j) ∧ mrun (yEx f) n 20 260 4 (yRa l s g) [] P 0 0 = some r ∧
      yFr [(75, 8, 9), (75, 10, 13), (77, 0, 20), (77, 22, 25), (77, 27, 969)] P r.2.1 ∧ yTM yY yKj yNn r.2.1 := by
  obtain ⟨fs, o1, o2⟩ := yobj75 hT
  have nul : ∀ k, zba (ykk yKj (ztg 7 yY 75).2.2.2).1 k = some (0, 0, 0) → yok (ykk yKj (ztg 7 yY 75).2.2.2) k .null := fun k hk => ⟨⟨_, hk, trivial⟩, fun p hp => by cases hp⟩
  obtain ⟨p1, p2⟩ := yput (v := .null) (k := 10) (yTM_j hT) o1 o2 (by omega) (nul 10 (by decide +kernel))
  have o1' : (A.set 75 (.inr (11, fs.set 10 .null)))[75]? = some (.inr (11, fs.set 10 .null)) := List.getElem?_set_self (by rw [hT.1]; decide)
  obtain ⟨p3, p4⟩ := yput (v := .null) (k := 11) p1 o1' (by rw [List.length_set]; exact o2) (by omega) (nul 11 (by decide +kernel))
  have o1'' : ((A.set 75 (.inr (11, fs.set 10 .null))).set 75 (.inr (11, (fs.set 10 .null).set 11 .null)))[75]? = some (.inr (11, (fs.set 10 .null).set 11 .null)) := List.getElem?_set_self (by rw [List.length_set, hT.1]; decide)
  obtain ⟨p5, p6⟩ := yput (v := .null) (k := 12) p3 o1'' (by rw [List.length_set, List.length_set]; exact o2) (by omega) (nul 12 (by decide +kernel))
  generalize ((A.set 75 (.inr (11, fs.set 10 .null))).set 75 (.inr (11, (fs.set 10 .null).set 11 .null))).set 75 (.inr (11, ((fs.set 10 .null).set 11 .null).set 12 .null)) = P at p5 p6
  have same : ∀ p j, ¬ yDk p j → yva P p j = yva A p j := fun p j hn => by
    have hne : ∀ k, 10 ≤ k → k < 13 → p ≠ 75 ∨ j ≠ k := fun k h1 h2 => by
      by_cases hp : p = 75
      · exact Or.inr fun hj => hn ⟨hp, by omega, by omega⟩
      · exact Or.inl hp
    rw [p6.ne (hne 12 (by omega) (by omega)), p4.ne (hne 11 (by omega) (by omega)), p2.ne (hne 10 (by omega) (by omega))]
  have junk : ∀ p j v, yva P p j = some v → v ≠ .null → ¬ yDk p j := by
    rintro p j v h1 h2 ⟨rfl, h3, h4⟩
    have : j = 10 ∨ j = 11 ∨ j = 12 := by omega
    rcases this with rfl | rfl | rfl
    · rw [p6.ne (Or.inr (by omega)), p4.ne (Or.inr (by omega)), p2.at] at h1
      exact h2 (Option.some.inj h1).symm
    · rw [p6.ne (Or.inr (by omega)), p4.at] at h1
      exact h2 (Option.some.inj h1).symm
    · rw [p6.at] at h1
      exact h2 (Option.some.inj h1).symm
  have hfr : yFr [(75, 10, 13)] A P := fun p j hn => same p j fun hd => hn ⟨(75, 10, 13), List.mem_singleton.mpr rfl, hd.1.symm, hd.2.1, hd.2.2⟩
  have e21 : yva P 75 21 = some (.int 0) := by rw [same 75 21 (fun h => by have := h.2.2; omega)]; exact h21
  have e30 : yva P 75 30 = some (.int 1) := by rw [same 75 30 (fun h => by have := h.2.2; omega)]; exact h30
  have hfact : ∀ (j : Nat) (k : Nat) (x : Int32), yva P 75 j = some (.int x) → ([0, l.toInt, s.toInt, g.toInt, 0, 1] : List Int)[k]? = some x.toInt → 0 = 0 ∧ ∃ (i : Nat) (v : Value), zd [0, l.toInt, s.toInt, g.toInt, 0, 1] (1, 0, (j : Int)) = some (i : Int) ∧ yvx (yEx f) P 75 i = some v ∧ zvm [0, l.toInt, s.toInt, g.toInt, 0, 1] v (1, k, 0) := fun j k x h1 h2 => by
    refine ⟨rfl, j, .int x, zd_some.mpr ⟨0, rfl, by simp⟩, ?_, zvm_int rfl (zd_some.mpr ⟨_, h2, by simp⟩)⟩
    unfold yvx
    rw [if_pos (show 75 < 1000 by omega)]
    exact h1
  have hF : zFok [0, l.toInt, s.toInt, g.toInt, 0, 1] (ykF yJr.2.1) := by
    refine ⟨rfl, rfl, fun e he => ?_, fun e he => (by cases he), fun e he => (by cases he)⟩
    have he' : e ∈ ([(4, 0, 0), (5, 1, 1), (1, (-2147483648), 2147483647), (2, 0, 8), (3, (-2147483648), 2147483647)] : zB) := he
    simp only [List.mem_cons, List.not_mem_nil, or_false] at he'
    rcases he' with rfl | rfl | rfl | rfl | rfl
    · exact ⟨_, rfl, Int.le_refl _, Int.le_refl _⟩
    · exact ⟨_, rfl, Int.le_refl _, Int.le_refl _⟩
    · exact ⟨_, rfl, (yi32 l).1, (yi32 l).2⟩
    · exact ⟨_, rfl, hs0, hs8⟩
    · exact ⟨_, rfl, (yi32 g).1, (yi32 g).2⟩
  have run := (yckcY_ok hf (0, 0) (K := yKj) (c := yJr) (T := yJrU) (ht := yJrH) (il := []) (stop := yst [47]) (outs := yJQr) (cuts := [yJr0, yJrT]) (ex := []) (mem := P) (nc := 0) (ns := 0) (vs := []) (yJrU_ok hf) (M := zm_260) rfl rfl rfl yJr_L (θ0 := [0, l.toInt, s.toInt, g.toInt, 0, 1]) (fun q hq => by cases hq) hF
    (Pf := yPf (yEx f) yY yKj yNn (yPH (0, 0)) yJr.2.1 [0, l.toInt, s.toInt, g.toInt, 0, 1] P 0 0) (fun res h => h) (fun T hT => by cases hT)).1 yJr0 List.mem_cons_self [0, l.toInt, s.toInt, g.toInt, 0, 1] (yRa l s g) P 0 0
    ⟨zX.rf, hF, fun i a hi => by
        have hi' : zld [(0, (2, 75, 0)), (1, (1, 1, 0)), (2, (1, 2, 0)), (3, (1, 3, 0))] i = some a := hi
        have hm := zld_mem hi'
        simp only [List.mem_cons, List.not_mem_nil, or_false, Prod.mk.injEq] at hm
        rcases hm with ⟨rfl, rfl⟩ | ⟨rfl, rfl⟩ | ⟨rfl, rfl⟩ | ⟨rfl, rfl⟩
        · exact ⟨.ref 75, rfl, rfl⟩
        · exact ⟨.int l, rfl, zvm_int rfl (zd_some.mpr ⟨_, rfl, by simp⟩)⟩
        · exact ⟨.int s, rfl, zvm_int rfl (zd_some.mpr ⟨_, rfl, by simp⟩)⟩
        · exact ⟨.int g, rfl, zvm_int rfl (zd_some.mpr ⟨_, rfl, by simp⟩)⟩,
      fun e he => by
        have he' : e ∈ ([(75, (1, 0, 21), (1, 4, 0), 0), (75, (1, 0, 30), (1, 5, 0), 0)] : List yE) := he
        simp only [List.mem_cons, List.not_mem_nil, or_false] at he'
        rcases he' with rfl | rfl
        · exact hfact 21 4 0 e21 rfl
        · exact hfact 30 5 1 e30 rfl, p5, yPH_gs (P := yP8) (by decide) (yq0 (P := yP8) (by decide) hfr hP), (fun p hp => by cases hp), yFr.rf, Nat.le_refl _, Nat.le_refl _⟩
  obtain ⟨n, r, hr, hp, o, ho, θ', hx, ⟨a1, a2, a3, a4⟩, a5⟩ := run
  exact ⟨P, n, r, p5, fun p j v h1 h2 => ⟨junk p j v h1 h2, by rw [← same p j (junk p j v h1 h2)]; exact h1⟩, same, hr, hp, a3⟩
