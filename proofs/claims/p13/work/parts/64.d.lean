/-! runs, as it is called where the settings are not told to be the same -/
def yQ324o : List (yU × List ySr) := [((0, (0, 0, 0), (1, [], [], []), [], [(6, 77, 0, (1, 0, 0)), (6, 78, 0, (1, 0, 0)), (2, 34, 0, (1, 0, 0)), (2, 4, 0, (1, 0, 0)), (2, 67, 0, (1, 0, 0)), (9, 77, 0, (1, 0, 0)), (9, 78, 0, (1, 0, 0)), (3, 0, 0, (1, 0, 0))], 0), [])]
def yC324o : yKq := (253, ([(2, 75, 0, 0)], [], [(6, 77, 0, (1, 0, 0)), (2, 34, 0, (1, 0, 0)), (2, 4, 0, (1, 0, 0)), (2, 67, 0, (1, 0, 0)), (9, 77, 0, (1, 0, 0)), (3, 0, 0, (1, 0, 0))], [(75, 9, 10), (78, 0, 969)], [(0, (0, 0, 0), (1, [], [], []), [], [(6, 77, 0, (1, 0, 0)), (6, 78, 0, (1, 0, 0)), (2, 34, 0, (1, 0, 0)), (2, 4, 0, (1, 0, 0)), (2, 67, 0, (1, 0, 0)), (9, 77, 0, (1, 0, 0)), (9, 78, 0, (1, 0, 0)), (3, 0, 0, (1, 0, 0))], 0)], 1, 8), [], [])
theorem yC324o_ok {f : Nat → Option (Nat × Nat × (Nat → Value))} (hf : yFf f) : yA f yKk yC324o :=
  yckc_ok hf (T := []) (ht := [(253, 0, 11, 78, 77, [])]) (il := []) (stop := (yst [2])) (M := zm_253) (c := yC324o) (outs := yQ324o) (cuts := [(2, [(0, (2, 75, 0)), (1, (1, 1, 0))], (2, [(1, 0, 969)], [], []), [], [(7, 78, 77, (1, 1, 0)), (6, 77, 0, (1, 0, 0)), (2, 34, 0, (1, 0, 0)), (2, 4, 0, (1, 0, 0)), (2, 67, 0, (1, 0, 0)), (9, 77, 0, (1, 0, 0)), (3, 0, 0, (1, 0, 0))], [(0, 1, 0)], [(true, 1, 0)], [])]) (by decide +kernel) trivial rfl rfl rfl
def yQ330o : List (yU × List ySr) := [((1, (1, 4, 0), (5, [(4, (-2147483648), 2147483647)], [], []), [], [(6, 77, 0, (1, 0, 0)), (6, 78, 0, (1, 0, 0)), (2, 34, 0, (1, 0, 0)), (2, 4, 0, (1, 0, 0)), (2, 67, 0, (1, 0, 0)), (9, 77, 0, (1, 0, 0)), (9, 78, 0, (1, 0, 0)), (3, 0, 0, (1, 0, 0))], 0), [(3, 0, 0)])]
def yC330o : yKq := (260, ([(2, 75, 0, 0), (1, 0, (-2147483648), 2147483647), (1, 0, 0, 8), (1, 0, (-2147483648), 2147483647)], [], [(6, 77, 0, (1, 0, 0)), (2, 34, 0, (1, 0, 0)), (2, 4, 0, (1, 0, 0)), (2, 67, 0, (1, 0, 0)), (9, 77, 0, (1, 0, 0)), (3, 0, 0, (1, 0, 0))], [(75, 8, 13), (75, 20, 21), (75, 22, 30), (77, 0, 20), (77, 22, 25), (77, 27, 969), (78, 0, 969)], [(1, (1, 4, 0), (5, [(4, (-2147483648), 2147483647)], [], []), [], [(6, 77, 0, (1, 0, 0)), (6, 78, 0, (1, 0, 0)), (2, 34, 0, (1, 0, 0)), (2, 4, 0, (1, 0, 0)), (2, 67, 0, (1, 0, 0)), (9, 77, 0, (1, 0, 0)), (9, 78, 0, (1, 0, 0)), (3, 0, 0, (1, 0, 0))], 0)], 4, 56), [], [])
theorem yC330o_ok {f : Nat → Option (Nat × Nat × (Nat → Value))} (hf : yFf f) : yA f yKk yC330o :=
  yckc_ok hf (T := [yC278, yC298, yC303, yC324o]) (ht := [(260, 95, 14, 0, 0, [])]) (il := []) (stop := (yst [47])) (M := zm_260) (c := yC330o) (outs := yQ330o) (cuts := [(47, [(0, (2, 75, 0)), (1, (1, 4, 0)), (2, (1, 5, 0)), (3, (1, 6, 0)), (4, (1, 7, 0)), (5, (1, 8, 0))], (10, [(1, (-2147483648), 2147483647), (2, 0, 8), (3, (-2147483648), 2147483647), (4, (-2147483648), 2147483647), (5, 0, 8), (6, (-2147483648), 2147483647), (7, (-2147483648), 2147483647), (8, (-1), 63), (9, 0, 0)], [(1, 4, 0), (2, 5, 0), (3, 6, 0), (4, 1, 0), (5, 2, 0), (6, 3, 0), (9, 2, 0), (9, 5, 0)], []), [(77, (1, 0, 24), (1, 9, 0), 0)], [(6, 77, 0, (1, 0, 0)), (6, 78, 0, (1, 0, 0)), (2, 34, 0, (1, 0, 0)), (2, 4, 0, (1, 0, 0)), (2, 67, 0, (1, 0, 0)), (9, 77, 0, (1, 0, 0)), (9, 78, 0, (1, 0, 0)), (3, 0, 0, (1, 0, 0))], [(0, 1, 0), (0, 2, 0), (0, 3, 0), (0, 4, 0), (0, 5, 0), (1, 77, 24)], [(false, 8, 0)], [])]) (by decide +kernel) ⟨yC278_ok hf, yC298_ok hf, yC303_ok hf, yC324o_ok hf, trivial⟩ rfl rfl rfl
/-! runs, whole -/
theorem ytyK {K : List (Nat × yK)} {m : mMem} (hT : yTM yY K yNn m) {p j : Nat} {l h : Int} (hp : p < yNn) (hj : j < (ztg 7 yY p).2.2.1) (hq : zba (ykk K (ztg 7 yY p).2.2.2).1 j = some (1, l, h)) : ∃ x : Int32, yva m p j = some (.int x) ∧ l ≤ x.toInt ∧ x.toInt ≤ h := by
  obtain ⟨v, v1, ⟨q, q1, q2⟩, -⟩ := yva_ex hT hp hj
  rw [hq] at q1
  cases q1
  obtain ⟨x, rfl, x1, x2⟩ := q2
  exact ⟨x, v1, x1, x2⟩
theorem yrcv {m : mMem} {fs : List Value} {pc ix n mi k : Nat} {vs : List Value} (o : m[75]? = some (.inr (11, fs))) : mrecv (pc, .invokevirtual ix, n, 9, mi, k, 11) (.ref 75 :: vs) m = true := by
  unfold mrecv
  simp only [o]
  rfl
def yRn (p j : Nat) : Prop := p ≠ 77 ∧ p ≠ 78 ∧ ¬ (p = 75 ∧ 8 ≤ j ∧ j < 13)
def yRs (f : Nat → Option (Nat × Nat × (Nat → Value))) (a : Nat → Nat → Option Value) (M : mMem) (l s g : Int32) (nc ns : Nat) (res : mRes) : Prop :=
  (∃ x : Int32, res.1 = .inr (some (.int x))) ∧ yTM yY yKk yNn res.2.1 ∧ (∀ t ∈ yP8, yPH (0, 0) [0] res.2.1 t) ∧ res.2.2.1 ≤ nc ∧ res.2.2.2 ≤ ns ∧
  (∀ j, yva res.2.1 78 j = yva M 77 j) ∧ yva res.2.1 75 9 = yva M 75 8 ∧ (∀ p j, yRn p j → yva res.2.1 p j = yva M p j) ∧ ∃ z : Int32, yva res.2.1 77 36 = some (.int z) ∧ yZ f a l s g z
def yRf : List (Nat × Nat × Nat) := [(75, 8, 9), (75, 10, 13), (77, 0, 20), (77, 22, 25), (77, 27, 969)]
theorem yRf_no {p j : Nat} (h : p = 78 ∨ (p = 75 ∧ j = 9) ∨ yRn p j) : ¬ yMi yRf p j ∧ ¬ yDk p j := by
  refine ⟨?_, ?_⟩
  · rintro ⟨w, hw, w1, w2, w3⟩
    unfold yRf at hw
    unfold yRn at h
    simp only [List.mem_cons, List.not_mem_nil, or_false] at hw
    rcases hw with rfl | rfl | rfl | rfl | rfl <;> dsimp only at w1 w2 w3 <;> omega
  · unfold yDk
    unfold yRn at h
    omega
theorem yLA_no {p j : Nat} (h1 : p ≠ 78) (h2 : ¬ (p = 75 ∧ j = 9)) : ¬ yMi [(78, 0, 969), (75, 9, 10)] p j := by
  rintro ⟨w, hw, w1, w2, w3⟩
  simp only [List.mem_cons, List.not_mem_nil, or_false] at hw
  rcases hw with rfl | rfl <;> dsimp only at w1 w2 w3 <;> omega
theorem yR_x {f : Nat → Option (Nat × Nat × (Nat → Value))} (hf : yFf f) {M : mMem} {l s g : Int32} {nc ns : Nat} (hT : yTM yY yKk yNn M) (hA : ∀ t ∈ yALW, yPH (0, 0) [0] M t) (h21 : yva M 75 21 = some (.int 0)) (h30 : yva M 75 30 = some (.int 1)) (hs0 : 0 ≤ s.toInt) (hs8 : s.toInt ≤ 8) :
    ∃ n res, mrun (yEx f) n 56 260 0 (yRa l s g) [] M nc ns = some res ∧ yRs f (yaim M) M l s g nc ns res := by
  have hF : zFok [0, l.toInt, s.toInt, g.toInt] (ykF yC330o.2.1) := ⟨rfl, rfl, fun e he => yRF hs0 hs8 e he, fun e he => (by cases he), fun e he => (by cases he)⟩
  have hs : zlm [0, l.toInt, s.toInt, g.toInt] [.ref 75, .int l, .int s, .int g] (yka yC330o.2.1.1 1) :=
    ⟨rfl, zvm_int rfl (zd_some.mpr ⟨_, rfl, by simp⟩), zvm_int rfl (zd_some.mpr ⟨_, rfl, by simp⟩), zvm_int rfl (zd_some.mpr ⟨_, rfl, by simp⟩), trivial⟩
  have run0 := yC330o_ok hf (0, 0) [0, l.toInt, s.toInt, g.toInt] [.ref 75, .int l, .int s, .int g] M nc ns (fun q hq => by cases hq) hF hs rfl hT (yPH_gs (P := yALW) (by decide) hA)
  obtain ⟨n1, r1, e1, fr1, o, ho, θ', hx, ⟨a1, a2, a3, a4⟩, a5, a6, a7⟩ := run0
  rcases List.mem_singleton.mp ho with rfl
  have alw1 : ∀ t ∈ yP8, yPH (0, 0) [0] r1.2.1 t := yPH_gs (P := yP8) (by decide) a4
  obtain ⟨v, v1, v2⟩ := a7
  obtain ⟨x, rfl, -⟩ := zvm_i v2 rfl
  obtain ⟨fs, o1, -⟩ := yobj75 hT
  have run2 : mGd (yEx f) (fun res => ∃ A nc' ns', yTM yY yKk yNn A ∧ (∀ j, yva A 78 j = yva M 77 j) ∧ yva A 75 9 = yva M 75 8 ∧ yFr [(78, 0, 969), (75, 9, 10)] M A ∧ ∃ P n r, yTM yY yKj yNn P ∧ (∀ p j v, yva P p j = some v → v ≠ .null → ¬ yDk p j ∧ yva A p j = some v) ∧ (∀ p j, ¬ yDk p j → yva P p j = yva A p j) ∧
      mrun (yEx f) n 20 260 4 (yRa l s g) [] P 0 0 = some r ∧ yFr yRf P r.2.1 ∧ yTM yY yKj yNn r.2.1 ∧ pM r.2.1 res.2.1 ∧ ∃ n', mrun (yEx f) n' 20 260 4 (yRa l s g) [] A nc' ns' = some res) 56 260 0 (yRa l s g) [] M nc ns := by
    refine sAload (M := zm_260) (v := 75) rfl rfl rfl ?_
    refine mGd_call (d := 55) (q := (1, .invokevirtual 388, 3, 9, 253, 1, 11)) (M := zm_260) (M' := zm_253) rfl rfl rfl rfl (Nat.le_refl _) (Nat.zero_le _) (by decide) (yrcv o1) ?_
    refine mGd_deep (d := 8) (by omega) (yLA_x hf hT hA ?_)
    intro A nc' ns' hT' hP8 h78 h759 hfr hnc hns
    show mGd (yEx f) _ 56 260 4 (yRa l s g) [] A nc' ns'
    have h21A : yva A 75 21 = some (.int 0) := by rw [hfr 75 21 (yLA_no (by omega) (by omega))]; exact h21
    have h30A : yva A 75 30 = some (.int 1) := by rw [hfr 75 30 (yLA_no (by omega) (by omega))]; exact h30
    obtain ⟨P, n, r, p1, p2, p3, p4, p5, p6⟩ := yR_4 hf hT' hP8 h21A h30A hs0 hs8 (l := l) (g := g)
    obtain ⟨r', q1, q2⟩ := pm_run (yEx f) n 20 260 4 _ [] P 0 0 r A nc' ns' p4 (pM_of p1 hT' (fun p j v h1 h2 => (p2 p j v h1 h2).2))
    refine mGd_deep (d := 20) (by omega) ⟨n, r', q1, A, nc', ns', hT', h78, h759, hfr, P, n, r, p1, p2, p3, p4, p5, p6, q2.2.1, n, q1⟩
  obtain ⟨n2, r2, e2, A, nc', ns', hT', h78, h759, hfr, P, n, r, p1, p2, p3, p4, p5, p6, p7, n', p8⟩ := run2
  have er : r1 = r2 := mrun_det e1 e2
  subst er
  have aimA : ∀ p j, yaim M p j = yva A p j := fun p j => by
    unfold yaim
    by_cases h1 : p = 78
    · rw [if_pos h1, h1]; exact (h78 j).symm
    · rw [if_neg h1]
      by_cases h2 : p = 75 ∧ j = 9
      · rw [if_pos h2, h2.1, h2.2]; exact h759.symm
      · rw [if_neg h2]; exact (hfr p j (yLA_no h1 h2)).symm
  have cell : ∀ p j, ¬ yMi yRf p j ∧ ¬ yDk p j → yva r1.2.1 p j = yva A p j := fun p j hn => by
    cases h : yva A p j with
    | none => exact yva_no hT' a3 h
    | some v => exact p7.va (by rw [p5 p j hn.1, p3 p j hn.2]; exact h) (ynn hT' h)
  obtain ⟨z, z1, -⟩ := ytyK p6 (p := 77) (j := 36) (l := -2147483648) (h := 2147483647) (by decide +kernel) (by decide +kernel) (by decide +kernel)
  refine ⟨n1, r1, e1, ⟨x, v1⟩, a3, alw1, a5, a6, fun j => ?_, ?_, fun p j hn => ?_, z, p7.va z1 (fun h => by cases h), ⟨P, n, r, ⟨p1, fun p j v h1 h2 => ⟨(p2 p j v h1 h2).1, by rw [aimA]; exact (p2 p j v h1 h2).2⟩⟩, p4, z1⟩, ?_⟩
  · rw [cell 78 j (yRf_no (Or.inl rfl))]; exact h78 j
  · rw [cell 75 9 (yRf_no (Or.inr (Or.inl ⟨rfl, rfl⟩)))]; exact h759
  · rw [cell p j (yRf_no (Or.inr (Or.inr hn)))]
    exact hfr p j (yLA_no hn.2.1 (by have := hn.2.2; omega))
  · intro P' n'' r'' z' hP' hrun hz'
    obtain ⟨r3, s1, s2⟩ := pm_run (yEx f) n'' 20 260 4 _ [] P' 0 0 r'' A nc' ns' hrun (pM_of hP'.1 hT' (fun p j v h1 h2 => by rw [← aimA]; exact (hP'.2 p j v h1 h2).2))
    have er := mrun_det s1 p8
    subst er
    have h1 := p7.va z1 (fun h => by cases h)
    have h2 := s2.2.1.va hz' (fun h => by cases h)
    rw [h1] at h2
    cases h2
    rfl
