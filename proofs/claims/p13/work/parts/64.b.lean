/-! laysAside, laysBack: to the letter -/
def yP8 : yP := [(6, 77, 0, (1, 0, 0)), (6, 78, 0, (1, 0, 0)), (2, 34, 0, (1, 0, 0)), (2, 4, 0, (1, 0, 0)), (2, 67, 0, (1, 0, 0)), (9, 77, 0, (1, 0, 0)), (9, 78, 0, (1, 0, 0)), (3, 0, 0, (1, 0, 0))]
def yPb : yP := [(6, 78, 0, (1, 0, 0)), (9, 78, 0, (1, 0, 0)), (2, 34, 0, (1, 0, 0)), (2, 4, 0, (1, 0, 0)), (2, 67, 0, (1, 0, 0)), (3, 0, 0, (1, 0, 0))]
def yLA : yKq := (253, ([(2, 75, 0, 0)], [], yALW, [(78, 0, 969)], [], 1, 8), [], [])
def yLB : yKq := (254, ([(2, 75, 0, 0)], [], yPb, [(77, 0, 969)], [], 1, 8), [], [])
def yLA2 : yTp := (2, yfL, (2, [(1, 0, 969)], [], []), [], (7, 78, 77, (1, 1, 0)) :: yALW, [(0, 1, 0)], [(true, 1, 0)], [])
def yLA27 : yTp := (27, yfL, (2, [(1, 969, 969)], [], []), [], (7, 78, 77, (1, 1, 0)) :: yP8, [(0, 1, 0)], [], [])
def yLB2 : yTp := (2, yfL, (2, [(1, 0, 969)], [], []), [], (7, 77, 78, (1, 1, 0)) :: yPb, [(0, 1, 0)], [(true, 1, 0)], [])
def yLB27 : yTp := (27, yfL, (2, [(1, 969, 969)], [], []), [], (7, 77, 78, (1, 1, 0)) :: yP8, [(0, 1, 0)], [], [])
theorem yLA_S : yckcS yKk [] [(253, 0, 11, 78, 77, [])] [] (yst [2, 27]) zm_253 yLA [] [yLA2] [yLA27] = true := by decide +kernel
theorem yLA_L : yckcL yKk [] [(253, 0, 11, 78, 77, [])] [] (yst [2, 27]) zm_253 yLA [] [yLA2] [yLA27] = true := by decide +kernel
theorem yLB_S : yckcS yKk [] [(254, 0, 11, 77, 78, [])] [] (yst [2, 27]) zm_254 yLB [] [yLB2] [yLB27] = true := by decide +kernel
theorem yLB_L : yckcL yKk [] [(254, 0, 11, 77, 78, [])] [] (yst [2, 27]) zm_254 yLB [] [yLB2] [yLB27] = true := by decide +kernel
theorem ytyL {K : List (Nat × yK)} {m : mMem} (hT : yTM yY K yNn m) {p j : Nat} {l h : Int} (hp : p < yNn) (hj : j < (ztg 7 yY p).2.2.1) (hq : zba (ykk K (ztg 7 yY p).2.2.2).1 j = some (4, l, h)) : ∃ x : Int64, yva m p j = some (.long x) := by
  obtain ⟨v, v1, ⟨q, q1, q2⟩, -⟩ := yva_ex hT hp hj
  rw [hq] at q1
  cases q1
  obtain ⟨x, rfl⟩ := q2
  exact ⟨x, v1⟩
theorem yq0 {P : yP} {gh : yGh} {r : List Int} {m m' : mMem} {mods : List (Nat × Nat × Nat)} (h : (P.all fun t => yfd t mods) = true) (hf : yFr mods m m') (hp : ∀ t ∈ P, yPH gh r m t) : ∀ t ∈ P, yPH gh r m' t := fun t ht => yfd_ok (List.all_eq_true.mp h t ht) hf (hp t ht)
theorem yFr1 {p a b q j : Nat} {m m' : mMem} (h : yFr [(p, a, b)] m m') (hn : q ≠ p ∨ j < a ∨ b ≤ j) : yva m' q j = yva m q j := by
  refine h q j ?_
  rintro ⟨w, hw, w1, w2, w3⟩
  rcases List.mem_singleton.mp hw with rfl
  dsimp only at w1 w2 w3
  rcases hn with hn | hn | hn
  · exact hn w1.symm
  · omega
  · omega
theorem ywr.at {m m' : mMem} {p k : Nat} {v : Value} (h : ywr m p k v m') : yva m' p k = some v := by rw [h p k, if_pos ⟨rfl, rfl⟩]
theorem ywr.ne {m m' : mMem} {p k q j : Nat} {v : Value} (h : ywr m p k v m') (hn : q ≠ p ∨ j ≠ k) : yva m' q j = yva m q j := by
  rw [h q j, if_neg]
  rintro ⟨rfl, rfl⟩
  rcases hn with hn | hn <;> exact hn rfl
theorem mfitL {x : Int64} : mfit .long (.long x) = true := by
  unfold mfit
  rw [Bool.and_eq_true]
  exact ⟨decide_eq_true rfl, rfl⟩
theorem yLA_x {f : Nat → Option (Nat × Nat × (Nat → Value))} (hf : yFf f) {P : mRes → Prop} {M : mMem} {nc ns : Nat} (hT : yTM yY yKk yNn M) (hA : ∀ t ∈ yALW, yPH (0, 0) [0] M t)
    (h : ∀ M' nc' ns', yTM yY yKk yNn M' → (∀ t ∈ yP8, yPH (0, 0) [0] M' t) → (∀ j, yva M' 78 j = yva M 77 j) → yva M' 75 9 = yva M 75 8 → yFr [(78, 0, 969), (75, 9, 10)] M M' → nc' ≤ nc → ns' ≤ ns → P (.inr none, M', nc', ns')) :
    mGd (yEx f) P 8 253 0 (lv_args 0 [.ref 75]) [] M nc ns := by
  refine (yckcY_ok hf (0, 0) (K := yKk) (T := []) (c := yLA) trivial (M := zm_253) rfl rfl rfl yLA_L (θ0 := [0]) (vs := [.ref 75]) (Pf := P) (fun q hq => by cases hq) ⟨rfl, rfl, fun e he => (by cases he), fun e he => (by cases he), fun e he => (by cases he)⟩ (fun res hp => by obtain ⟨-, o, ho, -⟩ := hp; cases ho) (fun T hTm θ ls mem nc' ns' ha => ?_)).2 yLA_S ⟨rfl, trivial⟩ rfl hT hA
  rcases List.mem_singleton.mp hTm with rfl
  obtain ⟨g1, g2, g3, g4, g5, g6, g7, g8, g9, g10⟩ := ha
  obtain ⟨v0, l0, l1⟩ := g3 0 (2, 75, 0) rfl
  rcases (show v0 = .ref 75 from l1) with rfl
  obtain ⟨fs, o1, o2⟩ := yobj75 g5
  obtain ⟨x, x1⟩ := ytyL g5 (p := 75) (j := 8) (l := 0) (h := 0) (by decide +kernel) (by decide +kernel) (by decide +kernel)
  have x2 : fs[8]? = some (.long x) := by rw [← y75get o1]; exact x1
  obtain ⟨p1, p2⟩ := yput (v := .long x) (k := 9) g5 o1 o2 (by omega) ⟨⟨(4, 0, 0), by decide +kernel, x, rfl⟩, fun p hp => by cases hp⟩
  refine sAload (M := zm_253) rfl rfl l0 ?_
  refine sAload (M := zm_253) rfl rfl l0 ?_
  refine sGet (M := zm_253) rfl rfl o1 x2 rfl ?_
  refine sPut (M := zm_253) rfl rfl o1 (ty := .long) rfl mfitL rfl (by omega) ?_
  refine sRet (M := zm_253) rfl rfl rfl ?_
  have g8' : yFr [(78, 0, 969)] M mem := g8
  obtain ⟨i, i1, i2⟩ : ∃ i, zd θ (1, 1, 0) = some i ∧ ∀ j : Nat, (j : Int) < i → yva mem 78 j = yva mem 77 j := g6 _ List.mem_cons_self
  have i3 : i = 969 := by
    obtain ⟨v, v1, v2, v3⟩ := g2.2.2.1 (1, 969, 969) (List.mem_cons_self)
    obtain ⟨w, w1, w2⟩ := zd_some.mp i1
    dsimp only at v1 v2 v3 w1 w2
    rw [v1] at w1
    cases w1
    omega
  refine h _ _ _ p1 (yPH_gs (by decide) (yq0 (P := yP8) (by decide) p2.fr (fun t ht => g6 t (List.mem_cons_of_mem _ ht)))) (fun j => ?_) ?_ ?_ g9 g10
  · rw [p2.ne (Or.inl (by omega))]
    by_cases hj : j < 969
    · rw [i2 j (by omega)]
      exact yFr1 g8' (Or.inl (by omega))
    · rw [yva_ge g5 (by show 969 ≤ j; omega), yva_ge hT (by show 969 ≤ j; omega)]
  · rw [p2.at, ← x1]
    exact yFr1 g8' (Or.inl (by omega))
  · intro q j hn
    rw [p2.ne, g8' q j]
    · rintro ⟨w, hw, w1⟩
      exact hn ⟨w, List.mem_cons.mpr (Or.inl (List.mem_singleton.mp hw)), w1⟩
    · by_cases hq : q = 75
      · right
        intro hj
        exact hn ⟨(75, 9, 10), by simp, hq.symm, by dsimp only; omega, by dsimp only; omega⟩
      · exact Or.inl hq
theorem yLB_x {f : Nat → Option (Nat × Nat × (Nat → Value))} (hf : yFf f) {P : mRes → Prop} {M : mMem} {nc ns : Nat} (hT : yTM yY yKk yNn M) (hA : ∀ t ∈ yPb, yPH (0, 0) [0] M t)
    (h : ∀ M' nc' ns', yTM yY yKk yNn M' → (∀ t ∈ yP8, yPH (0, 0) [0] M' t) → (∀ j, yva M' 77 j = yva M 78 j) → yva M' 75 8 = yva M 75 9 → yFr [(77, 0, 969), (75, 8, 9)] M M' → nc' ≤ nc → ns' ≤ ns → P (.inr none, M', nc', ns')) :
    mGd (yEx f) P 8 254 0 (lv_args 0 [.ref 75]) [] M nc ns := by
  refine (yckcY_ok hf (0, 0) (K := yKk) (T := []) (c := yLB) trivial (M := zm_254) rfl rfl rfl yLB_L (θ0 := [0]) (vs := [.ref 75]) (Pf := P) (fun q hq => by cases hq) ⟨rfl, rfl, fun e he => (by cases he), fun e he => (by cases he), fun e he => (by cases he)⟩ (fun res hp => by obtain ⟨-, o, ho, -⟩ := hp; cases ho) (fun T hTm θ ls mem nc' ns' ha => ?_)).2 yLB_S ⟨rfl, trivial⟩ rfl hT hA
  rcases List.mem_singleton.mp hTm with rfl
  obtain ⟨g1, g2, g3, g4, g5, g6, g7, g8, g9, g10⟩ := ha
  obtain ⟨v0, l0, l1⟩ := g3 0 (2, 75, 0) rfl
  rcases (show v0 = .ref 75 from l1) with rfl
  obtain ⟨fs, o1, o2⟩ := yobj75 g5
  obtain ⟨x, x1⟩ := ytyL g5 (p := 75) (j := 9) (l := 0) (h := 0) (by decide +kernel) (by decide +kernel) (by decide +kernel)
  have x2 : fs[9]? = some (.long x) := by rw [← y75get o1]; exact x1
  obtain ⟨p1, p2⟩ := yput (v := .long x) (k := 8) g5 o1 o2 (by omega) ⟨⟨(4, 0, 0), by decide +kernel, x, rfl⟩, fun p hp => by cases hp⟩
  refine sAload (M := zm_254) rfl rfl l0 ?_
  refine sAload (M := zm_254) rfl rfl l0 ?_
  refine sGet (M := zm_254) rfl rfl o1 x2 rfl ?_
  refine sPut (M := zm_254) rfl rfl o1 (ty := .long) rfl mfitL rfl (by omega) ?_
  refine sRet (M := zm_254) rfl rfl rfl ?_
  have g8' : yFr [(77, 0, 969)] M mem := g8
  obtain ⟨i, i1, i2⟩ : ∃ i, zd θ (1, 1, 0) = some i ∧ ∀ j : Nat, (j : Int) < i → yva mem 77 j = yva mem 78 j := g6 _ List.mem_cons_self
  have i3 : i = 969 := by
    obtain ⟨v, v1, v2, v3⟩ := g2.2.2.1 (1, 969, 969) (List.mem_cons_self)
    obtain ⟨w, w1, w2⟩ := zd_some.mp i1
    dsimp only at v1 v2 v3 w1 w2
    rw [v1] at w1
    cases w1
    omega
  refine h _ _ _ p1 (yPH_gs (by decide) (yq0 (P := yP8) (by decide) p2.fr (fun t ht => g6 t (List.mem_cons_of_mem _ ht)))) (fun j => ?_) ?_ ?_ g9 g10
  · rw [p2.ne (Or.inl (by omega))]
    by_cases hj : j < 969
    · rw [i2 j (by omega)]
      exact yFr1 g8' (Or.inl (by omega))
    · rw [yva_ge g5 (by show 969 ≤ j; omega), yva_ge hT (by show 969 ≤ j; omega)]
  · rw [p2.at, ← x1]
    exact yFr1 g8' (Or.inl (by omega))
  · intro q j hn
    rw [p2.ne, g8' q j]
    · rintro ⟨w, hw, w1⟩
      exact hn ⟨w, List.mem_cons.mpr (Or.inl (List.mem_singleton.mp hw)), w1⟩
    · by_cases hq : q = 75
      · right
        intro hj
        exact hn ⟨(75, 8, 9), by simp, hq.symm, by dsimp only; omega, by dsimp only; omega⟩
      · exact Or.inl hq
