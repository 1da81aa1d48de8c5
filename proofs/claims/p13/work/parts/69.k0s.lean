/-! set: the settings are told, one by one -/
def yVst : yTl := [([(2, 0), (77, 20)], (-2147483648), 2147483647), ([(2, 1), (77, 21)], (-2147483648), 2147483647), ([(2, 2), (77, 22)], (-2147483648), 2147483647), ([(2, 3), (77, 23)], (-2147483648), 2147483647), ([(2, 4), (77, 24)], (-2147483648), 2147483647), ([(2, 5), (77, 25)], (-2147483648), 2147483647), ([(2, 6), (77, 26)], (-2147483648), 2147483647)]
def yS3 : yTl := [([(75, 21)], 0, 0), ([(1, 14), (75, 5)], 1, 8), ([(1, 15), (75, 6)], 1, 7), ([(1, 16), (75, 7)], 1, 8), ([(2, 0), (77, 20)], (-2147483648), 2147483647), ([(2, 1), (77, 21)], (-2147483648), 2147483647), ([(2, 2), (77, 22)], (-2147483648), 2147483647), ([(2, 3), (77, 23)], (-2147483648), 2147483647), ([(2, 4), (77, 24)], (-2147483648), 2147483647), ([(2, 5), (77, 25)], (-2147483648), 2147483647), ([(2, 6), (77, 26)], (-2147483648), 2147483647)]
def yE3f : List yE := [(75, (1, 0, 21), (1, 3, 0), 0), (1, (1, 0, 14), (1, 4, 0), 0), (75, (1, 0, 5), (1, 4, 0), 0), (1, (1, 0, 15), (1, 5, 0), 0), (75, (1, 0, 6), (1, 5, 0), 0), (1, (1, 0, 16), (1, 6, 0), 0), (75, (1, 0, 7), (1, 6, 0), 0), (2, (1, 0, 0), (1, 7, 0), 0), (77, (1, 0, 20), (1, 7, 0), 0), (2, (1, 0, 1), (1, 8, 0), 0), (77, (1, 0, 21), (1, 8, 0), 0), (2, (1, 0, 2), (1, 9, 0), 0), (77, (1, 0, 22), (1, 9, 0), 0), (2, (1, 0, 3), (1, 10, 0), 0), (77, (1, 0, 23), (1, 10, 0), 0), (2, (1, 0, 4), (1, 11, 0), 0), (77, (1, 0, 24), (1, 11, 0), 0), (2, (1, 0, 5), (1, 12, 0), 0), (77, (1, 0, 25), (1, 12, 0), 0), (2, (1, 0, 6), (1, 13, 0), 0), (77, (1, 0, 26), (1, 13, 0), 0)]
def yF3k : zF := (14, [(1, 0, 3072), (2, 0, 3072), (3, 0, 0), (4, 1, 8), (5, 1, 7), (6, 1, 8), (7, (-2147483648), 2147483647), (8, (-2147483648), 2147483647), (9, (-2147483648), 2147483647), (10, (-2147483648), 2147483647), (11, (-2147483648), 2147483647), (12, (-2147483648), 2147483647), (13, (-2147483648), 2147483647)], [(1, 2, 6)], [])
def yR3 : List ySr := [(1, 75, 21), (1, 1, 14), (1, 1, 15), (1, 1, 16), (1, 2, 0), (1, 2, 1), (1, 2, 2), (1, 2, 3), (1, 2, 4), (1, 2, 5), (1, 2, 6)]
theorem yE3_eq : yE3f = yTlE yS3 3 := rfl
theorem yF3k_eq : yF3k = yTlF yS3 [(1, 2, 6)] := rfl
theorem yS3_g : yTlG yS3 = true := by decide
theorem yS3_app : yS3 = yS0 ++ yVst := rfl
def yALU : yP := (19, 77, 0, (1, 0, 0)) :: yALW
theorem yALU_g : yALU.all ygfr = true := by decide
theorem yALU_of {m : mMem} (h : ∀ t ∈ yALS, yPH (0, 0) [0] m t) : ∀ t ∈ yALU, yPH (0, 0) [0] m t := fun t ht => h t (List.mem_cons_of_mem _ ht)
theorem yALS_o8 {m : mMem} (h : ∀ t ∈ yALU, yPH (0, 0) [0] m t) (h9 : yPH (0, 0) [0] m (18, 77, 0, (1, 0, 0))) : ∀ t ∈ yALS, yPH (0, 0) [0] m t := fun t ht => by
  rcases List.mem_cons.mp ht with rfl | ht
  · exact h9
  · exact h t ht
theorem yVst_of {m : mMem} (hT : yTM yY yKk yNn m) (h : ∀ g : Nat, g < 7 → yva m 77 (20 + g) = yva m 2 g) : yTlR yVst m := by
  have n2 : (ztg 7 yY 2).2.2.1 = 7 := by decide +kernel
  have key : ∀ g : Nat, g < 7 → ∃ y : Int32, (∀ q ∈ [(2, g), (77, 20 + g)], yva m q.1 q.2 = some (.int y)) ∧ -2147483648 ≤ y.toInt ∧ y.toInt ≤ 2147483647 := fun g hg => by
    have hb : ∀ j, j < 7 → (match zba (ykk yKk (ztg 7 yY 2).2.2.2).1 j with | some q => Nat.beq q.1 1 | none => false) = true := by decide +kernel
    obtain ⟨v, v1, ⟨q, q1, q2⟩, -⟩ := yva_ex (p := 2) (j := g) hT (by decide) (by omega)
    have h9 := hb g hg
    rw [q1] at h9
    have h9 : Nat.beq q.1 1 = true := h9
    rw [zbe.mp h9] at q2
    obtain ⟨y, rfl, -⟩ := q2
    refine ⟨y, fun q hq => ?_, (yi32 y).1, (yi32 y).2⟩
    simp only [List.mem_cons, List.not_mem_nil, or_false] at hq
    rcases hq with rfl | rfl
    · exact v1
    · exact (h g hg).trans v1
  intro c hc
  unfold yVst at hc
  simp only [List.mem_cons, List.not_mem_nil, or_false] at hc
  rcases hc with rfl | rfl | rfl | rfl | rfl | rfl | rfl
  · exact key 0 (by omega)
  · exact key 1 (by omega)
  · exact key 2 (by omega)
  · exact key 3 (by omega)
  · exact key 4 (by omega)
  · exact key 5 (by omega)
  · exact key 6 (by omega)
theorem yVst_to {m : mMem} (h : yTlR yVst m) : yPH (0, 0) [0] m (18, 77, 0, (1, 0, 0)) := by
  have key : ∀ (g : Nat) (l u : Int), ([(2, g), (77, 20 + g)], l, u) ∈ yVst → yva m 77 (20 + g) = yva m 2 g := fun g l u hm => by
    obtain ⟨y, y1, -⟩ := h _ hm
    rw [y1 (77, 20 + g) (by simp), y1 (2, g) (by simp)]
  intro g hg
  have : g = 0 ∨ g = 1 ∨ g = 2 ∨ g = 3 ∨ g = 4 ∨ g = 5 ∨ g = 6 := by omega
  rcases this with rfl | rfl | rfl | rfl | rfl | rfl | rfl
  · exact key 0 (-2147483648) 2147483647 (by decide)
  · exact key 1 (-2147483648) 2147483647 (by decide)
  · exact key 2 (-2147483648) 2147483647 (by decide)
  · exact key 3 (-2147483648) 2147483647 (by decide)
  · exact key 4 (-2147483648) 2147483647 (by decide)
  · exact key 5 (-2147483648) 2147483647 (by decide)
  · exact key 6 (-2147483648) 2147483647 (by decide)
/-- set: the settings told one by one -/
def yLcv (T : List yKq) (ht : List (Nat × Nat × yHt)) (il : List Nat) (pc : Nat) : Bool := match yGrn T ht il (fun _ p => Nat.beq p 23) pc yF3k yE3f yALU with
  | some L => L.all fun o => match o with
    | .inr s => Nat.beq s.1 23 && yGar yE3f yALU yF3k yR3 6 1 s
    | .inl _ => false
  | none => false
theorem yLV_of {f : Nat → Option (Nat × Nat × (Nat → Value))} (hf : yFf f) {L : Nat} (hL : yFL f L) {T : List yKq} (hT : yAl9 f yKk T) {ht : List (Nat × Nat × yHt)} {il : List Nat} {pc : Nat} (h : yLcv T ht il pc = true) : yLKs f L pc := by
  intro i hi0 hi1 hi6 ls m nc ns P hI k
  unfold yLcv at h
  rw [yF3k_eq, yE3_eq] at h
  obtain ⟨i0, i1, i2, i3, i4, i6, i7, i8⟩ := hI
  have h18 : ∀ g : Nat, g < 7 → yva m 77 (20 + g) = yva m 2 g := i7 (18, 77, 0, (1, 0, 0)) List.mem_cons_self
  have hI1 : yGI yS3 yALU i ls m := ⟨i0, i1, i2, i3, i4, i6, yALU_of i7, by rw [yS3_app]; exact yTlR_app.mpr ⟨i8, yVst_of i6 h18⟩⟩
  split at h
  · rename_i Lo e
    rw [List.all_eq_true] at h
    refine yGrn_ok hf hL hT yS3_g yALU_g e hi0 hi1 (yD6 hi6) hI1 (fun o ho => absurd (h _ ho) (by simp)) (fun s hs r' m1 ls' st' m' nc' ns' hx hok hl hst hnc hns => ?_)
    have := h _ hs
    simp only [Bool.and_eq_true] at this
    obtain ⟨a1, a2⟩ := this
    obtain ⟨b1, b2, b3, -⟩ := yGar_ok yALU_g yS3_g a2 hx hok hl hst
    subst b1
    rw [zbe.mp a1]
    obtain ⟨j0, j1, j2, j3, j4, j6, j7, j8⟩ := b3
    rw [yS3_app] at j8
    obtain ⟨j8, j9⟩ := yTlR_app.mp j8
    exact k ls' m' nc' ns' ⟨j0, j1, j2, j3, j4, j6, yALS_o8 j7 (yVst_to j9), j8⟩ (by omega) (by omega)
  · cases h
theorem yLk_7 {f : Nat → Option (Nat × Nat × (Nat → Value))} (hf : yFf f) {L : Nat} (hL : yFL f L) : yLKs f L 490 := yLV_of hf hL (T := [yC34]) (ht := [(127, 0, 1, 1, 0, [0, 1, 2, 3, 4, 5, 6, 7]), (127, 18, 1, 100, 0, [1, 2, 3, 4, 5, 6]), (228, 0, 1, 1, 0, [3, 4, 5, 6, 7]), (228, 112, 1, 100, 0, [1, 2])]) (il := [275, 127, 112, 8, 155, 228, 162, 163, 181]) ⟨yC34_ok hf, trivial⟩ (by decide +kernel)
