/-! FLUSHES -/
def yQ286 : List (yU × List ySr) := [((1, (1, 1, 0), (2, [(1, 0, 0)], [], []), [], [(18, 77, 0, (1, 0, 0)), (19, 77, 0, (1, 0, 0)), (18, 79, 0, (1, 0, 0)), (19, 79, 0, (1, 0, 0)), (6, 77, 0, (1, 0, 0)), (6, 79, 0, (1, 0, 0)), (2, 34, 0, (1, 0, 0)), (2, 4, 0, (1, 0, 0)), (2, 67, 0, (1, 0, 0)), (9, 77, 0, (1, 0, 0)), (9, 79, 0, (1, 0, 0)), (3, 0, 0, (1, 0, 0))], 0), [(3, 0, 0)]), ((1, (1, 1, 0), (2, [(1, 1, 1)], [], []), [], [(18, 77, 0, (1, 0, 0)), (19, 77, 0, (1, 0, 0)), (18, 79, 0, (1, 0, 0)), (19, 79, 0, (1, 0, 0)), (6, 77, 0, (1, 0, 0)), (6, 79, 0, (1, 0, 0)), (2, 34, 0, (1, 0, 0)), (2, 4, 0, (1, 0, 0)), (2, 67, 0, (1, 0, 0)), (9, 77, 0, (1, 0, 0)), (9, 79, 0, (1, 0, 0)), (3, 0, 0, (1, 0, 0))], 0), [(3, 0, 0)])]
def yC286 : yKq := (202, ([(2, 75, 0, 0)], [], [(18, 77, 0, (1, 0, 0)), (19, 77, 0, (1, 0, 0)), (6, 77, 0, (1, 0, 0)), (2, 34, 0, (1, 0, 0)), (2, 4, 0, (1, 0, 0)), (2, 67, 0, (1, 0, 0)), (9, 77, 0, (1, 0, 0)), (3, 0, 0, (1, 0, 0))], [(77, 0, 969), (79, 0, 969)], [(1, (1, 1, 0), (2, [(1, 0, 0)], [], []), [], [(18, 77, 0, (1, 0, 0)), (19, 77, 0, (1, 0, 0)), (18, 79, 0, (1, 0, 0)), (19, 79, 0, (1, 0, 0)), (6, 77, 0, (1, 0, 0)), (6, 79, 0, (1, 0, 0)), (2, 34, 0, (1, 0, 0)), (2, 4, 0, (1, 0, 0)), (2, 67, 0, (1, 0, 0)), (9, 77, 0, (1, 0, 0)), (9, 79, 0, (1, 0, 0)), (3, 0, 0, (1, 0, 0))], 0), (1, (1, 1, 0), (2, [(1, 1, 1)], [], []), [], [(18, 77, 0, (1, 0, 0)), (19, 77, 0, (1, 0, 0)), (18, 79, 0, (1, 0, 0)), (19, 79, 0, (1, 0, 0)), (6, 77, 0, (1, 0, 0)), (6, 79, 0, (1, 0, 0)), (2, 34, 0, (1, 0, 0)), (2, 4, 0, (1, 0, 0)), (2, 67, 0, (1, 0, 0)), (9, 77, 0, (1, 0, 0)), (9, 79, 0, (1, 0, 0)), (3, 0, 0, (1, 0, 0))], 0)], 1, 16), [], [])
def yfP : yP := [(18, 77, 0, (1, 0, 0)), (19, 77, 0, (1, 0, 0)), (18, 79, 0, (1, 0, 0)), (19, 79, 0, (1, 0, 0)), (6, 77, 0, (1, 0, 0)), (6, 79, 0, (1, 0, 0)), (2, 34, 0, (1, 0, 0)), (2, 4, 0, (1, 0, 0)), (2, 67, 0, (1, 0, 0)), (9, 77, 0, (1, 0, 0)), (9, 79, 0, (1, 0, 0)), (3, 0, 0, (1, 0, 0))]
def yfL : zL := [(0, (2, 75, 0)), (1, (1, 1, 0))]
def yfTA : yTp := (2, yfL, (2, [(1, 0, 969)], [], []), [], (7, 79, 77, (1, 1, 0)) :: (18, 77, 0, (1, 0, 0)) :: (19, 77, 0, (1, 0, 0)) :: yALW, [(0, 1, 0)], [(false, 0, 1), (true, 1, 0)], [])
def yfT0 : yTp := (29, yfL, (2, [(1, 1, 1)], [], []), [], yfP, [(0, 1, 0)], [(false, 0, 0), (false, 0, 0)], [])
def yfT1 (k : Nat) (P : yP) : yTp := (29, yfL, (3, [(1, 0, 1), (2, 0, 0)], [], []), [(77, (1, 0, 4), (1, 2, 0), 0)], P, [(0, 1, 0), (1, 77, 4)], [(false, 0, .ofNat k), (false, 0, 0)], [])
def yfTH : yTp := (29, yfL, (2, [(1, 0, 0)], [], []), [], yfP, [(0, 1, 0)], [(false, 0, 1), (false, 0, 0)], [])
def yfTE : yTp := (73, [(0, (2, 75, 0)), (1, (1, 1, 0)), (2, (1, 2, 0))], (4, [(1, 0, 0), (2, 0, 969), (3, (-2147483648), 2147483647)], [(1, 2, 0)], []), [(77, (1, 0, 0), (1, 3, 0), 0)], [(7, 77, 79, (1, 2, 0)), (18, 79, 0, (1, 0, 0)), (19, 79, 0, (1, 0, 0)), (6, 79, 0, (1, 0, 0)), (2, 34, 0, (1, 0, 0)), (2, 4, 0, (1, 0, 0)), (2, 67, 0, (1, 0, 0)), (9, 79, 0, (1, 0, 0)), (3, 0, 0, (1, 0, 0))], [(0, 1, 0), (0, 2, 0), (1, 77, 0)], [(false, 0, 0), (true, 2, 0)], [])
def yfH : List (Nat × Nat × yHt) := [(202, 0, 11, 79, 77, []), (202, 71, 11, 77, 79, [])]
theorem yfl1 : yckcS yKk [yC283, yC284, yC285] yfH [] (yst [2, 29, 73]) zm_202 yC286 yQ286 [yfTA, yfT0] [yfT1 0 yfP] = true := by decide +kernel
theorem yfl1L : yckcL yKk [yC283, yC284, yC285] yfH [] (yst [2, 29, 73]) zm_202 yC286 yQ286 [yfTA, yfT0] [yfT1 0 yfP] = true := by decide +kernel
theorem yfl2L : yckcL yKk [yCO, yCR, yCR0, yC348, yC285] yfH [] (yst [2, 29, 73]) zm_202 yC286 yQ286 [yfT1 2 ((16, 0, 0, (1, 0, 0)) :: yfP), yfTH, yfTE] [yfT1 0 ((16, 1, 0, (1, 0, 0)) :: yfP)] = true := by decide +kernel
theorem yPf_g {f : Nat → Option (Nat × Nat × (Nat → Value))} {gh gh' : yGh} {θ : List Int} {mem : mMem} {nc ns : Nat} {res : mRes} (h : yPf (yEx f) yY yKk yNn (yPH gh) yC286.2.1 θ mem nc ns res) : yPf (yEx f) yY yKk yNn (yPH gh') yC286.2.1 θ mem nc ns res := by
  obtain ⟨h1, o, ho, θ', hx, ⟨a1, a2, a3, a4⟩, a5, a6, a7⟩ := h
  refine ⟨h1, o, ho, θ', hx, ⟨a1, a2, a3, yPH_gs ?_ a4⟩, a5, a6, a7⟩
  rcases List.mem_cons.mp ho with rfl | ho
  · decide
  · rcases List.mem_singleton.mp ho with rfl
    decide
theorem mGd.g {f : Nat → Option (Nat × Nat × (Nat → Value))} {gh gh' : yGh} {θ : List Int} {mem : mMem} {nc ns d mi pc : Nat} {ls : mLs} {st : List Value} {mem' : mMem} {nc' ns' : Nat} (h : mGd (yEx f) (yPf (yEx f) yY yKk yNn (yPH gh) yC286.2.1 θ mem nc ns) d mi pc ls st mem' nc' ns') : mGd (yEx f) (yPf (yEx f) yY yKk yNn (yPH gh') yC286.2.1 θ mem nc ns) d mi pc ls st mem' nc' ns' := by
  obtain ⟨n, res, run, hp⟩ := h
  exact ⟨n, res, run, yPf_g hp⟩
theorem yC286_ok {f : Nat → Option (Nat × Nat × (Nat → Value))} (hf : yFf f) : yA f yKk yC286 := by
  intro gh θ vs mem nc ns hQ hF hs hc hT hP
  have G : ∀ N : Nat, ∀ θ' ls mem' nc' ns', yAt (yEx f) yY yKk yNn (yPH (N, 0)) yC286.2.1 θ mem nc ns (yfT1 2 ((16, 0, 0, (1, 0, 0)) :: yfP)) θ' ls mem' nc' ns' → mGd (yEx f) (yPf (yEx f) yY yKk yNn (yPH (N, 0)) yC286.2.1 θ mem nc ns) 16 202 29 ls [] mem' nc' ns' := by
    intro N
    induction N with
    | zero =>
      exact (yckcX_ok hf (0, 0) (T := [yCO, yCR, yCR0, yC348, yC285]) ⟨yCO_ok hf, yCR_ok hf, yCR0_ok hf, yC348_ok hf, yC285_ok hf, trivial⟩ (M := zm_202) rfl rfl rfl (vs := vs) yfl2L hQ hF (fun T hT' θ1 ls mem' nc' ns' ha => by
        rcases List.mem_singleton.mp hT' with rfl
        obtain ⟨-, -, -, -, -, g, -⟩ := ha
        have h9 : ysc mem' + 1 ≤ 0 := g _ List.mem_cons_self
        omega)).1 _ List.mem_cons_self
    | succ N ih =>
      exact (yckcX_ok hf (N + 1, 0) (T := [yCO, yCR, yCR0, yC348, yC285]) ⟨yCO_ok hf, yCR_ok hf, yCR0_ok hf, yC348_ok hf, yC285_ok hf, trivial⟩ (M := zm_202) rfl rfl rfl (vs := vs) yfl2L hQ hF (fun T hT' θ1 ls mem' nc' ns' ha => by
        rcases List.mem_singleton.mp hT' with rfl
        obtain ⟨g1, g2, g3, g4, g5, g, g7⟩ := ha
        have h9 : ysc mem' + 1 ≤ N + 1 := g _ List.mem_cons_self
        refine (ih θ1 ls mem' nc' ns' ⟨g1, g2, g3, g4, g5, fun t ht => ?_, g7⟩).g
        rcases List.mem_cons.mp ht with rfl | ht
        · show ysc mem' + 0 ≤ N
          omega
        · exact yPH_gs (P := yfP) (by decide) (fun t ht => g t (List.mem_cons_of_mem _ ht)) t ht)).1 _ List.mem_cons_self
  have hgd := (yckcX_ok hf gh (T := [yC283, yC284, yC285]) ⟨yC283_ok hf, yC284_ok hf, yC285_ok hf, trivial⟩ (M := zm_202) rfl rfl rfl (vs := vs) (mem := mem) (nc := nc) (ns := ns) yfl1L hQ hF (fun T hT' θ1 ls mem' nc' ns' ha => by
    rcases List.mem_singleton.mp hT' with rfl
    obtain ⟨g1, g2, g3, g4, g5, g, g7⟩ := ha
    refine (G 64 θ1 ls mem' nc' ns' ⟨g1, g2, g3, g4, g5, fun t ht => ?_, g7⟩).g
    rcases List.mem_cons.mp ht with rfl | ht
    · show ysc mem' + 0 ≤ 64
      have := ysc_64 mem'
      omega
    · exact yPH_gs (P := yfP) (by decide) g t ht)).2 yfl1 hs hc hT hP
  obtain ⟨n, res, run, hp⟩ := hgd
  exact ⟨n, res, run, hp.1, hp.2⟩
