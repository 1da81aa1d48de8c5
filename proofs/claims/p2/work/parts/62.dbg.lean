/-- NearFar$Text.wordOf -/
def yR43 : List (yU × List ySr) := [((1, (1, 3, 0), (4, [(3, (-2147483648), 2147483647)], [], []), [], [], 0), [(3, 0, 0)])]
def yD43 : Nat × yKt := (52, [(2, 61, 0, 0), (1, 0, 0, 199), (1, 0, 1, 200)], [], [], [], [(1, (1, 3, 0), (4, [(3, (-2147483648), 2147483647)], [], []), [], [], 0)], 3, 8)
theorem yD43_ok {f : Nat → Option (Nat × Nat × (Nat → Value))} (hf : yFf f) : yCt (yEx f) yY yKk yNn yPH (fun _ => True) 8 52 yD43.2 :=
  yckc_ok hf (T := []) (ht := []) (il := []) (stop := (yst [13])) (M := zm_52) (c := yD43) (outs := yR43) (cuts := [(13, [(0, (2, 61, 0)), (1, (1, 3, 0)), (2, (1, 4, 0)), (3, (1, 5, 0)), (4, (1, 6, 0)), (5, (1, 7, 0)), (6, (1, 8, 0))], (9, [(1, 0, 199), (2, 1, 200), (3, 0, 199), (4, 1, 200), (5, (-2147483648), 2147483647), (6, 0, 400), (7, 0, 1), (8, 0, 119)], [(1, 3, 0), (1, 6, 0), (2, 4, 0), (3, 1, 0), (3, 6, 0), (4, 2, 0), (7, 2, 0), (7, 4, 0), (6, 8, (-199))], []), [], [], [(0, 1, 0), (0, 2, 0), (0, 3, 0), (0, 4, 0), (0, 5, 0), (0, 6, 0)], [(true, 8, 0)], [])]) sorry trivial rfl rfl rfl
def yDT : List yTp := [(13, [(0, (2, 61, 0)), (1, (1, 3, 0)), (2, (1, 4, 0)), (3, (1, 5, 0)), (4, (1, 6, 0)), (5, (1, 7, 0)), (6, (1, 8, 0))], (9, [(1, 0, 199), (2, 1, 200), (3, 0, 199), (4, 1, 200), (5, (-2147483648), 2147483647), (6, 0, 400), (7, 0, 1), (8, 0, 119)], [(1, 3, 0), (1, 6, 0), (2, 4, 0), (3, 1, 0), (3, 6, 0), (4, 2, 0), (7, 2, 0), (7, 4, 0), (6, 8, (-199))], []), [], [], [(0, 1, 0), (0, 2, 0), (0, 3, 0), (0, 4, 0), (0, 5, 0), (0, 6, 0)], [(true, 8, 0)], [])]
def yDh : List (Nat × Nat × yHt) := []
def yDr (k0 : Nat) (L0 : List (Nat × Nat)) (hd : Bool) (pc : Nat) (ls : zL) (F : zF) (es : List yE) (P : yP) := yrn yE0 k0 yroT yY yKk yNn yD43.2.2.2.2.1 (yktc k0 yY yKk yNn yD43.2.2.2.2.1 (yq9 [])) (yhk yY yKk yNn (yht yDh) L0) (yprm yroT yY yKk yNn yD43.2.2.2.2.1) (yin9 [] 172 55) 100000 8 (yst [13]) 52 zm_52 zm_52.2.2.2.2.1 hd pc ls [] F es P 0
def yDs := yDr (ykF yD43.2).1 [] false 0 (zarg 0 (yka yD43.2.1 1)) (ykF yD43.2) (ykE yD43.2) yD43.2.2.2.1
theorem dS : yDs.isSome = true := by decide +kernel
def yDf (L0 : List (Nat × Nat)) (T0 : Option yTp) (j : Nat) (L : Option (List (yU ⊕ yS))) : Bool := match L with
  | some L => (match L[j]? with
    | some x => ygo9 yY yKk yNn (ysy yY yNn) (ykF yD43.2).1 yR43 yDT L0 T0 x
    | none => true)
  | none => true
theorem dS_0 : yDf [] none 0 yDs = true := by decide +kernel
theorem dS_1 : yDf [] none 1 yDs = true := by decide +kernel
theorem dS_2 : yDf [] none 2 yDs = true := by decide +kernel
theorem dS_3 : yDf [] none 3 yDs = true := by decide +kernel
theorem dS_4 : yDf [] none 4 yDs = true := by decide +kernel
theorem dS_5 : yDf [] none 5 yDs = true := by decide +kernel
theorem dS_6 : yDf [] none 6 yDs = true := by decide +kernel
theorem dS_7 : yDf [] none 7 yDs = true := by decide +kernel
theorem dS_8 : yDf [] none 8 yDs = true := by decide +kernel
theorem dS_9 : yDf [] none 9 yDs = true := by decide +kernel
theorem dS_10 : yDf [] none 10 yDs = true := by decide +kernel
theorem dS_11 : yDf [] none 11 yDs = true := by decide +kernel
def yDT0 : yTp := (13, [(0, (2, 61, 0)), (1, (1, 3, 0)), (2, (1, 4, 0)), (3, (1, 5, 0)), (4, (1, 6, 0)), (5, (1, 7, 0)), (6, (1, 8, 0))], (9, [(1, 0, 199), (2, 1, 200), (3, 0, 199), (4, 1, 200), (5, (-2147483648), 2147483647), (6, 0, 400), (7, 0, 1), (8, 0, 119)], [(1, 3, 0), (1, 6, 0), (2, 4, 0), (3, 1, 0), (3, 6, 0), (4, 2, 0), (7, 2, 0), (7, 4, 0), (6, 8, (-199))], []), [], [], [(0, 1, 0), (0, 2, 0), (0, 3, 0), (0, 4, 0), (0, 5, 0), (0, 6, 0)], [(true, 8, 0)], [])
def yDt0 := yDr yDT0.2.2.1.1 yDT0.2.2.2.2.2.2.2 true yDT0.1 yDT0.2.1 yDT0.2.2.1 yDT0.2.2.2.1 yDT0.2.2.2.2.1
theorem dT0 : yDt0.isSome = true := by decide +kernel
theorem dT0_0 : yDf yDT0.2.2.2.2.2.2.2 (some yDT0) 0 yDt0 = true := by decide +kernel
theorem dT0_1 : yDf yDT0.2.2.2.2.2.2.2 (some yDT0) 1 yDt0 = true := by decide +kernel
theorem dT0_2 : yDf yDT0.2.2.2.2.2.2.2 (some yDT0) 2 yDt0 = true := by decide +kernel
theorem dT0_3 : yDf yDT0.2.2.2.2.2.2.2 (some yDT0) 3 yDt0 = true := by decide +kernel
theorem dT0_4 : yDf yDT0.2.2.2.2.2.2.2 (some yDT0) 4 yDt0 = true := by decide +kernel
theorem dT0_5 : yDf yDT0.2.2.2.2.2.2.2 (some yDT0) 5 yDt0 = true := by decide +kernel
theorem dT0_6 : yDf yDT0.2.2.2.2.2.2.2 (some yDT0) 6 yDt0 = true := by decide +kernel
theorem dT0_7 : yDf yDT0.2.2.2.2.2.2.2 (some yDT0) 7 yDt0 = true := by decide +kernel
theorem dT0_8 : yDf yDT0.2.2.2.2.2.2.2 (some yDT0) 8 yDt0 = true := by decide +kernel
theorem dT0_9 : yDf yDT0.2.2.2.2.2.2.2 (some yDT0) 9 yDt0 = true := by decide +kernel
theorem dT0_10 : yDf yDT0.2.2.2.2.2.2.2 (some yDT0) 10 yDt0 = true := by decide +kernel
theorem dT0_11 : yDf yDT0.2.2.2.2.2.2.2 (some yDT0) 11 yDt0 = true := by decide +kernel
