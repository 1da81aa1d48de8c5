def x346T : List yTp := [(12, [(0, (2, 75, 0)), (1, (1, 2, 0)), (2, (1, 3, 0))], (8, [(1, 0, 0), (2, 0, 7), (3, 0, 8), (4, 1, 8), (5, 1, 7), (6, 1, 8), (7, 0, 16)], [(1, 2, 0), (1, 3, 0), (1, 4, 1), (1, 5, 1), (1, 6, 1), (1, 7, 0), (2, 6, 1), (3, 4, 0)], []), [(77, (1, 0, 4), (1, 7, 0), 0), (75, (1, 0, 5), (1, 6, 0), 0), (75, (1, 0, 6), (1, 5, 0), 0), (75, (1, 0, 7), (1, 4, 0), 0)], [(11, 0, 1, (1, 0, 0)), (14, 0, 0, (1, 2, 0)), (14, 6, 0, (1, 2, 0)), (6, 77, 0, (1, 0, 0)), (2, 34, 0, (1, 0, 0)), (2, 4, 0, (1, 0, 0)), (2, 67, 0, (1, 0, 0)), (9, 77, 0, (1, 0, 0)), (3, 0, 0, (1, 0, 0))], [(0, 1, 0), (0, 2, 0), (1, 75, 7), (1, 75, 6), (1, 75, 5), (1, 77, 4)], [(false, 0, 5), (true, 2, 0), (false, 0, 0), (true, 3, 0)], []), (12, [(0, (2, 75, 0)), (1, (1, 2, 0)), (2, (1, 3, 0))], (10, [(1, 0, 0), (2, 0, 7), (3, 1, 8), (4, 0, 4), (5, 0, 255), (6, 1, 16), (7, 1, 8), (8, 1, 7), (9, 1, 8)], [(1, 2, 0), (1, 3, 1), (1, 4, 0), (1, 5, 0), (1, 6, 1), (1, 7, 1), (1, 8, 1), (1, 9, 1), (2, 7, 1), (3, 9, 0)], []), [(75, (1, 0, 7), (1, 9, 0), 0), (75, (1, 0, 6), (1, 8, 0), 0), (75, (1, 0, 5), (1, 7, 0), 0), (77, (1, 0, 4), (1, 6, 0), 0), (77, (1, 0, 81), (1, 5, 0), 0), (77, (1, 0, 5), (1, 4, 0), 0)], [(11, 0, 1, (1, 0, 0)), (14, 1, 0, (1, 2, 0)), (14, 5, 0, (1, 3, 0)), (14, 6, 0, (1, 2, 0)), (6, 77, 0, (1, 0, 0)), (2, 34, 0, (1, 0, 0)), (2, 4, 0, (1, 0, 0)), (2, 67, 0, (1, 0, 0)), (9, 77, 0, (1, 0, 0)), (3, 0, 0, (1, 0, 0))], [(0, 1, 0), (0, 2, 0), (1, 77, 5), (1, 77, 81), (1, 77, 4), (1, 75, 5), (1, 75, 6), (1, 75, 7)], [(false, 0, 3), (true, 3, 0), (false, 0, 0), (false, 0, 0)], []), (12, [(0, (2, 75, 0)), (1, (1, 2, 0)), (2, (1, 3, 0))], (8, [(1, 0, 0), (2, 0, 7), (3, 0, 8), (4, 1, 8), (5, 1, 7), (6, 1, 8), (7, 0, 16)], [(1, 2, 0), (1, 3, 0), (1, 4, 1), (1, 5, 1), (1, 6, 1), (1, 7, 0), (2, 6, 1), (3, 4, 0)], []), [(77, (1, 0, 4), (1, 7, 0), 0), (75, (1, 0, 5), (1, 6, 0), 0), (75, (1, 0, 6), (1, 5, 0), 0), (75, (1, 0, 7), (1, 4, 0), 0)], [(11, 0, 1, (1, 0, 0)), (14, 1, 0, (1, 2, 0)), (14, 6, 0, (1, 2, 0)), (14, 7, 0, (1, 3, 0)), (6, 77, 0, (1, 0, 0)), (2, 34, 0, (1, 0, 0)), (2, 4, 0, (1, 0, 0)), (2, 67, 0, (1, 0, 0)), (9, 77, 0, (1, 0, 0)), (3, 0, 0, (1, 0, 0))], [(0, 1, 0), (0, 2, 0), (1, 75, 7), (1, 75, 6), (1, 75, 5), (1, 77, 4)], [(false, 0, 4), (true, 3, 0), (false, 0, 0), (false, 0, 0)], []), (12, [(0, (2, 75, 0)), (1, (1, 2, 0)), (2, (1, 3, 0))], (8, [(1, 0, 0), (2, 1, 7), (3, 0, 8), (4, 1, 8), (5, 1, 7), (6, 2, 8), (7, 0, 16)], [(1, 2, 1), (1, 3, 0), (1, 4, 1), (1, 5, 1), (1, 6, 1), (1, 7, 0), (2, 6, 1), (3, 4, 0)], []), [(77, (1, 0, 4), (1, 7, 0), 0), (75, (1, 0, 5), (1, 6, 0), 0), (75, (1, 0, 6), (1, 5, 0), 0), (75, (1, 0, 7), (1, 4, 0), 0)], [(11, 0, 1, (1, 0, 0)), (14, 2, 0, (1, 2, 0)), (6, 77, 0, (1, 0, 0)), (2, 34, 0, (1, 0, 0)), (2, 4, 0, (1, 0, 0)), (2, 67, 0, (1, 0, 0)), (9, 77, 0, (1, 0, 0)), (3, 0, 0, (1, 0, 0))], [(0, 1, 0), (0, 2, 0), (1, 75, 7), (1, 75, 6), (1, 75, 5), (1, 77, 4)], [(false, 0, 0), (true, 2, 0), (false, 0, 0), (true, 3, 0)], []), (12, [(0, (2, 75, 0)), (1, (1, 2, 0)), (2, (1, 3, 0))], (12, [(1, 0, 0), (2, 0, 7), (3, 1, 8), (4, 1, 4), (5, 1, 16), (6, 0, 7), (7, 0, 7), (8, 0, 255), (9, 1, 8), (10, 1, 7), (11, 1, 8)], [(1, 2, 0), (1, 3, 1), (1, 4, 1), (1, 5, 1), (1, 6, 0), (1, 7, 0), (1, 8, 0), (1, 9, 1), (1, 10, 1), (1, 11, 1), (2, 9, 1), (3, 11, 0)], []), [(75, (1, 0, 7), (1, 11, 0), 0), (75, (1, 0, 6), (1, 10, 0), 0), (75, (1, 0, 5), (1, 9, 0), 0), (77, (1, 0, 81), (1, 8, 0), 0), (77, (1, 0, 42), (1, 7, 0), 0), (77, (1, 0, 58), (1, 6, 0), 0), (77, (1, 0, 4), (1, 5, 0), 0), (77, (1, 0, 5), (1, 4, 0), 0)], [(11, 1, 1, (1, 0, 0)), (14, 1, 0, (1, 2, 0)), (14, 5, 0, (1, 3, 0)), (14, 6, 0, (1, 2, 0)), (6, 77, 0, (1, 0, 0)), (2, 34, 0, (1, 0, 0)), (2, 4, 0, (1, 0, 0)), (2, 67, 0, (1, 0, 0)), (9, 77, 0, (1, 0, 0)), (3, 0, 0, (1, 0, 0))], [(0, 1, 0), (0, 2, 0), (1, 77, 5), (1, 77, 4), (1, 77, 58), (1, 77, 42), (1, 77, 81), (1, 75, 5), (1, 75, 6), (1, 75, 7)], [(false, 0, 2), (true, 3, 0), (false, 0, 0), (false, 0, 0)], []), (12, [(0, (2, 75, 0)), (1, (1, 2, 0)), (2, (1, 3, 0))], (12, [(1, 0, 0), (2, 1, 7), (3, 0, 8), (4, 1, 4), (5, 1, 16), (6, 0, 7), (7, 0, 7), (8, 0, 255), (9, 2, 8), (10, 1, 7), (11, 1, 8)], [(1, 2, 1), (1, 3, 0), (1, 4, 1), (1, 5, 1), (1, 6, 0), (1, 7, 0), (1, 8, 0), (1, 9, 1), (1, 10, 1), (1, 11, 1), (2, 9, 1), (3, 11, 0)], []), [(75, (1, 0, 7), (1, 11, 0), 0), (75, (1, 0, 6), (1, 10, 0), 0), (75, (1, 0, 5), (1, 9, 0), 0), (77, (1, 0, 81), (1, 8, 0), 0), (77, (1, 0, 42), (1, 7, 0), 0), (77, (1, 0, 58), (1, 6, 0), 0), (77, (1, 0, 4), (1, 5, 0), 0), (77, (1, 0, 5), (1, 4, 0), 0)], [(11, 1, 1, (1, 0, 0)), (14, 2, 0, (1, 2, 0)), (6, 77, 0, (1, 0, 0)), (2, 34, 0, (1, 0, 0)), (2, 4, 0, (1, 0, 0)), (2, 67, 0, (1, 0, 0)), (9, 77, 0, (1, 0, 0)), (3, 0, 0, (1, 0, 0))], [(0, 1, 0), (0, 2, 0), (1, 77, 5), (1, 77, 4), (1, 77, 58), (1, 77, 42), (1, 77, 81), (1, 75, 5), (1, 75, 6), (1, 75, 7)], [(false, 0, 1), (true, 2, 0), (false, 0, 0), (true, 3, 0)], []), (2, [(0, (2, 75, 0)), (1, (1, 2, 0)), (2, (1, 3, 0))], (8, [(1, 0, 0), (2, 1, 8), (3, 1, 8), (4, 0, 16), (5, 1, 8), (6, 1, 7), (7, 1, 8)], [(1, 2, 1), (1, 3, 1), (1, 4, 0), (1, 5, 1), (1, 6, 1), (1, 7, 1), (2, 5, 0), (3, 7, 0), (7, 3, 0)], []), [(75, (1, 0, 7), (1, 7, 0), 0), (75, (1, 0, 6), (1, 6, 0), 0), (75, (1, 0, 5), (1, 5, 0), 0), (77, (1, 0, 4), (1, 4, 0), 0)], [(11, 0, 1, (1, 0, 0)), (14, 2, 0, (1, 2, 0)), (6, 77, 0, (1, 0, 0)), (2, 34, 0, (1, 0, 0)), (2, 4, 0, (1, 0, 0)), (2, 67, 0, (1, 0, 0)), (9, 77, 0, (1, 0, 0)), (3, 0, 0, (1, 0, 0))], [(0, 1, 0), (0, 2, 0), (1, 77, 4), (1, 75, 5), (1, 75, 6), (1, 75, 7)], [(false, 0, 0), (true, 2, 0), (false, 0, 1), (false, 0, 0)], []), (2, [(0, (2, 75, 0)), (1, (1, 2, 0))], (7, [(1, 0, 0), (2, 0, 8), (3, 0, 16), (4, 1, 8), (5, 1, 7), (6, 1, 8)], [(1, 2, 0), (1, 3, 0), (1, 4, 1), (1, 5, 1), (1, 6, 1), (2, 4, 0)], []), [(75, (1, 0, 7), (1, 6, 0), 0), (75, (1, 0, 6), (1, 5, 0), 0), (75, (1, 0, 5), (1, 4, 0), 0), (77, (1, 0, 4), (1, 3, 0), 0)], [(11, 0, 1, (1, 0, 0)), (14, 6, 0, (1, 2, 0)), (6, 77, 0, (1, 0, 0)), (2, 34, 0, (1, 0, 0)), (2, 4, 0, (1, 0, 0)), (2, 67, 0, (1, 0, 0)), (9, 77, 0, (1, 0, 0)), (3, 0, 0, (1, 0, 0))], [(0, 1, 0), (1, 77, 4), (1, 75, 5), (1, 75, 6), (1, 75, 7)], [(false, 0, 5), (true, 2, 0), (false, 0, 1), (false, 0, 0)], []), (2, [(0, (2, 75, 0)), (1, (1, 2, 0)), (2, (1, 3, 0))], (12, [(1, 0, 0), (2, 1, 8), (3, 1, 8), (4, 1, 8), (5, 1, 7), (6, 1, 8), (7, 0, 255), (8, 0, 7), (9, 0, 7), (10, 1, 16), (11, 1, 4)], [(1, 2, 1), (1, 3, 1), (1, 4, 1), (1, 5, 1), (1, 6, 1), (1, 7, 0), (1, 8, 0), (1, 9, 0), (1, 10, 1), (1, 11, 1), (2, 6, 0), (3, 4, 0), (4, 3, 0)], []), [(77, (1, 0, 5), (1, 11, 0), 0), (77, (1, 0, 4), (1, 10, 0), 0), (77, (1, 0, 58), (1, 9, 0), 0), (77, (1, 0, 42), (1, 8, 0), 0), (77, (1, 0, 81), (1, 7, 0), 0), (75, (1, 0, 5), (1, 6, 0), 0), (75, (1, 0, 6), (1, 5, 0), 0), (75, (1, 0, 7), (1, 4, 0), 0)], [(11, 1, 1, (1, 0, 0)), (14, 2, 0, (1, 2, 0)), (6, 77, 0, (1, 0, 0)), (2, 34, 0, (1, 0, 0)), (2, 4, 0, (1, 0, 0)), (2, 67, 0, (1, 0, 0)), (9, 77, 0, (1, 0, 0)), (3, 0, 0, (1, 0, 0))], [(0, 1, 0), (0, 2, 0), (1, 75, 7), (1, 75, 6), (1, 75, 5), (1, 77, 81), (1, 77, 42), (1, 77, 58), (1, 77, 4), (1, 77, 5)], [(false, 0, 1), (true, 2, 0), (false, 0, 1), (false, 0, 0)], [])]
def x346r (k0 : Nat) (L0 : List (Nat × Nat)) (hd : Bool) (pc : Nat) (ls : zL) (F : zF) (es : List yE) (P : yP) := yrn yE0 k0 yroT yY yKk yNn yC346.2.1.2.2.2.1 (yktc k0 yY yKk yNn yC346.2.1.2.2.2.1 [yC270, yC344]) (yhk yY yKk yNn (yht [(183, 12, 1, 100, 0, [1, 2, 3, 4]), (203, 1, 23, 0, 0, []), (203, 10, 18, 1, 0, []), (203, 20, 25, 1, 2, []), (203, 46, 19, 1, 2, []), (203, 52, 20, 1, 2, []), (204, 10, 26, 0, 0, []), (205, 0, 6, 0, 0, [])]) yC346.2.2.2 L0) (yprm yroT yY yKk yNn yC346.2.1.2.2.2.1) (yin9 [183, 185, 199, 201, 204, 205] 172 55) 100000 yC346.2.1.2.2.2.2.2.2 (yst [2, 12]) yC346.1 zm_203 zm_203.2.2.2.2.1 hd pc ls [] F es P 0
def x346s := x346r (ykF yC346.2.1).1 [] false 0 (zarg 0 (yka yC346.2.1.1 1)) (ykF yC346.2.1) (ykE yC346.2.1) yC346.2.1.2.2.1
def x346f (L0 : List (Nat × Nat)) (T0 : Option yTp) (j : Nat) (L : Option (List (yU ⊕ yS))) : Bool := match L with
  | some L => (match L[j]? with
    | some x => ygoX yY yKk yNn (ysy yY yNn) (ykF yC346.2.1).1 yQ346 x346T [] L0 T0 x
    | none => true)
  | none => true
def x346l (L : Option (List (yU ⊕ yS))) : Nat := match L with
  | some L => L.length
  | none => 0
def x346T0 : yTp := (12, [(0, (2, 75, 0)), (1, (1, 2, 0)), (2, (1, 3, 0))], (8, [(1, 0, 0), (2, 0, 7), (3, 0, 8), (4, 1, 8), (5, 1, 7), (6, 1, 8), (7, 0, 16)], [(1, 2, 0), (1, 3, 0), (1, 4, 1), (1, 5, 1), (1, 6, 1), (1, 7, 0), (2, 6, 1), (3, 4, 0)], []), [(77, (1, 0, 4), (1, 7, 0), 0), (75, (1, 0, 5), (1, 6, 0), 0), (75, (1, 0, 6), (1, 5, 0), 0), (75, (1, 0, 7), (1, 4, 0), 0)], [(11, 0, 1, (1, 0, 0)), (14, 0, 0, (1, 2, 0)), (14, 6, 0, (1, 2, 0)), (6, 77, 0, (1, 0, 0)), (2, 34, 0, (1, 0, 0)), (2, 4, 0, (1, 0, 0)), (2, 67, 0, (1, 0, 0)), (9, 77, 0, (1, 0, 0)), (3, 0, 0, (1, 0, 0))], [(0, 1, 0), (0, 2, 0), (1, 75, 7), (1, 75, 6), (1, 75, 5), (1, 77, 4)], [(false, 0, 5), (true, 2, 0), (false, 0, 0), (true, 3, 0)], [])
def x346t0 := x346r x346T0.2.2.1.1 x346T0.2.2.2.2.2.2.2 true x346T0.1 x346T0.2.1 x346T0.2.2.1 x346T0.2.2.2.1 x346T0.2.2.2.2.1
def x346T1 : yTp := (12, [(0, (2, 75, 0)), (1, (1, 2, 0)), (2, (1, 3, 0))], (10, [(1, 0, 0), (2, 0, 7), (3, 1, 8), (4, 0, 4), (5, 0, 255), (6, 1, 16), (7, 1, 8), (8, 1, 7), (9, 1, 8)], [(1, 2, 0), (1, 3, 1), (1, 4, 0), (1, 5, 0), (1, 6, 1), (1, 7, 1), (1, 8, 1), (1, 9, 1), (2, 7, 1), (3, 9, 0)], []), [(75, (1, 0, 7), (1, 9, 0), 0), (75, (1, 0, 6), (1, 8, 0), 0), (75, (1, 0, 5), (1, 7, 0), 0), (77, (1, 0, 4), (1, 6, 0), 0), (77, (1, 0, 81), (1, 5, 0), 0), (77, (1, 0, 5), (1, 4, 0), 0)], [(11, 0, 1, (1, 0, 0)), (14, 1, 0, (1, 2, 0)), (14, 5, 0, (1, 3, 0)), (14, 6, 0, (1, 2, 0)), (6, 77, 0, (1, 0, 0)), (2, 34, 0, (1, 0, 0)), (2, 4, 0, (1, 0, 0)), (2, 67, 0, (1, 0, 0)), (9, 77, 0, (1, 0, 0)), (3, 0, 0, (1, 0, 0))], [(0, 1, 0), (0, 2, 0), (1, 77, 5), (1, 77, 81), (1, 77, 4), (1, 75, 5), (1, 75, 6), (1, 75, 7)], [(false, 0, 3), (true, 3, 0), (false, 0, 0), (false, 0, 0)], [])
def x346t1 := x346r x346T1.2.2.1.1 x346T1.2.2.2.2.2.2.2 true x346T1.1 x346T1.2.1 x346T1.2.2.1 x346T1.2.2.2.1 x346T1.2.2.2.2.1
def x346T2 : yTp := (12, [(0, (2, 75, 0)), (1, (1, 2, 0)), (2, (1, 3, 0))], (8, [(1, 0, 0), (2, 0, 7), (3, 0, 8), (4, 1, 8), (5, 1, 7), (6, 1, 8), (7, 0, 16)], [(1, 2, 0), (1, 3, 0), (1, 4, 1), (1, 5, 1), (1, 6, 1), (1, 7, 0), (2, 6, 1), (3, 4, 0)], []), [(77, (1, 0, 4), (1, 7, 0), 0), (75, (1, 0, 5), (1, 6, 0), 0), (75, (1, 0, 6), (1, 5, 0), 0), (75, (1, 0, 7), (1, 4, 0), 0)], [(11, 0, 1, (1, 0, 0)), (14, 1, 0, (1, 2, 0)), (14, 6, 0, (1, 2, 0)), (14, 7, 0, (1, 3, 0)), (6, 77, 0, (1, 0, 0)), (2, 34, 0, (1, 0, 0)), (2, 4, 0, (1, 0, 0)), (2, 67, 0, (1, 0, 0)), (9, 77, 0, (1, 0, 0)), (3, 0, 0, (1, 0, 0))], [(0, 1, 0), (0, 2, 0), (1, 75, 7), (1, 75, 6), (1, 75, 5), (1, 77, 4)], [(false, 0, 4), (true, 3, 0), (false, 0, 0), (false, 0, 0)], [])
def x346t2 := x346r x346T2.2.2.1.1 x346T2.2.2.2.2.2.2.2 true x346T2.1 x346T2.2.1 x346T2.2.2.1 x346T2.2.2.2.1 x346T2.2.2.2.2.1
def x346T3 : yTp := (12, [(0, (2, 75, 0)), (1, (1, 2, 0)), (2, (1, 3, 0))], (8, [(1, 0, 0), (2, 1, 7), (3, 0, 8), (4, 1, 8), (5, 1, 7), (6, 2, 8), (7, 0, 16)], [(1, 2, 1), (1, 3, 0), (1, 4, 1), (1, 5, 1), (1, 6, 1), (1, 7, 0), (2, 6, 1), (3, 4, 0)], []), [(77, (1, 0, 4), (1, 7, 0), 0), (75, (1, 0, 5), (1, 6, 0), 0), (75, (1, 0, 6), (1, 5, 0), 0), (75, (1, 0, 7), (1, 4, 0), 0)], [(11, 0, 1, (1, 0, 0)), (14, 2, 0, (1, 2, 0)), (6, 77, 0, (1, 0, 0)), (2, 34, 0, (1, 0, 0)), (2, 4, 0, (1, 0, 0)), (2, 67, 0, (1, 0, 0)), (9, 77, 0, (1, 0, 0)), (3, 0, 0, (1, 0, 0))], [(0, 1, 0), (0, 2, 0), (1, 75, 7), (1, 75, 6), (1, 75, 5), (1, 77, 4)], [(false, 0, 0), (true, 2, 0), (false, 0, 0), (true, 3, 0)], [])
def x346t3 := x346r x346T3.2.2.1.1 x346T3.2.2.2.2.2.2.2 true x346T3.1 x346T3.2.1 x346T3.2.2.1 x346T3.2.2.2.1 x346T3.2.2.2.2.1
def x346T4 : yTp := (12, [(0, (2, 75, 0)), (1, (1, 2, 0)), (2, (1, 3, 0))], (12, [(1, 0, 0), (2, 0, 7), (3, 1, 8), (4, 1, 4), (5, 1, 16), (6, 0, 7), (7, 0, 7), (8, 0, 255), (9, 1, 8), (10, 1, 7), (11, 1, 8)], [(1, 2, 0), (1, 3, 1), (1, 4, 1), (1, 5, 1), (1, 6, 0), (1, 7, 0), (1, 8, 0), (1, 9, 1), (1, 10, 1), (1, 11, 1), (2, 9, 1), (3, 11, 0)], []), [(75, (1, 0, 7), (1, 11, 0), 0), (75, (1, 0, 6), (1, 10, 0), 0), (75, (1, 0, 5), (1, 9, 0), 0), (77, (1, 0, 81), (1, 8, 0), 0), (77, (1, 0, 42), (1, 7, 0), 0), (77, (1, 0, 58), (1, 6, 0), 0), (77, (1, 0, 4), (1, 5, 0), 0), (77, (1, 0, 5), (1, 4, 0), 0)], [(11, 1, 1, (1, 0, 0)), (14, 1, 0, (1, 2, 0)), (14, 5, 0, (1, 3, 0)), (14, 6, 0, (1, 2, 0)), (6, 77, 0, (1, 0, 0)), (2, 34, 0, (1, 0, 0)), (2, 4, 0, (1, 0, 0)), (2, 67, 0, (1, 0, 0)), (9, 77, 0, (1, 0, 0)), (3, 0, 0, (1, 0, 0))], [(0, 1, 0), (0, 2, 0), (1, 77, 5), (1, 77, 4), (1, 77, 58), (1, 77, 42), (1, 77, 81), (1, 75, 5), (1, 75, 6), (1, 75, 7)], [(false, 0, 2), (true, 3, 0), (false, 0, 0), (false, 0, 0)], [])
def x346t4 := x346r x346T4.2.2.1.1 x346T4.2.2.2.2.2.2.2 true x346T4.1 x346T4.2.1 x346T4.2.2.1 x346T4.2.2.2.1 x346T4.2.2.2.2.1
def x346T5 : yTp := (12, [(0, (2, 75, 0)), (1, (1, 2, 0)), (2, (1, 3, 0))], (12, [(1, 0, 0), (2, 1, 7), (3, 0, 8), (4, 1, 4), (5, 1, 16), (6, 0, 7), (7, 0, 7), (8, 0, 255), (9, 2, 8), (10, 1, 7), (11, 1, 8)], [(1, 2, 1), (1, 3, 0), (1, 4, 1), (1, 5, 1), (1, 6, 0), (1, 7, 0), (1, 8, 0), (1, 9, 1), (1, 10, 1), (1, 11, 1), (2, 9, 1), (3, 11, 0)], []), [(75, (1, 0, 7), (1, 11, 0), 0), (75, (1, 0, 6), (1, 10, 0), 0), (75, (1, 0, 5), (1, 9, 0), 0), (77, (1, 0, 81), (1, 8, 0), 0), (77, (1, 0, 42), (1, 7, 0), 0), (77, (1, 0, 58), (1, 6, 0), 0), (77, (1, 0, 4), (1, 5, 0), 0), (77, (1, 0, 5), (1, 4, 0), 0)], [(11, 1, 1, (1, 0, 0)), (14, 2, 0, (1, 2, 0)), (6, 77, 0, (1, 0, 0)), (2, 34, 0, (1, 0, 0)), (2, 4, 0, (1, 0, 0)), (2, 67, 0, (1, 0, 0)), (9, 77, 0, (1, 0, 0)), (3, 0, 0, (1, 0, 0))], [(0, 1, 0), (0, 2, 0), (1, 77, 5), (1, 77, 4), (1, 77, 58), (1, 77, 42), (1, 77, 81), (1, 75, 5), (1, 75, 6), (1, 75, 7)], [(false, 0, 1), (true, 2, 0), (false, 0, 0), (true, 3, 0)], [])
def x346t5 := x346r x346T5.2.2.1.1 x346T5.2.2.2.2.2.2.2 true x346T5.1 x346T5.2.1 x346T5.2.2.1 x346T5.2.2.2.1 x346T5.2.2.2.2.1
def x346T6 : yTp := (2, [(0, (2, 75, 0)), (1, (1, 2, 0)), (2, (1, 3, 0))], (8, [(1, 0, 0), (2, 1, 8), (3, 1, 8), (4, 0, 16), (5, 1, 8), (6, 1, 7), (7, 1, 8)], [(1, 2, 1), (1, 3, 1), (1, 4, 0), (1, 5, 1), (1, 6, 1), (1, 7, 1), (2, 5, 0), (3, 7, 0), (7, 3, 0)], []), [(75, (1, 0, 7), (1, 7, 0), 0), (75, (1, 0, 6), (1, 6, 0), 0), (75, (1, 0, 5), (1, 5, 0), 0), (77, (1, 0, 4), (1, 4, 0), 0)], [(11, 0, 1, (1, 0, 0)), (14, 2, 0, (1, 2, 0)), (6, 77, 0, (1, 0, 0)), (2, 34, 0, (1, 0, 0)), (2, 4, 0, (1, 0, 0)), (2, 67, 0, (1, 0, 0)), (9, 77, 0, (1, 0, 0)), (3, 0, 0, (1, 0, 0))], [(0, 1, 0), (0, 2, 0), (1, 77, 4), (1, 75, 5), (1, 75, 6), (1, 75, 7)], [(false, 0, 0), (true, 2, 0), (false, 0, 1), (false, 0, 0)], [])
def x346t6 := x346r x346T6.2.2.1.1 x346T6.2.2.2.2.2.2.2 true x346T6.1 x346T6.2.1 x346T6.2.2.1 x346T6.2.2.2.1 x346T6.2.2.2.2.1
def x346T7 : yTp := (2, [(0, (2, 75, 0)), (1, (1, 2, 0))], (7, [(1, 0, 0), (2, 0, 8), (3, 0, 16), (4, 1, 8), (5, 1, 7), (6, 1, 8)], [(1, 2, 0), (1, 3, 0), (1, 4, 1), (1, 5, 1), (1, 6, 1), (2, 4, 0)], []), [(75, (1, 0, 7), (1, 6, 0), 0), (75, (1, 0, 6), (1, 5, 0), 0), (75, (1, 0, 5), (1, 4, 0), 0), (77, (1, 0, 4), (1, 3, 0), 0)], [(11, 0, 1, (1, 0, 0)), (14, 6, 0, (1, 2, 0)), (6, 77, 0, (1, 0, 0)), (2, 34, 0, (1, 0, 0)), (2, 4, 0, (1, 0, 0)), (2, 67, 0, (1, 0, 0)), (9, 77, 0, (1, 0, 0)), (3, 0, 0, (1, 0, 0))], [(0, 1, 0), (1, 77, 4), (1, 75, 5), (1, 75, 6), (1, 75, 7)], [(false, 0, 5), (true, 2, 0), (false, 0, 1), (false, 0, 0)], [])
def x346t7 := x346r x346T7.2.2.1.1 x346T7.2.2.2.2.2.2.2 true x346T7.1 x346T7.2.1 x346T7.2.2.1 x346T7.2.2.2.1 x346T7.2.2.2.2.1
def x346T8 : yTp := (2, [(0, (2, 75, 0)), (1, (1, 2, 0)), (2, (1, 3, 0))], (12, [(1, 0, 0), (2, 1, 8), (3, 1, 8), (4, 1, 8), (5, 1, 7), (6, 1, 8), (7, 0, 255), (8, 0, 7), (9, 0, 7), (10, 1, 16), (11, 1, 4)], [(1, 2, 1), (1, 3, 1), (1, 4, 1), (1, 5, 1), (1, 6, 1), (1, 7, 0), (1, 8, 0), (1, 9, 0), (1, 10, 1), (1, 11, 1), (2, 6, 0), (3, 4, 0), (4, 3, 0)], []), [(77, (1, 0, 5), (1, 11, 0), 0), (77, (1, 0, 4), (1, 10, 0), 0), (77, (1, 0, 58), (1, 9, 0), 0), (77, (1, 0, 42), (1, 8, 0), 0), (77, (1, 0, 81), (1, 7, 0), 0), (75, (1, 0, 5), (1, 6, 0), 0), (75, (1, 0, 6), (1, 5, 0), 0), (75, (1, 0, 7), (1, 4, 0), 0)], [(11, 1, 1, (1, 0, 0)), (14, 2, 0, (1, 2, 0)), (6, 77, 0, (1, 0, 0)), (2, 34, 0, (1, 0, 0)), (2, 4, 0, (1, 0, 0)), (2, 67, 0, (1, 0, 0)), (9, 77, 0, (1, 0, 0)), (3, 0, 0, (1, 0, 0))], [(0, 1, 0), (0, 2, 0), (1, 75, 7), (1, 75, 6), (1, 75, 5), (1, 77, 81), (1, 77, 42), (1, 77, 58), (1, 77, 4), (1, 77, 5)], [(false, 0, 1), (true, 2, 0), (false, 0, 1), (false, 0, 0)], [])
def x346t8 := x346r x346T8.2.2.1.1 x346T8.2.2.2.2.2.2.2 true x346T8.1 x346T8.2.1 x346T8.2.2.1 x346T8.2.2.2.1 x346T8.2.2.2.2.1
def z346_2_354 : Option yS := match x346t2 with
  | some L => (match L[354]? with
    | some (Sum.inr s) => some s
    | _ => none)
  | none => none
theorem z346_2_354_s : z346_2_354.isSome = true := by decide +kernel
def z346_2_354_0r : Option (List zV × zF × List yE) := match z346_2_354 with
  | some s => bif Nat.beq s.1 x346T0.1 then ysr yY yKk yNn s.2.1 (0, 0, 0) x346T0.2.2.2.2.2.1 (zk 0 :: yb0 (2 - 1) 1) s.2.2.2.1 s.2.2.2.2.1 else none
  | none => none
/-- bound ['1', '0', '0'] -/
theorem z346_2_354_0_t0 : (bif z346_2_354_0r.isSome then (match z346_2_354_0r with | some (th, F1, _) => yin F1 (ymv 0 8 th (1, 1, 0)) 0 0 | none => false) else true) = true := by decide +kernel
/-- bound ['2', '0', '7'] -/
theorem z346_2_354_0_t1 : (bif z346_2_354_0r.isSome then (match z346_2_354_0r with | some (th, F1, _) => yin F1 (ymv 0 8 th (1, 2, 0)) 0 7 | none => false) else true) = true := by decide +kernel
/-- bound ['3', '0', '8'] -/
theorem z346_2_354_0_t2 : (bif z346_2_354_0r.isSome then (match z346_2_354_0r with | some (th, F1, _) => yin F1 (ymv 0 8 th (1, 3, 0)) 0 8 | none => false) else true) = true := by decide +kernel
/-- bound ['4', '1', '8'] -/
theorem z346_2_354_0_t3 : (bif z346_2_354_0r.isSome then (match z346_2_354_0r with | some (th, F1, _) => yin F1 (ymv 0 8 th (1, 4, 0)) 1 8 | none => false) else true) = true := by decide +kernel
/-- bound ['5', '1', '7'] -/
theorem z346_2_354_0_t4 : (bif z346_2_354_0r.isSome then (match z346_2_354_0r with | some (th, F1, _) => yin F1 (ymv 0 8 th (1, 5, 0)) 1 7 | none => false) else true) = true := by decide +kernel
/-- bound ['6', '1', '8'] -/
theorem z346_2_354_0_t5 : (bif z346_2_354_0r.isSome then (match z346_2_354_0r with | some (th, F1, _) => yin F1 (ymv 0 8 th (1, 6, 0)) 1 8 | none => false) else true) = true := by decide +kernel
/-- bound ['7', '0', '16'] -/
theorem z346_2_354_0_t6 : (bif z346_2_354_0r.isSome then (match z346_2_354_0r with | some (th, F1, _) => yin F1 (ymv 0 8 th (1, 7, 0)) 0 16 | none => false) else true) = true := by decide +kernel
/-- diff 1 2 0 -/
theorem z346_2_354_0_t7 : (bif z346_2_354_0r.isSome then (match z346_2_354_0r with | some (th, F1, _) => yle 2 F1 (zsh (ymv 0 8 th (1, 1, 0)) 0) (ymv 0 8 th (1, 2, 0)) || (Nat.beq 1 0 && yge 2 F1 (ymv 0 8 th (1, 2, 0)) 0) | none => false) else true) = true := by decide +kernel
/-- diff 1 3 0 -/
theorem z346_2_354_0_t8 : (bif z346_2_354_0r.isSome then (match z346_2_354_0r with | some (th, F1, _) => yle 2 F1 (zsh (ymv 0 8 th (1, 1, 0)) 0) (ymv 0 8 th (1, 3, 0)) || (Nat.beq 1 0 && yge 2 F1 (ymv 0 8 th (1, 3, 0)) 0) | none => false) else true) = true := by decide +kernel
/-- diff 1 4 1 -/
theorem z346_2_354_0_t9 : (bif z346_2_354_0r.isSome then (match z346_2_354_0r with | some (th, F1, _) => yle 2 F1 (zsh (ymv 0 8 th (1, 1, 0)) 1) (ymv 0 8 th (1, 4, 0)) || (Nat.beq 1 0 && yge 2 F1 (ymv 0 8 th (1, 4, 0)) 1) | none => false) else true) = true := by decide +kernel
/-- diff 1 5 1 -/
theorem z346_2_354_0_t10 : (bif z346_2_354_0r.isSome then (match z346_2_354_0r with | some (th, F1, _) => yle 2 F1 (zsh (ymv 0 8 th (1, 1, 0)) 1) (ymv 0 8 th (1, 5, 0)) || (Nat.beq 1 0 && yge 2 F1 (ymv 0 8 th (1, 5, 0)) 1) | none => false) else true) = true := by decide +kernel
/-- diff 1 6 1 -/
theorem z346_2_354_0_t11 : (bif z346_2_354_0r.isSome then (match z346_2_354_0r with | some (th, F1, _) => yle 2 F1 (zsh (ymv 0 8 th (1, 1, 0)) 1) (ymv 0 8 th (1, 6, 0)) || (Nat.beq 1 0 && yge 2 F1 (ymv 0 8 th (1, 6, 0)) 1) | none => false) else true) = true := by decide +kernel
/-- diff 1 7 0 -/
theorem z346_2_354_0_t12 : (bif z346_2_354_0r.isSome then (match z346_2_354_0r with | some (th, F1, _) => yle 2 F1 (zsh (ymv 0 8 th (1, 1, 0)) 0) (ymv 0 8 th (1, 7, 0)) || (Nat.beq 1 0 && yge 2 F1 (ymv 0 8 th (1, 7, 0)) 0) | none => false) else true) = true := by decide +kernel
/-- diff 2 6 1 -/
theorem z346_2_354_0_t13 : (bif z346_2_354_0r.isSome then (match z346_2_354_0r with | some (th, F1, _) => yle 2 F1 (zsh (ymv 0 8 th (1, 2, 0)) 1) (ymv 0 8 th (1, 6, 0)) || (Nat.beq 2 0 && yge 2 F1 (ymv 0 8 th (1, 6, 0)) 1) | none => false) else true) = true := by decide +kernel
/-- diff 3 4 0 -/
theorem z346_2_354_0_t14 : (bif z346_2_354_0r.isSome then (match z346_2_354_0r with | some (th, F1, _) => yle 2 F1 (zsh (ymv 0 8 th (1, 3, 0)) 0) (ymv 0 8 th (1, 4, 0)) || (Nat.beq 3 0 && yge 2 F1 (ymv 0 8 th (1, 4, 0)) 0) | none => false) else true) = true := by decide +kernel
/-- facts -/
theorem z346_2_354_0_t15 : (bif z346_2_354_0r.isSome then (match z346_2_354_0r, z346_2_354 with | some (th, F1, es1), some s => yfm F1 (ysy yY yNn F1 es1 s.2.2.2.2.2.1).1 yY yNn (ymv 0 8 th) x346T0.2.2.2.1 | _, _ => false) else true) = true := by decide +kernel
/-- pred (11, 0, 1, (1, 0, 0)) -/
theorem z346_2_354_0_t16 : (bif z346_2_354_0r.isSome then (match z346_2_354_0r, z346_2_354 with | some (th, F1, es1), some s => ypm F1 (ymv 0 8 th) (ysy yY yNn F1 es1 s.2.2.2.2.2.1).2 [(x346T0.2.2.2.2.1).getD 0 (9, 0, 0, zk 0)] | _, _ => false) else true) = true := by decide +kernel
/-- pred (14, 0, 0, (1, 2, 0)) -/
theorem z346_2_354_0_t17 : (bif z346_2_354_0r.isSome then (match z346_2_354_0r, z346_2_354 with | some (th, F1, es1), some s => ypm F1 (ymv 0 8 th) (ysy yY yNn F1 es1 s.2.2.2.2.2.1).2 [(x346T0.2.2.2.2.1).getD 1 (9, 0, 0, zk 0)] | _, _ => false) else true) = true := by decide +kernel
/-- pred (14, 6, 0, (1, 2, 0)) -/
theorem z346_2_354_0_t18 : (bif z346_2_354_0r.isSome then (match z346_2_354_0r, z346_2_354 with | some (th, F1, es1), some s => ypm F1 (ymv 0 8 th) (ysy yY yNn F1 es1 s.2.2.2.2.2.1).2 [(x346T0.2.2.2.2.1).getD 2 (9, 0, 0, zk 0)] | _, _ => false) else true) = true := by decide +kernel
/-- pred (6, 77, 0, (1, 0, 0)) -/
theorem z346_2_354_0_t19 : (bif z346_2_354_0r.isSome then (match z346_2_354_0r, z346_2_354 with | some (th, F1, es1), some s => ypm F1 (ymv 0 8 th) (ysy yY yNn F1 es1 s.2.2.2.2.2.1).2 [(x346T0.2.2.2.2.1).getD 3 (9, 0, 0, zk 0)] | _, _ => false) else true) = true := by decide +kernel
/-- pred (2, 34, 0, (1, 0, 0)) -/
theorem z346_2_354_0_t20 : (bif z346_2_354_0r.isSome then (match z346_2_354_0r, z346_2_354 with | some (th, F1, es1), some s => ypm F1 (ymv 0 8 th) (ysy yY yNn F1 es1 s.2.2.2.2.2.1).2 [(x346T0.2.2.2.2.1).getD 4 (9, 0, 0, zk 0)] | _, _ => false) else true) = true := by decide +kernel
/-- pred (2, 4, 0, (1, 0, 0)) -/
theorem z346_2_354_0_t21 : (bif z346_2_354_0r.isSome then (match z346_2_354_0r, z346_2_354 with | some (th, F1, es1), some s => ypm F1 (ymv 0 8 th) (ysy yY yNn F1 es1 s.2.2.2.2.2.1).2 [(x346T0.2.2.2.2.1).getD 5 (9, 0, 0, zk 0)] | _, _ => false) else true) = true := by decide +kernel
/-- pred (2, 67, 0, (1, 0, 0)) -/
theorem z346_2_354_0_t22 : (bif z346_2_354_0r.isSome then (match z346_2_354_0r, z346_2_354 with | some (th, F1, es1), some s => ypm F1 (ymv 0 8 th) (ysy yY yNn F1 es1 s.2.2.2.2.2.1).2 [(x346T0.2.2.2.2.1).getD 6 (9, 0, 0, zk 0)] | _, _ => false) else true) = true := by decide +kernel
/-- pred (9, 77, 0, (1, 0, 0)) -/
theorem z346_2_354_0_t23 : (bif z346_2_354_0r.isSome then (match z346_2_354_0r, z346_2_354 with | some (th, F1, es1), some s => ypm F1 (ymv 0 8 th) (ysy yY yNn F1 es1 s.2.2.2.2.2.1).2 [(x346T0.2.2.2.2.1).getD 7 (9, 0, 0, zk 0)] | _, _ => false) else true) = true := by decide +kernel
/-- pred (3, 0, 0, (1, 0, 0)) -/
theorem z346_2_354_0_t24 : (bif z346_2_354_0r.isSome then (match z346_2_354_0r, z346_2_354 with | some (th, F1, es1), some s => ypm F1 (ymv 0 8 th) (ysy yY yNn F1 es1 s.2.2.2.2.2.1).2 [(x346T0.2.2.2.2.1).getD 8 (9, 0, 0, zk 0)] | _, _ => false) else true) = true := by decide +kernel
/-- local 0 -/
theorem z346_2_354_0_t25 : (bif z346_2_354_0r.isSome then (match z346_2_354_0r, z346_2_354 with | some (th, F1, _), some s => yaf F1 s.2.1 8 th (x346T0.2.1.getD 0 (0, zk 0)) | _, _ => false) else true) = true := by decide +kernel
/-- local 1 -/
theorem z346_2_354_0_t26 : (bif z346_2_354_0r.isSome then (match z346_2_354_0r, z346_2_354 with | some (th, F1, _), some s => yaf F1 s.2.1 8 th (x346T0.2.1.getD 1 (0, zk 0)) | _, _ => false) else true) = true := by decide +kernel
/-- local 2 -/
theorem z346_2_354_0_t27 : (bif z346_2_354_0r.isSome then (match z346_2_354_0r, z346_2_354 with | some (th, F1, _), some s => yaf F1 s.2.1 8 th (x346T0.2.1.getD 2 (0, zk 0)) | _, _ => false) else true) = true := by decide +kernel
/-- measure -/
theorem z346_2_354_0_t28 : (bif z346_2_354_0r.isSome then (match z346_2_354_0r with | some (th, F1, _) => ym9 F1 (ymv 0 8 th) x346T0.2.2.2.2.2.2.1 (some x346T2) | none => false) else true) = true := by decide +kernel
def z346_2_354_1r : Option (List zV × zF × List yE) := match z346_2_354 with
  | some s => bif Nat.beq s.1 x346T1.1 then ysr yY yKk yNn s.2.1 (0, 0, 0) x346T1.2.2.2.2.2.1 (zk 0 :: yb0 (2 - 1) 1) s.2.2.2.1 s.2.2.2.2.1 else none
  | none => none
/-- bound ['1', '0', '0'] -/
theorem z346_2_354_1_t0 : (bif z346_2_354_1r.isSome then (match z346_2_354_1r with | some (th, F1, _) => yin F1 (ymv 0 10 th (1, 1, 0)) 0 0 | none => false) else true) = true := by decide +kernel
/-- bound ['2', '0', '7'] -/
theorem z346_2_354_1_t1 : (bif z346_2_354_1r.isSome then (match z346_2_354_1r with | some (th, F1, _) => yin F1 (ymv 0 10 th (1, 2, 0)) 0 7 | none => false) else true) = true := by decide +kernel
/-- bound ['3', '1', '8'] -/
theorem z346_2_354_1_t2 : (bif z346_2_354_1r.isSome then (match z346_2_354_1r with | some (th, F1, _) => yin F1 (ymv 0 10 th (1, 3, 0)) 1 8 | none => false) else true) = true := by decide +kernel
/-- bound ['4', '0', '4'] -/
theorem z346_2_354_1_t3 : (bif z346_2_354_1r.isSome then (match z346_2_354_1r with | some (th, F1, _) => yin F1 (ymv 0 10 th (1, 4, 0)) 0 4 | none => false) else true) = true := by decide +kernel
/-- bound ['5', '0', '255'] -/
theorem z346_2_354_1_t4 : (bif z346_2_354_1r.isSome then (match z346_2_354_1r with | some (th, F1, _) => yin F1 (ymv 0 10 th (1, 5, 0)) 0 255 | none => false) else true) = true := by decide +kernel
/-- bound ['6', '1', '16'] -/
theorem z346_2_354_1_t5 : (bif z346_2_354_1r.isSome then (match z346_2_354_1r with | some (th, F1, _) => yin F1 (ymv 0 10 th (1, 6, 0)) 1 16 | none => false) else true) = true := by decide +kernel
/-- bound ['7', '1', '8'] -/
theorem z346_2_354_1_t6 : (bif z346_2_354_1r.isSome then (match z346_2_354_1r with | some (th, F1, _) => yin F1 (ymv 0 10 th (1, 7, 0)) 1 8 | none => false) else true) = true := by decide +kernel
/-- bound ['8', '1', '7'] -/
theorem z346_2_354_1_t7 : (bif z346_2_354_1r.isSome then (match z346_2_354_1r with | some (th, F1, _) => yin F1 (ymv 0 10 th (1, 8, 0)) 1 7 | none => false) else true) = true := by decide +kernel
/-- bound ['9', '1', '8'] -/
theorem z346_2_354_1_t8 : (bif z346_2_354_1r.isSome then (match z346_2_354_1r with | some (th, F1, _) => yin F1 (ymv 0 10 th (1, 9, 0)) 1 8 | none => false) else true) = true := by decide +kernel
/-- diff 1 2 0 -/
theorem z346_2_354_1_t9 : (bif z346_2_354_1r.isSome then (match z346_2_354_1r with | some (th, F1, _) => yle 2 F1 (zsh (ymv 0 10 th (1, 1, 0)) 0) (ymv 0 10 th (1, 2, 0)) || (Nat.beq 1 0 && yge 2 F1 (ymv 0 10 th (1, 2, 0)) 0) | none => false) else true) = true := by decide +kernel
/-- diff 1 3 1 -/
theorem z346_2_354_1_t10 : (bif z346_2_354_1r.isSome then (match z346_2_354_1r with | some (th, F1, _) => yle 2 F1 (zsh (ymv 0 10 th (1, 1, 0)) 1) (ymv 0 10 th (1, 3, 0)) || (Nat.beq 1 0 && yge 2 F1 (ymv 0 10 th (1, 3, 0)) 1) | none => false) else true) = true := by decide +kernel
/-- diff 1 4 0 -/
theorem z346_2_354_1_t11 : (bif z346_2_354_1r.isSome then (match z346_2_354_1r with | some (th, F1, _) => yle 2 F1 (zsh (ymv 0 10 th (1, 1, 0)) 0) (ymv 0 10 th (1, 4, 0)) || (Nat.beq 1 0 && yge 2 F1 (ymv 0 10 th (1, 4, 0)) 0) | none => false) else true) = true := by decide +kernel
/-- diff 1 5 0 -/
theorem z346_2_354_1_t12 : (bif z346_2_354_1r.isSome then (match z346_2_354_1r with | some (th, F1, _) => yle 2 F1 (zsh (ymv 0 10 th (1, 1, 0)) 0) (ymv 0 10 th (1, 5, 0)) || (Nat.beq 1 0 && yge 2 F1 (ymv 0 10 th (1, 5, 0)) 0) | none => false) else true) = true := by decide +kernel
/-- diff 1 6 1 -/
theorem z346_2_354_1_t13 : (bif z346_2_354_1r.isSome then (match z346_2_354_1r with | some (th, F1, _) => yle 2 F1 (zsh (ymv 0 10 th (1, 1, 0)) 1) (ymv 0 10 th (1, 6, 0)) || (Nat.beq 1 0 && yge 2 F1 (ymv 0 10 th (1, 6, 0)) 1) | none => false) else true) = true := by decide +kernel
/-- diff 1 7 1 -/
theorem z346_2_354_1_t14 : (bif z346_2_354_1r.isSome then (match z346_2_354_1r with | some (th, F1, _) => yle 2 F1 (zsh (ymv 0 10 th (1, 1, 0)) 1) (ymv 0 10 th (1, 7, 0)) || (Nat.beq 1 0 && yge 2 F1 (ymv 0 10 th (1, 7, 0)) 1) | none => false) else true) = true := by decide +kernel
/-- diff 1 8 1 -/
theorem z346_2_354_1_t15 : (bif z346_2_354_1r.isSome then (match z346_2_354_1r with | some (th, F1, _) => yle 2 F1 (zsh (ymv 0 10 th (1, 1, 0)) 1) (ymv 0 10 th (1, 8, 0)) || (Nat.beq 1 0 && yge 2 F1 (ymv 0 10 th (1, 8, 0)) 1) | none => false) else true) = true := by decide +kernel
/-- diff 1 9 1 -/
theorem z346_2_354_1_t16 : (bif z346_2_354_1r.isSome then (match z346_2_354_1r with | some (th, F1, _) => yle 2 F1 (zsh (ymv 0 10 th (1, 1, 0)) 1) (ymv 0 10 th (1, 9, 0)) || (Nat.beq 1 0 && yge 2 F1 (ymv 0 10 th (1, 9, 0)) 1) | none => false) else true) = true := by decide +kernel
/-- diff 2 7 1 -/
theorem z346_2_354_1_t17 : (bif z346_2_354_1r.isSome then (match z346_2_354_1r with | some (th, F1, _) => yle 2 F1 (zsh (ymv 0 10 th (1, 2, 0)) 1) (ymv 0 10 th (1, 7, 0)) || (Nat.beq 2 0 && yge 2 F1 (ymv 0 10 th (1, 7, 0)) 1) | none => false) else true) = true := by decide +kernel
/-- diff 3 9 0 -/
theorem z346_2_354_1_t18 : (bif z346_2_354_1r.isSome then (match z346_2_354_1r with | some (th, F1, _) => yle 2 F1 (zsh (ymv 0 10 th (1, 3, 0)) 0) (ymv 0 10 th (1, 9, 0)) || (Nat.beq 3 0 && yge 2 F1 (ymv 0 10 th (1, 9, 0)) 0) | none => false) else true) = true := by decide +kernel
/-- facts -/
theorem z346_2_354_1_t19 : (bif z346_2_354_1r.isSome then (match z346_2_354_1r, z346_2_354 with | some (th, F1, es1), some s => yfm F1 (ysy yY yNn F1 es1 s.2.2.2.2.2.1).1 yY yNn (ymv 0 10 th) x346T1.2.2.2.1 | _, _ => false) else true) = true := by decide +kernel
/-- pred (11, 0, 1, (1, 0, 0)) -/
theorem z346_2_354_1_t20 : (bif z346_2_354_1r.isSome then (match z346_2_354_1r, z346_2_354 with | some (th, F1, es1), some s => ypm F1 (ymv 0 10 th) (ysy yY yNn F1 es1 s.2.2.2.2.2.1).2 [(x346T1.2.2.2.2.1).getD 0 (9, 0, 0, zk 0)] | _, _ => false) else true) = true := by decide +kernel
/-- pred (14, 1, 0, (1, 2, 0)) -/
theorem z346_2_354_1_t21 : (bif z346_2_354_1r.isSome then (match z346_2_354_1r, z346_2_354 with | some (th, F1, es1), some s => ypm F1 (ymv 0 10 th) (ysy yY yNn F1 es1 s.2.2.2.2.2.1).2 [(x346T1.2.2.2.2.1).getD 1 (9, 0, 0, zk 0)] | _, _ => false) else true) = true := by decide +kernel
/-- pred (14, 5, 0, (1, 3, 0)) -/
theorem z346_2_354_1_t22 : (bif z346_2_354_1r.isSome then (match z346_2_354_1r, z346_2_354 with | some (th, F1, es1), some s => ypm F1 (ymv 0 10 th) (ysy yY yNn F1 es1 s.2.2.2.2.2.1).2 [(x346T1.2.2.2.2.1).getD 2 (9, 0, 0, zk 0)] | _, _ => false) else true) = true := by decide +kernel
/-- pred (14, 6, 0, (1, 2, 0)) -/
theorem z346_2_354_1_t23 : (bif z346_2_354_1r.isSome then (match z346_2_354_1r, z346_2_354 with | some (th, F1, es1), some s => ypm F1 (ymv 0 10 th) (ysy yY yNn F1 es1 s.2.2.2.2.2.1).2 [(x346T1.2.2.2.2.1).getD 3 (9, 0, 0, zk 0)] | _, _ => false) else true) = true := by decide +kernel
/-- pred (6, 77, 0, (1, 0, 0)) -/
theorem z346_2_354_1_t24 : (bif z346_2_354_1r.isSome then (match z346_2_354_1r, z346_2_354 with | some (th, F1, es1), some s => ypm F1 (ymv 0 10 th) (ysy yY yNn F1 es1 s.2.2.2.2.2.1).2 [(x346T1.2.2.2.2.1).getD 4 (9, 0, 0, zk 0)] | _, _ => false) else true) = true := by decide +kernel
/-- pred (2, 34, 0, (1, 0, 0)) -/
theorem z346_2_354_1_t25 : (bif z346_2_354_1r.isSome then (match z346_2_354_1r, z346_2_354 with | some (th, F1, es1), some s => ypm F1 (ymv 0 10 th) (ysy yY yNn F1 es1 s.2.2.2.2.2.1).2 [(x346T1.2.2.2.2.1).getD 5 (9, 0, 0, zk 0)] | _, _ => false) else true) = true := by decide +kernel
/-- pred (2, 4, 0, (1, 0, 0)) -/
theorem z346_2_354_1_t26 : (bif z346_2_354_1r.isSome then (match z346_2_354_1r, z346_2_354 with | some (th, F1, es1), some s => ypm F1 (ymv 0 10 th) (ysy yY yNn F1 es1 s.2.2.2.2.2.1).2 [(x346T1.2.2.2.2.1).getD 6 (9, 0, 0, zk 0)] | _, _ => false) else true) = true := by decide +kernel
/-- pred (2, 67, 0, (1, 0, 0)) -/
theorem z346_2_354_1_t27 : (bif z346_2_354_1r.isSome then (match z346_2_354_1r, z346_2_354 with | some (th, F1, es1), some s => ypm F1 (ymv 0 10 th) (ysy yY yNn F1 es1 s.2.2.2.2.2.1).2 [(x346T1.2.2.2.2.1).getD 7 (9, 0, 0, zk 0)] | _, _ => false) else true) = true := by decide +kernel
/-- pred (9, 77, 0, (1, 0, 0)) -/
theorem z346_2_354_1_t28 : (bif z346_2_354_1r.isSome then (match z346_2_354_1r, z346_2_354 with | some (th, F1, es1), some s => ypm F1 (ymv 0 10 th) (ysy yY yNn F1 es1 s.2.2.2.2.2.1).2 [(x346T1.2.2.2.2.1).getD 8 (9, 0, 0, zk 0)] | _, _ => false) else true) = true := by decide +kernel
/-- pred (3, 0, 0, (1, 0, 0)) -/
theorem z346_2_354_1_t29 : (bif z346_2_354_1r.isSome then (match z346_2_354_1r, z346_2_354 with | some (th, F1, es1), some s => ypm F1 (ymv 0 10 th) (ysy yY yNn F1 es1 s.2.2.2.2.2.1).2 [(x346T1.2.2.2.2.1).getD 9 (9, 0, 0, zk 0)] | _, _ => false) else true) = true := by decide +kernel
/-- local 0 -/
theorem z346_2_354_1_t30 : (bif z346_2_354_1r.isSome then (match z346_2_354_1r, z346_2_354 with | some (th, F1, _), some s => yaf F1 s.2.1 10 th (x346T1.2.1.getD 0 (0, zk 0)) | _, _ => false) else true) = true := by decide +kernel
/-- local 1 -/
theorem z346_2_354_1_t31 : (bif z346_2_354_1r.isSome then (match z346_2_354_1r, z346_2_354 with | some (th, F1, _), some s => yaf F1 s.2.1 10 th (x346T1.2.1.getD 1 (0, zk 0)) | _, _ => false) else true) = true := by decide +kernel
/-- local 2 -/
theorem z346_2_354_1_t32 : (bif z346_2_354_1r.isSome then (match z346_2_354_1r, z346_2_354 with | some (th, F1, _), some s => yaf F1 s.2.1 10 th (x346T1.2.1.getD 2 (0, zk 0)) | _, _ => false) else true) = true := by decide +kernel
/-- measure -/
theorem z346_2_354_1_t33 : (bif z346_2_354_1r.isSome then (match z346_2_354_1r with | some (th, F1, _) => ym9 F1 (ymv 0 10 th) x346T1.2.2.2.2.2.2.1 (some x346T2) | none => false) else true) = true := by decide +kernel
def z346_2_354_2r : Option (List zV × zF × List yE) := match z346_2_354 with
  | some s => bif Nat.beq s.1 x346T2.1 then ysr yY yKk yNn s.2.1 (0, 0, 0) x346T2.2.2.2.2.2.1 (zk 0 :: yb0 (2 - 1) 1) s.2.2.2.1 s.2.2.2.2.1 else none
  | none => none
/-- bound ['1', '0', '0'] -/
theorem z346_2_354_2_t0 : (bif z346_2_354_2r.isSome then (match z346_2_354_2r with | some (th, F1, _) => yin F1 (ymv 0 8 th (1, 1, 0)) 0 0 | none => false) else true) = true := by decide +kernel
/-- bound ['2', '0', '7'] -/
theorem z346_2_354_2_t1 : (bif z346_2_354_2r.isSome then (match z346_2_354_2r with | some (th, F1, _) => yin F1 (ymv 0 8 th (1, 2, 0)) 0 7 | none => false) else true) = true := by decide +kernel
/-- bound ['3', '0', '8'] -/
theorem z346_2_354_2_t2 : (bif z346_2_354_2r.isSome then (match z346_2_354_2r with | some (th, F1, _) => yin F1 (ymv 0 8 th (1, 3, 0)) 0 8 | none => false) else true) = true := by decide +kernel
/-- bound ['4', '1', '8'] -/
theorem z346_2_354_2_t3 : (bif z346_2_354_2r.isSome then (match z346_2_354_2r with | some (th, F1, _) => yin F1 (ymv 0 8 th (1, 4, 0)) 1 8 | none => false) else true) = true := by decide +kernel
/-- bound ['5', '1', '7'] -/
theorem z346_2_354_2_t4 : (bif z346_2_354_2r.isSome then (match z346_2_354_2r with | some (th, F1, _) => yin F1 (ymv 0 8 th (1, 5, 0)) 1 7 | none => false) else true) = true := by decide +kernel
/-- bound ['6', '1', '8'] -/
theorem z346_2_354_2_t5 : (bif z346_2_354_2r.isSome then (match z346_2_354_2r with | some (th, F1, _) => yin F1 (ymv 0 8 th (1, 6, 0)) 1 8 | none => false) else true) = true := by decide +kernel
/-- bound ['7', '0', '16'] -/
theorem z346_2_354_2_t6 : (bif z346_2_354_2r.isSome then (match z346_2_354_2r with | some (th, F1, _) => yin F1 (ymv 0 8 th (1, 7, 0)) 0 16 | none => false) else true) = true := by decide +kernel
/-- diff 1 2 0 -/
theorem z346_2_354_2_t7 : (bif z346_2_354_2r.isSome then (match z346_2_354_2r with | some (th, F1, _) => yle 2 F1 (zsh (ymv 0 8 th (1, 1, 0)) 0) (ymv 0 8 th (1, 2, 0)) || (Nat.beq 1 0 && yge 2 F1 (ymv 0 8 th (1, 2, 0)) 0) | none => false) else true) = true := by decide +kernel
/-- diff 1 3 0 -/
theorem z346_2_354_2_t8 : (bif z346_2_354_2r.isSome then (match z346_2_354_2r with | some (th, F1, _) => yle 2 F1 (zsh (ymv 0 8 th (1, 1, 0)) 0) (ymv 0 8 th (1, 3, 0)) || (Nat.beq 1 0 && yge 2 F1 (ymv 0 8 th (1, 3, 0)) 0) | none => false) else true) = true := by decide +kernel
/-- diff 1 4 1 -/
theorem z346_2_354_2_t9 : (bif z346_2_354_2r.isSome then (match z346_2_354_2r with | some (th, F1, _) => yle 2 F1 (zsh (ymv 0 8 th (1, 1, 0)) 1) (ymv 0 8 th (1, 4, 0)) || (Nat.beq 1 0 && yge 2 F1 (ymv 0 8 th (1, 4, 0)) 1) | none => false) else true) = true := by decide +kernel
/-- diff 1 5 1 -/
theorem z346_2_354_2_t10 : (bif z346_2_354_2r.isSome then (match z346_2_354_2r with | some (th, F1, _) => yle 2 F1 (zsh (ymv 0 8 th (1, 1, 0)) 1) (ymv 0 8 th (1, 5, 0)) || (Nat.beq 1 0 && yge 2 F1 (ymv 0 8 th (1, 5, 0)) 1) | none => false) else true) = true := by decide +kernel
/-- diff 1 6 1 -/
theorem z346_2_354_2_t11 : (bif z346_2_354_2r.isSome then (match z346_2_354_2r with | some (th, F1, _) => yle 2 F1 (zsh (ymv 0 8 th (1, 1, 0)) 1) (ymv 0 8 th (1, 6, 0)) || (Nat.beq 1 0 && yge 2 F1 (ymv 0 8 th (1, 6, 0)) 1) | none => false) else true) = true := by decide +kernel
/-- diff 1 7 0 -/
theorem z346_2_354_2_t12 : (bif z346_2_354_2r.isSome then (match z346_2_354_2r with | some (th, F1, _) => yle 2 F1 (zsh (ymv 0 8 th (1, 1, 0)) 0) (ymv 0 8 th (1, 7, 0)) || (Nat.beq 1 0 && yge 2 F1 (ymv 0 8 th (1, 7, 0)) 0) | none => false) else true) = true := by decide +kernel
/-- diff 2 6 1 -/
theorem z346_2_354_2_t13 : (bif z346_2_354_2r.isSome then (match z346_2_354_2r with | some (th, F1, _) => yle 2 F1 (zsh (ymv 0 8 th (1, 2, 0)) 1) (ymv 0 8 th (1, 6, 0)) || (Nat.beq 2 0 && yge 2 F1 (ymv 0 8 th (1, 6, 0)) 1) | none => false) else true) = true := by decide +kernel
/-- diff 3 4 0 -/
theorem z346_2_354_2_t14 : (bif z346_2_354_2r.isSome then (match z346_2_354_2r with | some (th, F1, _) => yle 2 F1 (zsh (ymv 0 8 th (1, 3, 0)) 0) (ymv 0 8 th (1, 4, 0)) || (Nat.beq 3 0 && yge 2 F1 (ymv 0 8 th (1, 4, 0)) 0) | none => false) else true) = true := by decide +kernel
/-- facts -/
theorem z346_2_354_2_t15 : (bif z346_2_354_2r.isSome then (match z346_2_354_2r, z346_2_354 with | some (th, F1, es1), some s => yfm F1 (ysy yY yNn F1 es1 s.2.2.2.2.2.1).1 yY yNn (ymv 0 8 th) x346T2.2.2.2.1 | _, _ => false) else true) = true := by decide +kernel
/-- pred (11, 0, 1, (1, 0, 0)) -/
theorem z346_2_354_2_t16 : (bif z346_2_354_2r.isSome then (match z346_2_354_2r, z346_2_354 with | some (th, F1, es1), some s => ypm F1 (ymv 0 8 th) (ysy yY yNn F1 es1 s.2.2.2.2.2.1).2 [(x346T2.2.2.2.2.1).getD 0 (9, 0, 0, zk 0)] | _, _ => false) else true) = true := by decide +kernel
/-- pred (14, 1, 0, (1, 2, 0)) -/
theorem z346_2_354_2_t17 : (bif z346_2_354_2r.isSome then (match z346_2_354_2r, z346_2_354 with | some (th, F1, es1), some s => ypm F1 (ymv 0 8 th) (ysy yY yNn F1 es1 s.2.2.2.2.2.1).2 [(x346T2.2.2.2.2.1).getD 1 (9, 0, 0, zk 0)] | _, _ => false) else true) = true := by decide +kernel
/-- pred (14, 6, 0, (1, 2, 0)) -/
theorem z346_2_354_2_t18 : (bif z346_2_354_2r.isSome then (match z346_2_354_2r, z346_2_354 with | some (th, F1, es1), some s => ypm F1 (ymv 0 8 th) (ysy yY yNn F1 es1 s.2.2.2.2.2.1).2 [(x346T2.2.2.2.2.1).getD 2 (9, 0, 0, zk 0)] | _, _ => false) else true) = true := by decide +kernel
/-- pred (14, 7, 0, (1, 3, 0)) -/
theorem z346_2_354_2_t19 : (bif z346_2_354_2r.isSome then (match z346_2_354_2r, z346_2_354 with | some (th, F1, es1), some s => ypm F1 (ymv 0 8 th) (ysy yY yNn F1 es1 s.2.2.2.2.2.1).2 [(x346T2.2.2.2.2.1).getD 3 (9, 0, 0, zk 0)] | _, _ => false) else true) = true := by decide +kernel
/-- pred (6, 77, 0, (1, 0, 0)) -/
theorem z346_2_354_2_t20 : (bif z346_2_354_2r.isSome then (match z346_2_354_2r, z346_2_354 with | some (th, F1, es1), some s => ypm F1 (ymv 0 8 th) (ysy yY yNn F1 es1 s.2.2.2.2.2.1).2 [(x346T2.2.2.2.2.1).getD 4 (9, 0, 0, zk 0)] | _, _ => false) else true) = true := by decide +kernel
/-- pred (2, 34, 0, (1, 0, 0)) -/
theorem z346_2_354_2_t21 : (bif z346_2_354_2r.isSome then (match z346_2_354_2r, z346_2_354 with | some (th, F1, es1), some s => ypm F1 (ymv 0 8 th) (ysy yY yNn F1 es1 s.2.2.2.2.2.1).2 [(x346T2.2.2.2.2.1).getD 5 (9, 0, 0, zk 0)] | _, _ => false) else true) = true := by decide +kernel
/-- pred (2, 4, 0, (1, 0, 0)) -/
theorem z346_2_354_2_t22 : (bif z346_2_354_2r.isSome then (match z346_2_354_2r, z346_2_354 with | some (th, F1, es1), some s => ypm F1 (ymv 0 8 th) (ysy yY yNn F1 es1 s.2.2.2.2.2.1).2 [(x346T2.2.2.2.2.1).getD 6 (9, 0, 0, zk 0)] | _, _ => false) else true) = true := by decide +kernel
/-- pred (2, 67, 0, (1, 0, 0)) -/
theorem z346_2_354_2_t23 : (bif z346_2_354_2r.isSome then (match z346_2_354_2r, z346_2_354 with | some (th, F1, es1), some s => ypm F1 (ymv 0 8 th) (ysy yY yNn F1 es1 s.2.2.2.2.2.1).2 [(x346T2.2.2.2.2.1).getD 7 (9, 0, 0, zk 0)] | _, _ => false) else true) = true := by decide +kernel
/-- pred (9, 77, 0, (1, 0, 0)) -/
theorem z346_2_354_2_t24 : (bif z346_2_354_2r.isSome then (match z346_2_354_2r, z346_2_354 with | some (th, F1, es1), some s => ypm F1 (ymv 0 8 th) (ysy yY yNn F1 es1 s.2.2.2.2.2.1).2 [(x346T2.2.2.2.2.1).getD 8 (9, 0, 0, zk 0)] | _, _ => false) else true) = true := by decide +kernel
/-- pred (3, 0, 0, (1, 0, 0)) -/
theorem z346_2_354_2_t25 : (bif z346_2_354_2r.isSome then (match z346_2_354_2r, z346_2_354 with | some (th, F1, es1), some s => ypm F1 (ymv 0 8 th) (ysy yY yNn F1 es1 s.2.2.2.2.2.1).2 [(x346T2.2.2.2.2.1).getD 9 (9, 0, 0, zk 0)] | _, _ => false) else true) = true := by decide +kernel
/-- local 0 -/
theorem z346_2_354_2_t26 : (bif z346_2_354_2r.isSome then (match z346_2_354_2r, z346_2_354 with | some (th, F1, _), some s => yaf F1 s.2.1 8 th (x346T2.2.1.getD 0 (0, zk 0)) | _, _ => false) else true) = true := by decide +kernel
/-- local 1 -/
theorem z346_2_354_2_t27 : (bif z346_2_354_2r.isSome then (match z346_2_354_2r, z346_2_354 with | some (th, F1, _), some s => yaf F1 s.2.1 8 th (x346T2.2.1.getD 1 (0, zk 0)) | _, _ => false) else true) = true := by decide +kernel
/-- local 2 -/
theorem z346_2_354_2_t28 : (bif z346_2_354_2r.isSome then (match z346_2_354_2r, z346_2_354 with | some (th, F1, _), some s => yaf F1 s.2.1 8 th (x346T2.2.1.getD 2 (0, zk 0)) | _, _ => false) else true) = true := by decide +kernel
/-- measure -/
theorem z346_2_354_2_t29 : (bif z346_2_354_2r.isSome then (match z346_2_354_2r with | some (th, F1, _) => ym9 F1 (ymv 0 8 th) x346T2.2.2.2.2.2.2.1 (some x346T2) | none => false) else true) = true := by decide +kernel
def z346_2_354_3r : Option (List zV × zF × List yE) := match z346_2_354 with
  | some s => bif Nat.beq s.1 x346T3.1 then ysr yY yKk yNn s.2.1 (0, 0, 0) x346T3.2.2.2.2.2.1 (zk 0 :: yb0 (2 - 1) 1) s.2.2.2.1 s.2.2.2.2.1 else none
  | none => none
/-- bound ['1', '0', '0'] -/
theorem z346_2_354_3_t0 : (bif z346_2_354_3r.isSome then (match z346_2_354_3r with | some (th, F1, _) => yin F1 (ymv 0 8 th (1, 1, 0)) 0 0 | none => false) else true) = true := by decide +kernel
/-- bound ['2', '1', '7'] -/
theorem z346_2_354_3_t1 : (bif z346_2_354_3r.isSome then (match z346_2_354_3r with | some (th, F1, _) => yin F1 (ymv 0 8 th (1, 2, 0)) 1 7 | none => false) else true) = true := by decide +kernel
/-- bound ['3', '0', '8'] -/
theorem z346_2_354_3_t2 : (bif z346_2_354_3r.isSome then (match z346_2_354_3r with | some (th, F1, _) => yin F1 (ymv 0 8 th (1, 3, 0)) 0 8 | none => false) else true) = true := by decide +kernel
/-- bound ['4', '1', '8'] -/
theorem z346_2_354_3_t3 : (bif z346_2_354_3r.isSome then (match z346_2_354_3r with | some (th, F1, _) => yin F1 (ymv 0 8 th (1, 4, 0)) 1 8 | none => false) else true) = true := by decide +kernel
/-- bound ['5', '1', '7'] -/
theorem z346_2_354_3_t4 : (bif z346_2_354_3r.isSome then (match z346_2_354_3r with | some (th, F1, _) => yin F1 (ymv 0 8 th (1, 5, 0)) 1 7 | none => false) else true) = true := by decide +kernel
/-- bound ['6', '2', '8'] -/
theorem z346_2_354_3_t5 : (bif z346_2_354_3r.isSome then (match z346_2_354_3r with | some (th, F1, _) => yin F1 (ymv 0 8 th (1, 6, 0)) 2 8 | none => false) else true) = true := by decide +kernel
/-- bound ['7', '0', '16'] -/
theorem z346_2_354_3_t6 : (bif z346_2_354_3r.isSome then (match z346_2_354_3r with | some (th, F1, _) => yin F1 (ymv 0 8 th (1, 7, 0)) 0 16 | none => false) else true) = true := by decide +kernel
/-- diff 1 2 1 -/
theorem z346_2_354_3_t7 : (bif z346_2_354_3r.isSome then (match z346_2_354_3r with | some (th, F1, _) => yle 2 F1 (zsh (ymv 0 8 th (1, 1, 0)) 1) (ymv 0 8 th (1, 2, 0)) || (Nat.beq 1 0 && yge 2 F1 (ymv 0 8 th (1, 2, 0)) 1) | none => false) else true) = true := by decide +kernel
/-- diff 1 3 0 -/
theorem z346_2_354_3_t8 : (bif z346_2_354_3r.isSome then (match z346_2_354_3r with | some (th, F1, _) => yle 2 F1 (zsh (ymv 0 8 th (1, 1, 0)) 0) (ymv 0 8 th (1, 3, 0)) || (Nat.beq 1 0 && yge 2 F1 (ymv 0 8 th (1, 3, 0)) 0) | none => false) else true) = true := by decide +kernel
/-- diff 1 4 1 -/
theorem z346_2_354_3_t9 : (bif z346_2_354_3r.isSome then (match z346_2_354_3r with | some (th, F1, _) => yle 2 F1 (zsh (ymv 0 8 th (1, 1, 0)) 1) (ymv 0 8 th (1, 4, 0)) || (Nat.beq 1 0 && yge 2 F1 (ymv 0 8 th (1, 4, 0)) 1) | none => false) else true) = true := by decide +kernel
/-- diff 1 5 1 -/
theorem z346_2_354_3_t10 : (bif z346_2_354_3r.isSome then (match z346_2_354_3r with | some (th, F1, _) => yle 2 F1 (zsh (ymv 0 8 th (1, 1, 0)) 1) (ymv 0 8 th (1, 5, 0)) || (Nat.beq 1 0 && yge 2 F1 (ymv 0 8 th (1, 5, 0)) 1) | none => false) else true) = true := by decide +kernel
/-- diff 1 6 1 -/
theorem z346_2_354_3_t11 : (bif z346_2_354_3r.isSome then (match z346_2_354_3r with | some (th, F1, _) => yle 2 F1 (zsh (ymv 0 8 th (1, 1, 0)) 1) (ymv 0 8 th (1, 6, 0)) || (Nat.beq 1 0 && yge 2 F1 (ymv 0 8 th (1, 6, 0)) 1) | none => false) else true) = true := by decide +kernel
/-- diff 1 7 0 -/
theorem z346_2_354_3_t12 : (bif z346_2_354_3r.isSome then (match z346_2_354_3r with | some (th, F1, _) => yle 2 F1 (zsh (ymv 0 8 th (1, 1, 0)) 0) (ymv 0 8 th (1, 7, 0)) || (Nat.beq 1 0 && yge 2 F1 (ymv 0 8 th (1, 7, 0)) 0) | none => false) else true) = true := by decide +kernel
/-- diff 2 6 1 -/
theorem z346_2_354_3_t13 : (bif z346_2_354_3r.isSome then (match z346_2_354_3r with | some (th, F1, _) => yle 2 F1 (zsh (ymv 0 8 th (1, 2, 0)) 1) (ymv 0 8 th (1, 6, 0)) || (Nat.beq 2 0 && yge 2 F1 (ymv 0 8 th (1, 6, 0)) 1) | none => false) else true) = true := by decide +kernel
/-- diff 3 4 0 -/
theorem z346_2_354_3_t14 : (bif z346_2_354_3r.isSome then (match z346_2_354_3r with | some (th, F1, _) => yle 2 F1 (zsh (ymv 0 8 th (1, 3, 0)) 0) (ymv 0 8 th (1, 4, 0)) || (Nat.beq 3 0 && yge 2 F1 (ymv 0 8 th (1, 4, 0)) 0) | none => false) else true) = true := by decide +kernel
/-- facts -/
theorem z346_2_354_3_t15 : (bif z346_2_354_3r.isSome then (match z346_2_354_3r, z346_2_354 with | some (th, F1, es1), some s => yfm F1 (ysy yY yNn F1 es1 s.2.2.2.2.2.1).1 yY yNn (ymv 0 8 th) x346T3.2.2.2.1 | _, _ => false) else true) = true := by decide +kernel
/-- pred (11, 0, 1, (1, 0, 0)) -/
theorem z346_2_354_3_t16 : (bif z346_2_354_3r.isSome then (match z346_2_354_3r, z346_2_354 with | some (th, F1, es1), some s => ypm F1 (ymv 0 8 th) (ysy yY yNn F1 es1 s.2.2.2.2.2.1).2 [(x346T3.2.2.2.2.1).getD 0 (9, 0, 0, zk 0)] | _, _ => false) else true) = true := by decide +kernel
/-- pred (14, 2, 0, (1, 2, 0)) -/
theorem z346_2_354_3_t17 : (bif z346_2_354_3r.isSome then (match z346_2_354_3r, z346_2_354 with | some (th, F1, es1), some s => ypm F1 (ymv 0 8 th) (ysy yY yNn F1 es1 s.2.2.2.2.2.1).2 [(x346T3.2.2.2.2.1).getD 1 (9, 0, 0, zk 0)] | _, _ => false) else true) = true := by decide +kernel
/-- pred (6, 77, 0, (1, 0, 0)) -/
theorem z346_2_354_3_t18 : (bif z346_2_354_3r.isSome then (match z346_2_354_3r, z346_2_354 with | some (th, F1, es1), some s => ypm F1 (ymv 0 8 th) (ysy yY yNn F1 es1 s.2.2.2.2.2.1).2 [(x346T3.2.2.2.2.1).getD 2 (9, 0, 0, zk 0)] | _, _ => false) else true) = true := by decide +kernel
/-- pred (2, 34, 0, (1, 0, 0)) -/
theorem z346_2_354_3_t19 : (bif z346_2_354_3r.isSome then (match z346_2_354_3r, z346_2_354 with | some (th, F1, es1), some s => ypm F1 (ymv 0 8 th) (ysy yY yNn F1 es1 s.2.2.2.2.2.1).2 [(x346T3.2.2.2.2.1).getD 3 (9, 0, 0, zk 0)] | _, _ => false) else true) = true := by decide +kernel
/-- pred (2, 4, 0, (1, 0, 0)) -/
theorem z346_2_354_3_t20 : (bif z346_2_354_3r.isSome then (match z346_2_354_3r, z346_2_354 with | some (th, F1, es1), some s => ypm F1 (ymv 0 8 th) (ysy yY yNn F1 es1 s.2.2.2.2.2.1).2 [(x346T3.2.2.2.2.1).getD 4 (9, 0, 0, zk 0)] | _, _ => false) else true) = true := by decide +kernel
/-- pred (2, 67, 0, (1, 0, 0)) -/
theorem z346_2_354_3_t21 : (bif z346_2_354_3r.isSome then (match z346_2_354_3r, z346_2_354 with | some (th, F1, es1), some s => ypm F1 (ymv 0 8 th) (ysy yY yNn F1 es1 s.2.2.2.2.2.1).2 [(x346T3.2.2.2.2.1).getD 5 (9, 0, 0, zk 0)] | _, _ => false) else true) = true := by decide +kernel
/-- pred (9, 77, 0, (1, 0, 0)) -/
theorem z346_2_354_3_t22 : (bif z346_2_354_3r.isSome then (match z346_2_354_3r, z346_2_354 with | some (th, F1, es1), some s => ypm F1 (ymv 0 8 th) (ysy yY yNn F1 es1 s.2.2.2.2.2.1).2 [(x346T3.2.2.2.2.1).getD 6 (9, 0, 0, zk 0)] | _, _ => false) else true) = true := by decide +kernel
/-- pred (3, 0, 0, (1, 0, 0)) -/
theorem z346_2_354_3_t23 : (bif z346_2_354_3r.isSome then (match z346_2_354_3r, z346_2_354 with | some (th, F1, es1), some s => ypm F1 (ymv 0 8 th) (ysy yY yNn F1 es1 s.2.2.2.2.2.1).2 [(x346T3.2.2.2.2.1).getD 7 (9, 0, 0, zk 0)] | _, _ => false) else true) = true := by decide +kernel
/-- local 0 -/
theorem z346_2_354_3_t24 : (bif z346_2_354_3r.isSome then (match z346_2_354_3r, z346_2_354 with | some (th, F1, _), some s => yaf F1 s.2.1 8 th (x346T3.2.1.getD 0 (0, zk 0)) | _, _ => false) else true) = true := by decide +kernel
/-- local 1 -/
theorem z346_2_354_3_t25 : (bif z346_2_354_3r.isSome then (match z346_2_354_3r, z346_2_354 with | some (th, F1, _), some s => yaf F1 s.2.1 8 th (x346T3.2.1.getD 1 (0, zk 0)) | _, _ => false) else true) = true := by decide +kernel
/-- local 2 -/
theorem z346_2_354_3_t26 : (bif z346_2_354_3r.isSome then (match z346_2_354_3r, z346_2_354 with | some (th, F1, _), some s => yaf F1 s.2.1 8 th (x346T3.2.1.getD 2 (0, zk 0)) | _, _ => false) else true) = true := by decide +kernel
/-- measure -/
theorem z346_2_354_3_t27 : (bif z346_2_354_3r.isSome then (match z346_2_354_3r with | some (th, F1, _) => ym9 F1 (ymv 0 8 th) x346T3.2.2.2.2.2.2.1 (some x346T2) | none => false) else true) = true := by decide +kernel
def z346_2_354_4r : Option (List zV × zF × List yE) := match z346_2_354 with
  | some s => bif Nat.beq s.1 x346T4.1 then ysr yY yKk yNn s.2.1 (0, 0, 0) x346T4.2.2.2.2.2.1 (zk 0 :: yb0 (2 - 1) 1) s.2.2.2.1 s.2.2.2.2.1 else none
  | none => none
/-- bound ['1', '0', '0'] -/
theorem z346_2_354_4_t0 : (bif z346_2_354_4r.isSome then (match z346_2_354_4r with | some (th, F1, _) => yin F1 (ymv 0 12 th (1, 1, 0)) 0 0 | none => false) else true) = true := by decide +kernel
/-- bound ['2', '0', '7'] -/
theorem z346_2_354_4_t1 : (bif z346_2_354_4r.isSome then (match z346_2_354_4r with | some (th, F1, _) => yin F1 (ymv 0 12 th (1, 2, 0)) 0 7 | none => false) else true) = true := by decide +kernel
/-- bound ['3', '1', '8'] -/
theorem z346_2_354_4_t2 : (bif z346_2_354_4r.isSome then (match z346_2_354_4r with | some (th, F1, _) => yin F1 (ymv 0 12 th (1, 3, 0)) 1 8 | none => false) else true) = true := by decide +kernel
/-- bound ['4', '1', '4'] -/
theorem z346_2_354_4_t3 : (bif z346_2_354_4r.isSome then (match z346_2_354_4r with | some (th, F1, _) => yin F1 (ymv 0 12 th (1, 4, 0)) 1 4 | none => false) else true) = true := by decide +kernel
/-- bound ['5', '1', '16'] -/
theorem z346_2_354_4_t4 : (bif z346_2_354_4r.isSome then (match z346_2_354_4r with | some (th, F1, _) => yin F1 (ymv 0 12 th (1, 5, 0)) 1 16 | none => false) else true) = true := by decide +kernel
/-- bound ['6', '0', '7'] -/
theorem z346_2_354_4_t5 : (bif z346_2_354_4r.isSome then (match z346_2_354_4r with | some (th, F1, _) => yin F1 (ymv 0 12 th (1, 6, 0)) 0 7 | none => false) else true) = true := by decide +kernel
/-- bound ['7', '0', '7'] -/
theorem z346_2_354_4_t6 : (bif z346_2_354_4r.isSome then (match z346_2_354_4r with | some (th, F1, _) => yin F1 (ymv 0 12 th (1, 7, 0)) 0 7 | none => false) else true) = true := by decide +kernel
/-- bound ['8', '0', '255'] -/
theorem z346_2_354_4_t7 : (bif z346_2_354_4r.isSome then (match z346_2_354_4r with | some (th, F1, _) => yin F1 (ymv 0 12 th (1, 8, 0)) 0 255 | none => false) else true) = true := by decide +kernel
/-- bound ['9', '1', '8'] -/
theorem z346_2_354_4_t8 : (bif z346_2_354_4r.isSome then (match z346_2_354_4r with | some (th, F1, _) => yin F1 (ymv 0 12 th (1, 9, 0)) 1 8 | none => false) else true) = true := by decide +kernel
/-- bound ['10', '1', '7'] -/
theorem z346_2_354_4_t9 : (bif z346_2_354_4r.isSome then (match z346_2_354_4r with | some (th, F1, _) => yin F1 (ymv 0 12 th (1, 10, 0)) 1 7 | none => false) else true) = true := by decide +kernel
/-- bound ['11', '1', '8'] -/
theorem z346_2_354_4_t10 : (bif z346_2_354_4r.isSome then (match z346_2_354_4r with | some (th, F1, _) => yin F1 (ymv 0 12 th (1, 11, 0)) 1 8 | none => false) else true) = true := by decide +kernel
/-- diff 1 2 0 -/
theorem z346_2_354_4_t11 : (bif z346_2_354_4r.isSome then (match z346_2_354_4r with | some (th, F1, _) => yle 2 F1 (zsh (ymv 0 12 th (1, 1, 0)) 0) (ymv 0 12 th (1, 2, 0)) || (Nat.beq 1 0 && yge 2 F1 (ymv 0 12 th (1, 2, 0)) 0) | none => false) else true) = true := by decide +kernel
/-- diff 1 3 1 -/
theorem z346_2_354_4_t12 : (bif z346_2_354_4r.isSome then (match z346_2_354_4r with | some (th, F1, _) => yle 2 F1 (zsh (ymv 0 12 th (1, 1, 0)) 1) (ymv 0 12 th (1, 3, 0)) || (Nat.beq 1 0 && yge 2 F1 (ymv 0 12 th (1, 3, 0)) 1) | none => false) else true) = true := by decide +kernel
/-- diff 1 4 1 -/
theorem z346_2_354_4_t13 : (bif z346_2_354_4r.isSome then (match z346_2_354_4r with | some (th, F1, _) => yle 2 F1 (zsh (ymv 0 12 th (1, 1, 0)) 1) (ymv 0 12 th (1, 4, 0)) || (Nat.beq 1 0 && yge 2 F1 (ymv 0 12 th (1, 4, 0)) 1) | none => false) else true) = true := by decide +kernel
/-- diff 1 5 1 -/
theorem z346_2_354_4_t14 : (bif z346_2_354_4r.isSome then (match z346_2_354_4r with | some (th, F1, _) => yle 2 F1 (zsh (ymv 0 12 th (1, 1, 0)) 1) (ymv 0 12 th (1, 5, 0)) || (Nat.beq 1 0 && yge 2 F1 (ymv 0 12 th (1, 5, 0)) 1) | none => false) else true) = true := by decide +kernel
/-- diff 1 6 0 -/
theorem z346_2_354_4_t15 : (bif z346_2_354_4r.isSome then (match z346_2_354_4r with | some (th, F1, _) => yle 2 F1 (zsh (ymv 0 12 th (1, 1, 0)) 0) (ymv 0 12 th (1, 6, 0)) || (Nat.beq 1 0 && yge 2 F1 (ymv 0 12 th (1, 6, 0)) 0) | none => false) else true) = true := by decide +kernel
/-- diff 1 7 0 -/
theorem z346_2_354_4_t16 : (bif z346_2_354_4r.isSome then (match z346_2_354_4r with | some (th, F1, _) => yle 2 F1 (zsh (ymv 0 12 th (1, 1, 0)) 0) (ymv 0 12 th (1, 7, 0)) || (Nat.beq 1 0 && yge 2 F1 (ymv 0 12 th (1, 7, 0)) 0) | none => false) else true) = true := by decide +kernel
/-- diff 1 8 0 -/
theorem z346_2_354_4_t17 : (bif z346_2_354_4r.isSome then (match z346_2_354_4r with | some (th, F1, _) => yle 2 F1 (zsh (ymv 0 12 th (1, 1, 0)) 0) (ymv 0 12 th (1, 8, 0)) || (Nat.beq 1 0 && yge 2 F1 (ymv 0 12 th (1, 8, 0)) 0) | none => false) else true) = true := by decide +kernel
/-- diff 1 9 1 -/
theorem z346_2_354_4_t18 : (bif z346_2_354_4r.isSome then (match z346_2_354_4r with | some (th, F1, _) => yle 2 F1 (zsh (ymv 0 12 th (1, 1, 0)) 1) (ymv 0 12 th (1, 9, 0)) || (Nat.beq 1 0 && yge 2 F1 (ymv 0 12 th (1, 9, 0)) 1) | none => false) else true) = true := by decide +kernel
/-- diff 1 10 1 -/
theorem z346_2_354_4_t19 : (bif z346_2_354_4r.isSome then (match z346_2_354_4r with | some (th, F1, _) => yle 2 F1 (zsh (ymv 0 12 th (1, 1, 0)) 1) (ymv 0 12 th (1, 10, 0)) || (Nat.beq 1 0 && yge 2 F1 (ymv 0 12 th (1, 10, 0)) 1) | none => false) else true) = true := by decide +kernel
/-- diff 1 11 1 -/
theorem z346_2_354_4_t20 : (bif z346_2_354_4r.isSome then (match z346_2_354_4r with | some (th, F1, _) => yle 2 F1 (zsh (ymv 0 12 th (1, 1, 0)) 1) (ymv 0 12 th (1, 11, 0)) || (Nat.beq 1 0 && yge 2 F1 (ymv 0 12 th (1, 11, 0)) 1) | none => false) else true) = true := by decide +kernel
/-- diff 2 9 1 -/
theorem z346_2_354_4_t21 : (bif z346_2_354_4r.isSome then (match z346_2_354_4r with | some (th, F1, _) => yle 2 F1 (zsh (ymv 0 12 th (1, 2, 0)) 1) (ymv 0 12 th (1, 9, 0)) || (Nat.beq 2 0 && yge 2 F1 (ymv 0 12 th (1, 9, 0)) 1) | none => false) else true) = true := by decide +kernel
/-- diff 3 11 0 -/
theorem z346_2_354_4_t22 : (bif z346_2_354_4r.isSome then (match z346_2_354_4r with | some (th, F1, _) => yle 2 F1 (zsh (ymv 0 12 th (1, 3, 0)) 0) (ymv 0 12 th (1, 11, 0)) || (Nat.beq 3 0 && yge 2 F1 (ymv 0 12 th (1, 11, 0)) 0) | none => false) else true) = true := by decide +kernel
/-- facts -/
theorem z346_2_354_4_t23 : (bif z346_2_354_4r.isSome then (match z346_2_354_4r, z346_2_354 with | some (th, F1, es1), some s => yfm F1 (ysy yY yNn F1 es1 s.2.2.2.2.2.1).1 yY yNn (ymv 0 12 th) x346T4.2.2.2.1 | _, _ => false) else true) = true := by decide +kernel
/-- pred (11, 1, 1, (1, 0, 0)) -/
theorem z346_2_354_4_t24 : (bif z346_2_354_4r.isSome then (match z346_2_354_4r, z346_2_354 with | some (th, F1, es1), some s => ypm F1 (ymv 0 12 th) (ysy yY yNn F1 es1 s.2.2.2.2.2.1).2 [(x346T4.2.2.2.2.1).getD 0 (9, 0, 0, zk 0)] | _, _ => false) else true) = true := by decide +kernel
/-- pred (14, 1, 0, (1, 2, 0)) -/
theorem z346_2_354_4_t25 : (bif z346_2_354_4r.isSome then (match z346_2_354_4r, z346_2_354 with | some (th, F1, es1), some s => ypm F1 (ymv 0 12 th) (ysy yY yNn F1 es1 s.2.2.2.2.2.1).2 [(x346T4.2.2.2.2.1).getD 1 (9, 0, 0, zk 0)] | _, _ => false) else true) = true := by decide +kernel
/-- pred (14, 5, 0, (1, 3, 0)) -/
theorem z346_2_354_4_t26 : (bif z346_2_354_4r.isSome then (match z346_2_354_4r, z346_2_354 with | some (th, F1, es1), some s => ypm F1 (ymv 0 12 th) (ysy yY yNn F1 es1 s.2.2.2.2.2.1).2 [(x346T4.2.2.2.2.1).getD 2 (9, 0, 0, zk 0)] | _, _ => false) else true) = true := by decide +kernel
/-- pred (14, 6, 0, (1, 2, 0)) -/
theorem z346_2_354_4_t27 : (bif z346_2_354_4r.isSome then (match z346_2_354_4r, z346_2_354 with | some (th, F1, es1), some s => ypm F1 (ymv 0 12 th) (ysy yY yNn F1 es1 s.2.2.2.2.2.1).2 [(x346T4.2.2.2.2.1).getD 3 (9, 0, 0, zk 0)] | _, _ => false) else true) = true := by decide +kernel
/-- pred (6, 77, 0, (1, 0, 0)) -/
theorem z346_2_354_4_t28 : (bif z346_2_354_4r.isSome then (match z346_2_354_4r, z346_2_354 with | some (th, F1, es1), some s => ypm F1 (ymv 0 12 th) (ysy yY yNn F1 es1 s.2.2.2.2.2.1).2 [(x346T4.2.2.2.2.1).getD 4 (9, 0, 0, zk 0)] | _, _ => false) else true) = true := by decide +kernel
/-- pred (2, 34, 0, (1, 0, 0)) -/
theorem z346_2_354_4_t29 : (bif z346_2_354_4r.isSome then (match z346_2_354_4r, z346_2_354 with | some (th, F1, es1), some s => ypm F1 (ymv 0 12 th) (ysy yY yNn F1 es1 s.2.2.2.2.2.1).2 [(x346T4.2.2.2.2.1).getD 5 (9, 0, 0, zk 0)] | _, _ => false) else true) = true := by decide +kernel
/-- pred (2, 4, 0, (1, 0, 0)) -/
theorem z346_2_354_4_t30 : (bif z346_2_354_4r.isSome then (match z346_2_354_4r, z346_2_354 with | some (th, F1, es1), some s => ypm F1 (ymv 0 12 th) (ysy yY yNn F1 es1 s.2.2.2.2.2.1).2 [(x346T4.2.2.2.2.1).getD 6 (9, 0, 0, zk 0)] | _, _ => false) else true) = true := by decide +kernel
/-- pred (2, 67, 0, (1, 0, 0)) -/
theorem z346_2_354_4_t31 : (bif z346_2_354_4r.isSome then (match z346_2_354_4r, z346_2_354 with | some (th, F1, es1), some s => ypm F1 (ymv 0 12 th) (ysy yY yNn F1 es1 s.2.2.2.2.2.1).2 [(x346T4.2.2.2.2.1).getD 7 (9, 0, 0, zk 0)] | _, _ => false) else true) = true := by decide +kernel
/-- pred (9, 77, 0, (1, 0, 0)) -/
theorem z346_2_354_4_t32 : (bif z346_2_354_4r.isSome then (match z346_2_354_4r, z346_2_354 with | some (th, F1, es1), some s => ypm F1 (ymv 0 12 th) (ysy yY yNn F1 es1 s.2.2.2.2.2.1).2 [(x346T4.2.2.2.2.1).getD 8 (9, 0, 0, zk 0)] | _, _ => false) else true) = true := by decide +kernel
/-- pred (3, 0, 0, (1, 0, 0)) -/
theorem z346_2_354_4_t33 : (bif z346_2_354_4r.isSome then (match z346_2_354_4r, z346_2_354 with | some (th, F1, es1), some s => ypm F1 (ymv 0 12 th) (ysy yY yNn F1 es1 s.2.2.2.2.2.1).2 [(x346T4.2.2.2.2.1).getD 9 (9, 0, 0, zk 0)] | _, _ => false) else true) = true := by decide +kernel
/-- local 0 -/
theorem z346_2_354_4_t34 : (bif z346_2_354_4r.isSome then (match z346_2_354_4r, z346_2_354 with | some (th, F1, _), some s => yaf F1 s.2.1 12 th (x346T4.2.1.getD 0 (0, zk 0)) | _, _ => false) else true) = true := by decide +kernel
/-- local 1 -/
theorem z346_2_354_4_t35 : (bif z346_2_354_4r.isSome then (match z346_2_354_4r, z346_2_354 with | some (th, F1, _), some s => yaf F1 s.2.1 12 th (x346T4.2.1.getD 1 (0, zk 0)) | _, _ => false) else true) = true := by decide +kernel
/-- local 2 -/
theorem z346_2_354_4_t36 : (bif z346_2_354_4r.isSome then (match z346_2_354_4r, z346_2_354 with | some (th, F1, _), some s => yaf F1 s.2.1 12 th (x346T4.2.1.getD 2 (0, zk 0)) | _, _ => false) else true) = true := by decide +kernel
/-- measure -/
theorem z346_2_354_4_t37 : (bif z346_2_354_4r.isSome then (match z346_2_354_4r with | some (th, F1, _) => ym9 F1 (ymv 0 12 th) x346T4.2.2.2.2.2.2.1 (some x346T2) | none => false) else true) = true := by decide +kernel
def z346_2_354_5r : Option (List zV × zF × List yE) := match z346_2_354 with
  | some s => bif Nat.beq s.1 x346T5.1 then ysr yY yKk yNn s.2.1 (0, 0, 0) x346T5.2.2.2.2.2.1 (zk 0 :: yb0 (2 - 1) 1) s.2.2.2.1 s.2.2.2.2.1 else none
  | none => none
/-- bound ['1', '0', '0'] -/
theorem z346_2_354_5_t0 : (bif z346_2_354_5r.isSome then (match z346_2_354_5r with | some (th, F1, _) => yin F1 (ymv 0 12 th (1, 1, 0)) 0 0 | none => false) else true) = true := by decide +kernel
/-- bound ['2', '1', '7'] -/
theorem z346_2_354_5_t1 : (bif z346_2_354_5r.isSome then (match z346_2_354_5r with | some (th, F1, _) => yin F1 (ymv 0 12 th (1, 2, 0)) 1 7 | none => false) else true) = true := by decide +kernel
/-- bound ['3', '0', '8'] -/
theorem z346_2_354_5_t2 : (bif z346_2_354_5r.isSome then (match z346_2_354_5r with | some (th, F1, _) => yin F1 (ymv 0 12 th (1, 3, 0)) 0 8 | none => false) else true) = true := by decide +kernel
/-- bound ['4', '1', '4'] -/
theorem z346_2_354_5_t3 : (bif z346_2_354_5r.isSome then (match z346_2_354_5r with | some (th, F1, _) => yin F1 (ymv 0 12 th (1, 4, 0)) 1 4 | none => false) else true) = true := by decide +kernel
/-- bound ['5', '1', '16'] -/
theorem z346_2_354_5_t4 : (bif z346_2_354_5r.isSome then (match z346_2_354_5r with | some (th, F1, _) => yin F1 (ymv 0 12 th (1, 5, 0)) 1 16 | none => false) else true) = true := by decide +kernel
/-- bound ['6', '0', '7'] -/
theorem z346_2_354_5_t5 : (bif z346_2_354_5r.isSome then (match z346_2_354_5r with | some (th, F1, _) => yin F1 (ymv 0 12 th (1, 6, 0)) 0 7 | none => false) else true) = true := by decide +kernel
/-- bound ['7', '0', '7'] -/
theorem z346_2_354_5_t6 : (bif z346_2_354_5r.isSome then (match z346_2_354_5r with | some (th, F1, _) => yin F1 (ymv 0 12 th (1, 7, 0)) 0 7 | none => false) else true) = true := by decide +kernel
/-- bound ['8', '0', '255'] -/
theorem z346_2_354_5_t7 : (bif z346_2_354_5r.isSome then (match z346_2_354_5r with | some (th, F1, _) => yin F1 (ymv 0 12 th (1, 8, 0)) 0 255 | none => false) else true) = true := by decide +kernel
/-- bound ['9', '2', '8'] -/
theorem z346_2_354_5_t8 : (bif z346_2_354_5r.isSome then (match z346_2_354_5r with | some (th, F1, _) => yin F1 (ymv 0 12 th (1, 9, 0)) 2 8 | none => false) else true) = true := by decide +kernel
/-- bound ['10', '1', '7'] -/
theorem z346_2_354_5_t9 : (bif z346_2_354_5r.isSome then (match z346_2_354_5r with | some (th, F1, _) => yin F1 (ymv 0 12 th (1, 10, 0)) 1 7 | none => false) else true) = true := by decide +kernel
/-- bound ['11', '1', '8'] -/
theorem z346_2_354_5_t10 : (bif z346_2_354_5r.isSome then (match z346_2_354_5r with | some (th, F1, _) => yin F1 (ymv 0 12 th (1, 11, 0)) 1 8 | none => false) else true) = true := by decide +kernel
/-- diff 1 2 1 -/
theorem z346_2_354_5_t11 : (bif z346_2_354_5r.isSome then (match z346_2_354_5r with | some (th, F1, _) => yle 2 F1 (zsh (ymv 0 12 th (1, 1, 0)) 1) (ymv 0 12 th (1, 2, 0)) || (Nat.beq 1 0 && yge 2 F1 (ymv 0 12 th (1, 2, 0)) 1) | none => false) else true) = true := by decide +kernel
/-- diff 1 3 0 -/
theorem z346_2_354_5_t12 : (bif z346_2_354_5r.isSome then (match z346_2_354_5r with | some (th, F1, _) => yle 2 F1 (zsh (ymv 0 12 th (1, 1, 0)) 0) (ymv 0 12 th (1, 3, 0)) || (Nat.beq 1 0 && yge 2 F1 (ymv 0 12 th (1, 3, 0)) 0) | none => false) else true) = true := by decide +kernel
/-- diff 1 4 1 -/
theorem z346_2_354_5_t13 : (bif z346_2_354_5r.isSome then (match z346_2_354_5r with | some (th, F1, _) => yle 2 F1 (zsh (ymv 0 12 th (1, 1, 0)) 1) (ymv 0 12 th (1, 4, 0)) || (Nat.beq 1 0 && yge 2 F1 (ymv 0 12 th (1, 4, 0)) 1) | none => false) else true) = true := by decide +kernel
/-- diff 1 5 1 -/
theorem z346_2_354_5_t14 : (bif z346_2_354_5r.isSome then (match z346_2_354_5r with | some (th, F1, _) => yle 2 F1 (zsh (ymv 0 12 th (1, 1, 0)) 1) (ymv 0 12 th (1, 5, 0)) || (Nat.beq 1 0 && yge 2 F1 (ymv 0 12 th (1, 5, 0)) 1) | none => false) else true) = true := by decide +kernel
/-- diff 1 6 0 -/
theorem z346_2_354_5_t15 : (bif z346_2_354_5r.isSome then (match z346_2_354_5r with | some (th, F1, _) => yle 2 F1 (zsh (ymv 0 12 th (1, 1, 0)) 0) (ymv 0 12 th (1, 6, 0)) || (Nat.beq 1 0 && yge 2 F1 (ymv 0 12 th (1, 6, 0)) 0) | none => false) else true) = true := by decide +kernel
/-- diff 1 7 0 -/
theorem z346_2_354_5_t16 : (bif z346_2_354_5r.isSome then (match z346_2_354_5r with | some (th, F1, _) => yle 2 F1 (zsh (ymv 0 12 th (1, 1, 0)) 0) (ymv 0 12 th (1, 7, 0)) || (Nat.beq 1 0 && yge 2 F1 (ymv 0 12 th (1, 7, 0)) 0) | none => false) else true) = true := by decide +kernel
/-- diff 1 8 0 -/
theorem z346_2_354_5_t17 : (bif z346_2_354_5r.isSome then (match z346_2_354_5r with | some (th, F1, _) => yle 2 F1 (zsh (ymv 0 12 th (1, 1, 0)) 0) (ymv 0 12 th (1, 8, 0)) || (Nat.beq 1 0 && yge 2 F1 (ymv 0 12 th (1, 8, 0)) 0) | none => false) else true) = true := by decide +kernel
/-- diff 1 9 1 -/
theorem z346_2_354_5_t18 : (bif z346_2_354_5r.isSome then (match z346_2_354_5r with | some (th, F1, _) => yle 2 F1 (zsh (ymv 0 12 th (1, 1, 0)) 1) (ymv 0 12 th (1, 9, 0)) || (Nat.beq 1 0 && yge 2 F1 (ymv 0 12 th (1, 9, 0)) 1) | none => false) else true) = true := by decide +kernel
/-- diff 1 10 1 -/
theorem z346_2_354_5_t19 : (bif z346_2_354_5r.isSome then (match z346_2_354_5r with | some (th, F1, _) => yle 2 F1 (zsh (ymv 0 12 th (1, 1, 0)) 1) (ymv 0 12 th (1, 10, 0)) || (Nat.beq 1 0 && yge 2 F1 (ymv 0 12 th (1, 10, 0)) 1) | none => false) else true) = true := by decide +kernel
/-- diff 1 11 1 -/
theorem z346_2_354_5_t20 : (bif z346_2_354_5r.isSome then (match z346_2_354_5r with | some (th, F1, _) => yle 2 F1 (zsh (ymv 0 12 th (1, 1, 0)) 1) (ymv 0 12 th (1, 11, 0)) || (Nat.beq 1 0 && yge 2 F1 (ymv 0 12 th (1, 11, 0)) 1) | none => false) else true) = true := by decide +kernel
/-- diff 2 9 1 -/
theorem z346_2_354_5_t21 : (bif z346_2_354_5r.isSome then (match z346_2_354_5r with | some (th, F1, _) => yle 2 F1 (zsh (ymv 0 12 th (1, 2, 0)) 1) (ymv 0 12 th (1, 9, 0)) || (Nat.beq 2 0 && yge 2 F1 (ymv 0 12 th (1, 9, 0)) 1) | none => false) else true) = true := by decide +kernel
/-- diff 3 11 0 -/
theorem z346_2_354_5_t22 : (bif z346_2_354_5r.isSome then (match z346_2_354_5r with | some (th, F1, _) => yle 2 F1 (zsh (ymv 0 12 th (1, 3, 0)) 0) (ymv 0 12 th (1, 11, 0)) || (Nat.beq 3 0 && yge 2 F1 (ymv 0 12 th (1, 11, 0)) 0) | none => false) else true) = true := by decide +kernel
/-- facts -/
theorem z346_2_354_5_t23 : (bif z346_2_354_5r.isSome then (match z346_2_354_5r, z346_2_354 with | some (th, F1, es1), some s => yfm F1 (ysy yY yNn F1 es1 s.2.2.2.2.2.1).1 yY yNn (ymv 0 12 th) x346T5.2.2.2.1 | _, _ => false) else true) = true := by decide +kernel
/-- pred (11, 1, 1, (1, 0, 0)) -/
theorem z346_2_354_5_t24 : (bif z346_2_354_5r.isSome then (match z346_2_354_5r, z346_2_354 with | some (th, F1, es1), some s => ypm F1 (ymv 0 12 th) (ysy yY yNn F1 es1 s.2.2.2.2.2.1).2 [(x346T5.2.2.2.2.1).getD 0 (9, 0, 0, zk 0)] | _, _ => false) else true) = true := by decide +kernel
/-- pred (14, 2, 0, (1, 2, 0)) -/
theorem z346_2_354_5_t25 : (bif z346_2_354_5r.isSome then (match z346_2_354_5r, z346_2_354 with | some (th, F1, es1), some s => ypm F1 (ymv 0 12 th) (ysy yY yNn F1 es1 s.2.2.2.2.2.1).2 [(x346T5.2.2.2.2.1).getD 1 (9, 0, 0, zk 0)] | _, _ => false) else true) = true := by decide +kernel
/-- pred (6, 77, 0, (1, 0, 0)) -/
theorem z346_2_354_5_t26 : (bif z346_2_354_5r.isSome then (match z346_2_354_5r, z346_2_354 with | some (th, F1, es1), some s => ypm F1 (ymv 0 12 th) (ysy yY yNn F1 es1 s.2.2.2.2.2.1).2 [(x346T5.2.2.2.2.1).getD 2 (9, 0, 0, zk 0)] | _, _ => false) else true) = true := by decide +kernel
/-- pred (2, 34, 0, (1, 0, 0)) -/
theorem z346_2_354_5_t27 : (bif z346_2_354_5r.isSome then (match z346_2_354_5r, z346_2_354 with | some (th, F1, es1), some s => ypm F1 (ymv 0 12 th) (ysy yY yNn F1 es1 s.2.2.2.2.2.1).2 [(x346T5.2.2.2.2.1).getD 3 (9, 0, 0, zk 0)] | _, _ => false) else true) = true := by decide +kernel
/-- pred (2, 4, 0, (1, 0, 0)) -/
theorem z346_2_354_5_t28 : (bif z346_2_354_5r.isSome then (match z346_2_354_5r, z346_2_354 with | some (th, F1, es1), some s => ypm F1 (ymv 0 12 th) (ysy yY yNn F1 es1 s.2.2.2.2.2.1).2 [(x346T5.2.2.2.2.1).getD 4 (9, 0, 0, zk 0)] | _, _ => false) else true) = true := by decide +kernel
/-- pred (2, 67, 0, (1, 0, 0)) -/
theorem z346_2_354_5_t29 : (bif z346_2_354_5r.isSome then (match z346_2_354_5r, z346_2_354 with | some (th, F1, es1), some s => ypm F1 (ymv 0 12 th) (ysy yY yNn F1 es1 s.2.2.2.2.2.1).2 [(x346T5.2.2.2.2.1).getD 5 (9, 0, 0, zk 0)] | _, _ => false) else true) = true := by decide +kernel
/-- pred (9, 77, 0, (1, 0, 0)) -/
theorem z346_2_354_5_t30 : (bif z346_2_354_5r.isSome then (match z346_2_354_5r, z346_2_354 with | some (th, F1, es1), some s => ypm F1 (ymv 0 12 th) (ysy yY yNn F1 es1 s.2.2.2.2.2.1).2 [(x346T5.2.2.2.2.1).getD 6 (9, 0, 0, zk 0)] | _, _ => false) else true) = true := by decide +kernel
/-- pred (3, 0, 0, (1, 0, 0)) -/
theorem z346_2_354_5_t31 : (bif z346_2_354_5r.isSome then (match z346_2_354_5r, z346_2_354 with | some (th, F1, es1), some s => ypm F1 (ymv 0 12 th) (ysy yY yNn F1 es1 s.2.2.2.2.2.1).2 [(x346T5.2.2.2.2.1).getD 7 (9, 0, 0, zk 0)] | _, _ => false) else true) = true := by decide +kernel
/-- local 0 -/
theorem z346_2_354_5_t32 : (bif z346_2_354_5r.isSome then (match z346_2_354_5r, z346_2_354 with | some (th, F1, _), some s => yaf F1 s.2.1 12 th (x346T5.2.1.getD 0 (0, zk 0)) | _, _ => false) else true) = true := by decide +kernel
/-- local 1 -/
theorem z346_2_354_5_t33 : (bif z346_2_354_5r.isSome then (match z346_2_354_5r, z346_2_354 with | some (th, F1, _), some s => yaf F1 s.2.1 12 th (x346T5.2.1.getD 1 (0, zk 0)) | _, _ => false) else true) = true := by decide +kernel
/-- local 2 -/
theorem z346_2_354_5_t34 : (bif z346_2_354_5r.isSome then (match z346_2_354_5r, z346_2_354 with | some (th, F1, _), some s => yaf F1 s.2.1 12 th (x346T5.2.1.getD 2 (0, zk 0)) | _, _ => false) else true) = true := by decide +kernel
/-- measure -/
theorem z346_2_354_5_t35 : (bif z346_2_354_5r.isSome then (match z346_2_354_5r with | some (th, F1, _) => ym9 F1 (ymv 0 12 th) x346T5.2.2.2.2.2.2.1 (some x346T2) | none => false) else true) = true := by decide +kernel
def z346_2_354_6r : Option (List zV × zF × List yE) := match z346_2_354 with
  | some s => bif Nat.beq s.1 x346T6.1 then ysr yY yKk yNn s.2.1 (0, 0, 0) x346T6.2.2.2.2.2.1 (zk 0 :: yb0 (2 - 1) 1) s.2.2.2.1 s.2.2.2.2.1 else none
  | none => none
/-- bound ['1', '0', '0'] -/
theorem z346_2_354_6_t0 : (bif z346_2_354_6r.isSome then (match z346_2_354_6r with | some (th, F1, _) => yin F1 (ymv 0 8 th (1, 1, 0)) 0 0 | none => false) else true) = true := by decide +kernel
/-- bound ['2', '1', '8'] -/
theorem z346_2_354_6_t1 : (bif z346_2_354_6r.isSome then (match z346_2_354_6r with | some (th, F1, _) => yin F1 (ymv 0 8 th (1, 2, 0)) 1 8 | none => false) else true) = true := by decide +kernel
/-- bound ['3', '1', '8'] -/
theorem z346_2_354_6_t2 : (bif z346_2_354_6r.isSome then (match z346_2_354_6r with | some (th, F1, _) => yin F1 (ymv 0 8 th (1, 3, 0)) 1 8 | none => false) else true) = true := by decide +kernel
/-- bound ['4', '0', '16'] -/
theorem z346_2_354_6_t3 : (bif z346_2_354_6r.isSome then (match z346_2_354_6r with | some (th, F1, _) => yin F1 (ymv 0 8 th (1, 4, 0)) 0 16 | none => false) else true) = true := by decide +kernel
/-- bound ['5', '1', '8'] -/
theorem z346_2_354_6_t4 : (bif z346_2_354_6r.isSome then (match z346_2_354_6r with | some (th, F1, _) => yin F1 (ymv 0 8 th (1, 5, 0)) 1 8 | none => false) else true) = true := by decide +kernel
/-- bound ['6', '1', '7'] -/
theorem z346_2_354_6_t5 : (bif z346_2_354_6r.isSome then (match z346_2_354_6r with | some (th, F1, _) => yin F1 (ymv 0 8 th (1, 6, 0)) 1 7 | none => false) else true) = true := by decide +kernel
/-- bound ['7', '1', '8'] -/
theorem z346_2_354_6_t6 : (bif z346_2_354_6r.isSome then (match z346_2_354_6r with | some (th, F1, _) => yin F1 (ymv 0 8 th (1, 7, 0)) 1 8 | none => false) else true) = true := by decide +kernel
/-- diff 1 2 1 -/
theorem z346_2_354_6_t7 : (bif z346_2_354_6r.isSome then (match z346_2_354_6r with | some (th, F1, _) => yle 2 F1 (zsh (ymv 0 8 th (1, 1, 0)) 1) (ymv 0 8 th (1, 2, 0)) || (Nat.beq 1 0 && yge 2 F1 (ymv 0 8 th (1, 2, 0)) 1) | none => false) else true) = true := by decide +kernel
/-- diff 1 3 1 -/
theorem z346_2_354_6_t8 : (bif z346_2_354_6r.isSome then (match z346_2_354_6r with | some (th, F1, _) => yle 2 F1 (zsh (ymv 0 8 th (1, 1, 0)) 1) (ymv 0 8 th (1, 3, 0)) || (Nat.beq 1 0 && yge 2 F1 (ymv 0 8 th (1, 3, 0)) 1) | none => false) else true) = true := by decide +kernel
/-- diff 1 4 0 -/
theorem z346_2_354_6_t9 : (bif z346_2_354_6r.isSome then (match z346_2_354_6r with | some (th, F1, _) => yle 2 F1 (zsh (ymv 0 8 th (1, 1, 0)) 0) (ymv 0 8 th (1, 4, 0)) || (Nat.beq 1 0 && yge 2 F1 (ymv 0 8 th (1, 4, 0)) 0) | none => false) else true) = true := by decide +kernel
/-- diff 1 5 1 -/
theorem z346_2_354_6_t10 : (bif z346_2_354_6r.isSome then (match z346_2_354_6r with | some (th, F1, _) => yle 2 F1 (zsh (ymv 0 8 th (1, 1, 0)) 1) (ymv 0 8 th (1, 5, 0)) || (Nat.beq 1 0 && yge 2 F1 (ymv 0 8 th (1, 5, 0)) 1) | none => false) else true) = true := by decide +kernel
/-- diff 1 6 1 -/
theorem z346_2_354_6_t11 : (bif z346_2_354_6r.isSome then (match z346_2_354_6r with | some (th, F1, _) => yle 2 F1 (zsh (ymv 0 8 th (1, 1, 0)) 1) (ymv 0 8 th (1, 6, 0)) || (Nat.beq 1 0 && yge 2 F1 (ymv 0 8 th (1, 6, 0)) 1) | none => false) else true) = true := by decide +kernel
/-- diff 1 7 1 -/
theorem z346_2_354_6_t12 : (bif z346_2_354_6r.isSome then (match z346_2_354_6r with | some (th, F1, _) => yle 2 F1 (zsh (ymv 0 8 th (1, 1, 0)) 1) (ymv 0 8 th (1, 7, 0)) || (Nat.beq 1 0 && yge 2 F1 (ymv 0 8 th (1, 7, 0)) 1) | none => false) else true) = true := by decide +kernel
/-- diff 2 5 0 -/
theorem z346_2_354_6_t13 : (bif z346_2_354_6r.isSome then (match z346_2_354_6r with | some (th, F1, _) => yle 2 F1 (zsh (ymv 0 8 th (1, 2, 0)) 0) (ymv 0 8 th (1, 5, 0)) || (Nat.beq 2 0 && yge 2 F1 (ymv 0 8 th (1, 5, 0)) 0) | none => false) else true) = true := by decide +kernel
/-- diff 3 7 0 -/
theorem z346_2_354_6_t14 : (bif z346_2_354_6r.isSome then (match z346_2_354_6r with | some (th, F1, _) => yle 2 F1 (zsh (ymv 0 8 th (1, 3, 0)) 0) (ymv 0 8 th (1, 7, 0)) || (Nat.beq 3 0 && yge 2 F1 (ymv 0 8 th (1, 7, 0)) 0) | none => false) else true) = true := by decide +kernel
/-- diff 7 3 0 -/
theorem z346_2_354_6_t15 : (bif z346_2_354_6r.isSome then (match z346_2_354_6r with | some (th, F1, _) => yle 2 F1 (zsh (ymv 0 8 th (1, 7, 0)) 0) (ymv 0 8 th (1, 3, 0)) || (Nat.beq 7 0 && yge 2 F1 (ymv 0 8 th (1, 3, 0)) 0) | none => false) else true) = true := by decide +kernel
/-- facts -/
theorem z346_2_354_6_t16 : (bif z346_2_354_6r.isSome then (match z346_2_354_6r, z346_2_354 with | some (th, F1, es1), some s => yfm F1 (ysy yY yNn F1 es1 s.2.2.2.2.2.1).1 yY yNn (ymv 0 8 th) x346T6.2.2.2.1 | _, _ => false) else true) = true := by decide +kernel
/-- pred (11, 0, 1, (1, 0, 0)) -/
theorem z346_2_354_6_t17 : (bif z346_2_354_6r.isSome then (match z346_2_354_6r, z346_2_354 with | some (th, F1, es1), some s => ypm F1 (ymv 0 8 th) (ysy yY yNn F1 es1 s.2.2.2.2.2.1).2 [(x346T6.2.2.2.2.1).getD 0 (9, 0, 0, zk 0)] | _, _ => false) else true) = true := by decide +kernel
/-- pred (14, 2, 0, (1, 2, 0)) -/
theorem z346_2_354_6_t18 : (bif z346_2_354_6r.isSome then (match z346_2_354_6r, z346_2_354 with | some (th, F1, es1), some s => ypm F1 (ymv 0 8 th) (ysy yY yNn F1 es1 s.2.2.2.2.2.1).2 [(x346T6.2.2.2.2.1).getD 1 (9, 0, 0, zk 0)] | _, _ => false) else true) = true := by decide +kernel
/-- pred (6, 77, 0, (1, 0, 0)) -/
theorem z346_2_354_6_t19 : (bif z346_2_354_6r.isSome then (match z346_2_354_6r, z346_2_354 with | some (th, F1, es1), some s => ypm F1 (ymv 0 8 th) (ysy yY yNn F1 es1 s.2.2.2.2.2.1).2 [(x346T6.2.2.2.2.1).getD 2 (9, 0, 0, zk 0)] | _, _ => false) else true) = true := by decide +kernel
/-- pred (2, 34, 0, (1, 0, 0)) -/
theorem z346_2_354_6_t20 : (bif z346_2_354_6r.isSome then (match z346_2_354_6r, z346_2_354 with | some (th, F1, es1), some s => ypm F1 (ymv 0 8 th) (ysy yY yNn F1 es1 s.2.2.2.2.2.1).2 [(x346T6.2.2.2.2.1).getD 3 (9, 0, 0, zk 0)] | _, _ => false) else true) = true := by decide +kernel
/-- pred (2, 4, 0, (1, 0, 0)) -/
theorem z346_2_354_6_t21 : (bif z346_2_354_6r.isSome then (match z346_2_354_6r, z346_2_354 with | some (th, F1, es1), some s => ypm F1 (ymv 0 8 th) (ysy yY yNn F1 es1 s.2.2.2.2.2.1).2 [(x346T6.2.2.2.2.1).getD 4 (9, 0, 0, zk 0)] | _, _ => false) else true) = true := by decide +kernel
/-- pred (2, 67, 0, (1, 0, 0)) -/
theorem z346_2_354_6_t22 : (bif z346_2_354_6r.isSome then (match z346_2_354_6r, z346_2_354 with | some (th, F1, es1), some s => ypm F1 (ymv 0 8 th) (ysy yY yNn F1 es1 s.2.2.2.2.2.1).2 [(x346T6.2.2.2.2.1).getD 5 (9, 0, 0, zk 0)] | _, _ => false) else true) = true := by decide +kernel
/-- pred (9, 77, 0, (1, 0, 0)) -/
theorem z346_2_354_6_t23 : (bif z346_2_354_6r.isSome then (match z346_2_354_6r, z346_2_354 with | some (th, F1, es1), some s => ypm F1 (ymv 0 8 th) (ysy yY yNn F1 es1 s.2.2.2.2.2.1).2 [(x346T6.2.2.2.2.1).getD 6 (9, 0, 0, zk 0)] | _, _ => false) else true) = true := by decide +kernel
/-- pred (3, 0, 0, (1, 0, 0)) -/
theorem z346_2_354_6_t24 : (bif z346_2_354_6r.isSome then (match z346_2_354_6r, z346_2_354 with | some (th, F1, es1), some s => ypm F1 (ymv 0 8 th) (ysy yY yNn F1 es1 s.2.2.2.2.2.1).2 [(x346T6.2.2.2.2.1).getD 7 (9, 0, 0, zk 0)] | _, _ => false) else true) = true := by decide +kernel
/-- local 0 -/
theorem z346_2_354_6_t25 : (bif z346_2_354_6r.isSome then (match z346_2_354_6r, z346_2_354 with | some (th, F1, _), some s => yaf F1 s.2.1 8 th (x346T6.2.1.getD 0 (0, zk 0)) | _, _ => false) else true) = true := by decide +kernel
/-- local 1 -/
theorem z346_2_354_6_t26 : (bif z346_2_354_6r.isSome then (match z346_2_354_6r, z346_2_354 with | some (th, F1, _), some s => yaf F1 s.2.1 8 th (x346T6.2.1.getD 1 (0, zk 0)) | _, _ => false) else true) = true := by decide +kernel
/-- local 2 -/
theorem z346_2_354_6_t27 : (bif z346_2_354_6r.isSome then (match z346_2_354_6r, z346_2_354 with | some (th, F1, _), some s => yaf F1 s.2.1 8 th (x346T6.2.1.getD 2 (0, zk 0)) | _, _ => false) else true) = true := by decide +kernel
/-- measure -/
theorem z346_2_354_6_t28 : (bif z346_2_354_6r.isSome then (match z346_2_354_6r with | some (th, F1, _) => ym9 F1 (ymv 0 8 th) x346T6.2.2.2.2.2.2.1 (some x346T2) | none => false) else true) = true := by decide +kernel
def z346_2_354_7r : Option (List zV × zF × List yE) := match z346_2_354 with
  | some s => bif Nat.beq s.1 x346T7.1 then ysr yY yKk yNn s.2.1 (0, 0, 0) x346T7.2.2.2.2.2.1 (zk 0 :: yb0 (2 - 1) 1) s.2.2.2.1 s.2.2.2.2.1 else none
  | none => none
/-- bound ['1', '0', '0'] -/
theorem z346_2_354_7_t0 : (bif z346_2_354_7r.isSome then (match z346_2_354_7r with | some (th, F1, _) => yin F1 (ymv 0 7 th (1, 1, 0)) 0 0 | none => false) else true) = true := by decide +kernel
/-- bound ['2', '0', '8'] -/
theorem z346_2_354_7_t1 : (bif z346_2_354_7r.isSome then (match z346_2_354_7r with | some (th, F1, _) => yin F1 (ymv 0 7 th (1, 2, 0)) 0 8 | none => false) else true) = true := by decide +kernel
/-- bound ['3', '0', '16'] -/
theorem z346_2_354_7_t2 : (bif z346_2_354_7r.isSome then (match z346_2_354_7r with | some (th, F1, _) => yin F1 (ymv 0 7 th (1, 3, 0)) 0 16 | none => false) else true) = true := by decide +kernel
/-- bound ['4', '1', '8'] -/
theorem z346_2_354_7_t3 : (bif z346_2_354_7r.isSome then (match z346_2_354_7r with | some (th, F1, _) => yin F1 (ymv 0 7 th (1, 4, 0)) 1 8 | none => false) else true) = true := by decide +kernel
/-- bound ['5', '1', '7'] -/
theorem z346_2_354_7_t4 : (bif z346_2_354_7r.isSome then (match z346_2_354_7r with | some (th, F1, _) => yin F1 (ymv 0 7 th (1, 5, 0)) 1 7 | none => false) else true) = true := by decide +kernel
/-- bound ['6', '1', '8'] -/
theorem z346_2_354_7_t5 : (bif z346_2_354_7r.isSome then (match z346_2_354_7r with | some (th, F1, _) => yin F1 (ymv 0 7 th (1, 6, 0)) 1 8 | none => false) else true) = true := by decide +kernel
/-- diff 1 2 0 -/
theorem z346_2_354_7_t6 : (bif z346_2_354_7r.isSome then (match z346_2_354_7r with | some (th, F1, _) => yle 2 F1 (zsh (ymv 0 7 th (1, 1, 0)) 0) (ymv 0 7 th (1, 2, 0)) || (Nat.beq 1 0 && yge 2 F1 (ymv 0 7 th (1, 2, 0)) 0) | none => false) else true) = true := by decide +kernel
/-- diff 1 3 0 -/
theorem z346_2_354_7_t7 : (bif z346_2_354_7r.isSome then (match z346_2_354_7r with | some (th, F1, _) => yle 2 F1 (zsh (ymv 0 7 th (1, 1, 0)) 0) (ymv 0 7 th (1, 3, 0)) || (Nat.beq 1 0 && yge 2 F1 (ymv 0 7 th (1, 3, 0)) 0) | none => false) else true) = true := by decide +kernel
/-- diff 1 4 1 -/
theorem z346_2_354_7_t8 : (bif z346_2_354_7r.isSome then (match z346_2_354_7r with | some (th, F1, _) => yle 2 F1 (zsh (ymv 0 7 th (1, 1, 0)) 1) (ymv 0 7 th (1, 4, 0)) || (Nat.beq 1 0 && yge 2 F1 (ymv 0 7 th (1, 4, 0)) 1) | none => false) else true) = true := by decide +kernel
/-- diff 1 5 1 -/
theorem z346_2_354_7_t9 : (bif z346_2_354_7r.isSome then (match z346_2_354_7r with | some (th, F1, _) => yle 2 F1 (zsh (ymv 0 7 th (1, 1, 0)) 1) (ymv 0 7 th (1, 5, 0)) || (Nat.beq 1 0 && yge 2 F1 (ymv 0 7 th (1, 5, 0)) 1) | none => false) else true) = true := by decide +kernel
/-- diff 1 6 1 -/
theorem z346_2_354_7_t10 : (bif z346_2_354_7r.isSome then (match z346_2_354_7r with | some (th, F1, _) => yle 2 F1 (zsh (ymv 0 7 th (1, 1, 0)) 1) (ymv 0 7 th (1, 6, 0)) || (Nat.beq 1 0 && yge 2 F1 (ymv 0 7 th (1, 6, 0)) 1) | none => false) else true) = true := by decide +kernel
/-- diff 2 4 0 -/
theorem z346_2_354_7_t11 : (bif z346_2_354_7r.isSome then (match z346_2_354_7r with | some (th, F1, _) => yle 2 F1 (zsh (ymv 0 7 th (1, 2, 0)) 0) (ymv 0 7 th (1, 4, 0)) || (Nat.beq 2 0 && yge 2 F1 (ymv 0 7 th (1, 4, 0)) 0) | none => false) else true) = true := by decide +kernel
/-- facts -/
theorem z346_2_354_7_t12 : (bif z346_2_354_7r.isSome then (match z346_2_354_7r, z346_2_354 with | some (th, F1, es1), some s => yfm F1 (ysy yY yNn F1 es1 s.2.2.2.2.2.1).1 yY yNn (ymv 0 7 th) x346T7.2.2.2.1 | _, _ => false) else true) = true := by decide +kernel
/-- pred (11, 0, 1, (1, 0, 0)) -/
theorem z346_2_354_7_t13 : (bif z346_2_354_7r.isSome then (match z346_2_354_7r, z346_2_354 with | some (th, F1, es1), some s => ypm F1 (ymv 0 7 th) (ysy yY yNn F1 es1 s.2.2.2.2.2.1).2 [(x346T7.2.2.2.2.1).getD 0 (9, 0, 0, zk 0)] | _, _ => false) else true) = true := by decide +kernel
/-- pred (14, 6, 0, (1, 2, 0)) -/
theorem z346_2_354_7_t14 : (bif z346_2_354_7r.isSome then (match z346_2_354_7r, z346_2_354 with | some (th, F1, es1), some s => ypm F1 (ymv 0 7 th) (ysy yY yNn F1 es1 s.2.2.2.2.2.1).2 [(x346T7.2.2.2.2.1).getD 1 (9, 0, 0, zk 0)] | _, _ => false) else true) = true := by decide +kernel
/-- pred (6, 77, 0, (1, 0, 0)) -/
theorem z346_2_354_7_t15 : (bif z346_2_354_7r.isSome then (match z346_2_354_7r, z346_2_354 with | some (th, F1, es1), some s => ypm F1 (ymv 0 7 th) (ysy yY yNn F1 es1 s.2.2.2.2.2.1).2 [(x346T7.2.2.2.2.1).getD 2 (9, 0, 0, zk 0)] | _, _ => false) else true) = true := by decide +kernel
/-- pred (2, 34, 0, (1, 0, 0)) -/
theorem z346_2_354_7_t16 : (bif z346_2_354_7r.isSome then (match z346_2_354_7r, z346_2_354 with | some (th, F1, es1), some s => ypm F1 (ymv 0 7 th) (ysy yY yNn F1 es1 s.2.2.2.2.2.1).2 [(x346T7.2.2.2.2.1).getD 3 (9, 0, 0, zk 0)] | _, _ => false) else true) = true := by decide +kernel
/-- pred (2, 4, 0, (1, 0, 0)) -/
theorem z346_2_354_7_t17 : (bif z346_2_354_7r.isSome then (match z346_2_354_7r, z346_2_354 with | some (th, F1, es1), some s => ypm F1 (ymv 0 7 th) (ysy yY yNn F1 es1 s.2.2.2.2.2.1).2 [(x346T7.2.2.2.2.1).getD 4 (9, 0, 0, zk 0)] | _, _ => false) else true) = true := by decide +kernel
/-- pred (2, 67, 0, (1, 0, 0)) -/
theorem z346_2_354_7_t18 : (bif z346_2_354_7r.isSome then (match z346_2_354_7r, z346_2_354 with | some (th, F1, es1), some s => ypm F1 (ymv 0 7 th) (ysy yY yNn F1 es1 s.2.2.2.2.2.1).2 [(x346T7.2.2.2.2.1).getD 5 (9, 0, 0, zk 0)] | _, _ => false) else true) = true := by decide +kernel
/-- pred (9, 77, 0, (1, 0, 0)) -/
theorem z346_2_354_7_t19 : (bif z346_2_354_7r.isSome then (match z346_2_354_7r, z346_2_354 with | some (th, F1, es1), some s => ypm F1 (ymv 0 7 th) (ysy yY yNn F1 es1 s.2.2.2.2.2.1).2 [(x346T7.2.2.2.2.1).getD 6 (9, 0, 0, zk 0)] | _, _ => false) else true) = true := by decide +kernel
/-- pred (3, 0, 0, (1, 0, 0)) -/
theorem z346_2_354_7_t20 : (bif z346_2_354_7r.isSome then (match z346_2_354_7r, z346_2_354 with | some (th, F1, es1), some s => ypm F1 (ymv 0 7 th) (ysy yY yNn F1 es1 s.2.2.2.2.2.1).2 [(x346T7.2.2.2.2.1).getD 7 (9, 0, 0, zk 0)] | _, _ => false) else true) = true := by decide +kernel
/-- local 0 -/
theorem z346_2_354_7_t21 : (bif z346_2_354_7r.isSome then (match z346_2_354_7r, z346_2_354 with | some (th, F1, _), some s => yaf F1 s.2.1 7 th (x346T7.2.1.getD 0 (0, zk 0)) | _, _ => false) else true) = true := by decide +kernel
/-- local 1 -/
theorem z346_2_354_7_t22 : (bif z346_2_354_7r.isSome then (match z346_2_354_7r, z346_2_354 with | some (th, F1, _), some s => yaf F1 s.2.1 7 th (x346T7.2.1.getD 1 (0, zk 0)) | _, _ => false) else true) = true := by decide +kernel
/-- measure -/
theorem z346_2_354_7_t23 : (bif z346_2_354_7r.isSome then (match z346_2_354_7r with | some (th, F1, _) => ym9 F1 (ymv 0 7 th) x346T7.2.2.2.2.2.2.1 (some x346T2) | none => false) else true) = true := by decide +kernel
def z346_2_354_8r : Option (List zV × zF × List yE) := match z346_2_354 with
  | some s => bif Nat.beq s.1 x346T8.1 then ysr yY yKk yNn s.2.1 (0, 0, 0) x346T8.2.2.2.2.2.1 (zk 0 :: yb0 (2 - 1) 1) s.2.2.2.1 s.2.2.2.2.1 else none
  | none => none
/-- bound ['1', '0', '0'] -/
theorem z346_2_354_8_t0 : (bif z346_2_354_8r.isSome then (match z346_2_354_8r with | some (th, F1, _) => yin F1 (ymv 0 12 th (1, 1, 0)) 0 0 | none => false) else true) = true := by decide +kernel
/-- bound ['2', '1', '8'] -/
theorem z346_2_354_8_t1 : (bif z346_2_354_8r.isSome then (match z346_2_354_8r with | some (th, F1, _) => yin F1 (ymv 0 12 th (1, 2, 0)) 1 8 | none => false) else true) = true := by decide +kernel
/-- bound ['3', '1', '8'] -/
theorem z346_2_354_8_t2 : (bif z346_2_354_8r.isSome then (match z346_2_354_8r with | some (th, F1, _) => yin F1 (ymv 0 12 th (1, 3, 0)) 1 8 | none => false) else true) = true := by decide +kernel
/-- bound ['4', '1', '8'] -/
theorem z346_2_354_8_t3 : (bif z346_2_354_8r.isSome then (match z346_2_354_8r with | some (th, F1, _) => yin F1 (ymv 0 12 th (1, 4, 0)) 1 8 | none => false) else true) = true := by decide +kernel
/-- bound ['5', '1', '7'] -/
theorem z346_2_354_8_t4 : (bif z346_2_354_8r.isSome then (match z346_2_354_8r with | some (th, F1, _) => yin F1 (ymv 0 12 th (1, 5, 0)) 1 7 | none => false) else true) = true := by decide +kernel
/-- bound ['6', '1', '8'] -/
theorem z346_2_354_8_t5 : (bif z346_2_354_8r.isSome then (match z346_2_354_8r with | some (th, F1, _) => yin F1 (ymv 0 12 th (1, 6, 0)) 1 8 | none => false) else true) = true := by decide +kernel
/-- bound ['7', '0', '255'] -/
theorem z346_2_354_8_t6 : (bif z346_2_354_8r.isSome then (match z346_2_354_8r with | some (th, F1, _) => yin F1 (ymv 0 12 th (1, 7, 0)) 0 255 | none => false) else true) = true := by decide +kernel
/-- bound ['8', '0', '7'] -/
theorem z346_2_354_8_t7 : (bif z346_2_354_8r.isSome then (match z346_2_354_8r with | some (th, F1, _) => yin F1 (ymv 0 12 th (1, 8, 0)) 0 7 | none => false) else true) = true := by decide +kernel
/-- bound ['9', '0', '7'] -/
theorem z346_2_354_8_t8 : (bif z346_2_354_8r.isSome then (match z346_2_354_8r with | some (th, F1, _) => yin F1 (ymv 0 12 th (1, 9, 0)) 0 7 | none => false) else true) = true := by decide +kernel
/-- bound ['10', '1', '16'] -/
theorem z346_2_354_8_t9 : (bif z346_2_354_8r.isSome then (match z346_2_354_8r with | some (th, F1, _) => yin F1 (ymv 0 12 th (1, 10, 0)) 1 16 | none => false) else true) = true := by decide +kernel
/-- bound ['11', '1', '4'] -/
theorem z346_2_354_8_t10 : (bif z346_2_354_8r.isSome then (match z346_2_354_8r with | some (th, F1, _) => yin F1 (ymv 0 12 th (1, 11, 0)) 1 4 | none => false) else true) = true := by decide +kernel
/-- diff 1 2 1 -/
theorem z346_2_354_8_t11 : (bif z346_2_354_8r.isSome then (match z346_2_354_8r with | some (th, F1, _) => yle 2 F1 (zsh (ymv 0 12 th (1, 1, 0)) 1) (ymv 0 12 th (1, 2, 0)) || (Nat.beq 1 0 && yge 2 F1 (ymv 0 12 th (1, 2, 0)) 1) | none => false) else true) = true := by decide +kernel
/-- diff 1 3 1 -/
theorem z346_2_354_8_t12 : (bif z346_2_354_8r.isSome then (match z346_2_354_8r with | some (th, F1, _) => yle 2 F1 (zsh (ymv 0 12 th (1, 1, 0)) 1) (ymv 0 12 th (1, 3, 0)) || (Nat.beq 1 0 && yge 2 F1 (ymv 0 12 th (1, 3, 0)) 1) | none => false) else true) = true := by decide +kernel
/-- diff 1 4 1 -/
theorem z346_2_354_8_t13 : (bif z346_2_354_8r.isSome then (match z346_2_354_8r with | some (th, F1, _) => yle 2 F1 (zsh (ymv 0 12 th (1, 1, 0)) 1) (ymv 0 12 th (1, 4, 0)) || (Nat.beq 1 0 && yge 2 F1 (ymv 0 12 th (1, 4, 0)) 1) | none => false) else true) = true := by decide +kernel
/-- diff 1 5 1 -/
theorem z346_2_354_8_t14 : (bif z346_2_354_8r.isSome then (match z346_2_354_8r with | some (th, F1, _) => yle 2 F1 (zsh (ymv 0 12 th (1, 1, 0)) 1) (ymv 0 12 th (1, 5, 0)) || (Nat.beq 1 0 && yge 2 F1 (ymv 0 12 th (1, 5, 0)) 1) | none => false) else true) = true := by decide +kernel
/-- diff 1 6 1 -/
theorem z346_2_354_8_t15 : (bif z346_2_354_8r.isSome then (match z346_2_354_8r with | some (th, F1, _) => yle 2 F1 (zsh (ymv 0 12 th (1, 1, 0)) 1) (ymv 0 12 th (1, 6, 0)) || (Nat.beq 1 0 && yge 2 F1 (ymv 0 12 th (1, 6, 0)) 1) | none => false) else true) = true := by decide +kernel
/-- diff 1 7 0 -/
theorem z346_2_354_8_t16 : (bif z346_2_354_8r.isSome then (match z346_2_354_8r with | some (th, F1, _) => yle 2 F1 (zsh (ymv 0 12 th (1, 1, 0)) 0) (ymv 0 12 th (1, 7, 0)) || (Nat.beq 1 0 && yge 2 F1 (ymv 0 12 th (1, 7, 0)) 0) | none => false) else true) = true := by decide +kernel
/-- diff 1 8 0 -/
theorem z346_2_354_8_t17 : (bif z346_2_354_8r.isSome then (match z346_2_354_8r with | some (th, F1, _) => yle 2 F1 (zsh (ymv 0 12 th (1, 1, 0)) 0) (ymv 0 12 th (1, 8, 0)) || (Nat.beq 1 0 && yge 2 F1 (ymv 0 12 th (1, 8, 0)) 0) | none => false) else true) = true := by decide +kernel
/-- diff 1 9 0 -/
theorem z346_2_354_8_t18 : (bif z346_2_354_8r.isSome then (match z346_2_354_8r with | some (th, F1, _) => yle 2 F1 (zsh (ymv 0 12 th (1, 1, 0)) 0) (ymv 0 12 th (1, 9, 0)) || (Nat.beq 1 0 && yge 2 F1 (ymv 0 12 th (1, 9, 0)) 0) | none => false) else true) = true := by decide +kernel
/-- diff 1 10 1 -/
theorem z346_2_354_8_t19 : (bif z346_2_354_8r.isSome then (match z346_2_354_8r with | some (th, F1, _) => yle 2 F1 (zsh (ymv 0 12 th (1, 1, 0)) 1) (ymv 0 12 th (1, 10, 0)) || (Nat.beq 1 0 && yge 2 F1 (ymv 0 12 th (1, 10, 0)) 1) | none => false) else true) = true := by decide +kernel
/-- diff 1 11 1 -/
theorem z346_2_354_8_t20 : (bif z346_2_354_8r.isSome then (match z346_2_354_8r with | some (th, F1, _) => yle 2 F1 (zsh (ymv 0 12 th (1, 1, 0)) 1) (ymv 0 12 th (1, 11, 0)) || (Nat.beq 1 0 && yge 2 F1 (ymv 0 12 th (1, 11, 0)) 1) | none => false) else true) = true := by decide +kernel
/-- diff 2 6 0 -/
theorem z346_2_354_8_t21 : (bif z346_2_354_8r.isSome then (match z346_2_354_8r with | some (th, F1, _) => yle 2 F1 (zsh (ymv 0 12 th (1, 2, 0)) 0) (ymv 0 12 th (1, 6, 0)) || (Nat.beq 2 0 && yge 2 F1 (ymv 0 12 th (1, 6, 0)) 0) | none => false) else true) = true := by decide +kernel
/-- diff 3 4 0 -/
theorem z346_2_354_8_t22 : (bif z346_2_354_8r.isSome then (match z346_2_354_8r with | some (th, F1, _) => yle 2 F1 (zsh (ymv 0 12 th (1, 3, 0)) 0) (ymv 0 12 th (1, 4, 0)) || (Nat.beq 3 0 && yge 2 F1 (ymv 0 12 th (1, 4, 0)) 0) | none => false) else true) = true := by decide +kernel
/-- diff 4 3 0 -/
theorem z346_2_354_8_t23 : (bif z346_2_354_8r.isSome then (match z346_2_354_8r with | some (th, F1, _) => yle 2 F1 (zsh (ymv 0 12 th (1, 4, 0)) 0) (ymv 0 12 th (1, 3, 0)) || (Nat.beq 4 0 && yge 2 F1 (ymv 0 12 th (1, 3, 0)) 0) | none => false) else true) = true := by decide +kernel
/-- facts -/
theorem z346_2_354_8_t24 : (bif z346_2_354_8r.isSome then (match z346_2_354_8r, z346_2_354 with | some (th, F1, es1), some s => yfm F1 (ysy yY yNn F1 es1 s.2.2.2.2.2.1).1 yY yNn (ymv 0 12 th) x346T8.2.2.2.1 | _, _ => false) else true) = true := by decide +kernel
/-- pred (11, 1, 1, (1, 0, 0)) -/
theorem z346_2_354_8_t25 : (bif z346_2_354_8r.isSome then (match z346_2_354_8r, z346_2_354 with | some (th, F1, es1), some s => ypm F1 (ymv 0 12 th) (ysy yY yNn F1 es1 s.2.2.2.2.2.1).2 [(x346T8.2.2.2.2.1).getD 0 (9, 0, 0, zk 0)] | _, _ => false) else true) = true := by decide +kernel
/-- pred (14, 2, 0, (1, 2, 0)) -/
theorem z346_2_354_8_t26 : (bif z346_2_354_8r.isSome then (match z346_2_354_8r, z346_2_354 with | some (th, F1, es1), some s => ypm F1 (ymv 0 12 th) (ysy yY yNn F1 es1 s.2.2.2.2.2.1).2 [(x346T8.2.2.2.2.1).getD 1 (9, 0, 0, zk 0)] | _, _ => false) else true) = true := by decide +kernel
/-- pred (6, 77, 0, (1, 0, 0)) -/
theorem z346_2_354_8_t27 : (bif z346_2_354_8r.isSome then (match z346_2_354_8r, z346_2_354 with | some (th, F1, es1), some s => ypm F1 (ymv 0 12 th) (ysy yY yNn F1 es1 s.2.2.2.2.2.1).2 [(x346T8.2.2.2.2.1).getD 2 (9, 0, 0, zk 0)] | _, _ => false) else true) = true := by decide +kernel
/-- pred (2, 34, 0, (1, 0, 0)) -/
theorem z346_2_354_8_t28 : (bif z346_2_354_8r.isSome then (match z346_2_354_8r, z346_2_354 with | some (th, F1, es1), some s => ypm F1 (ymv 0 12 th) (ysy yY yNn F1 es1 s.2.2.2.2.2.1).2 [(x346T8.2.2.2.2.1).getD 3 (9, 0, 0, zk 0)] | _, _ => false) else true) = true := by decide +kernel
/-- pred (2, 4, 0, (1, 0, 0)) -/
theorem z346_2_354_8_t29 : (bif z346_2_354_8r.isSome then (match z346_2_354_8r, z346_2_354 with | some (th, F1, es1), some s => ypm F1 (ymv 0 12 th) (ysy yY yNn F1 es1 s.2.2.2.2.2.1).2 [(x346T8.2.2.2.2.1).getD 4 (9, 0, 0, zk 0)] | _, _ => false) else true) = true := by decide +kernel
/-- pred (2, 67, 0, (1, 0, 0)) -/
theorem z346_2_354_8_t30 : (bif z346_2_354_8r.isSome then (match z346_2_354_8r, z346_2_354 with | some (th, F1, es1), some s => ypm F1 (ymv 0 12 th) (ysy yY yNn F1 es1 s.2.2.2.2.2.1).2 [(x346T8.2.2.2.2.1).getD 5 (9, 0, 0, zk 0)] | _, _ => false) else true) = true := by decide +kernel
/-- pred (9, 77, 0, (1, 0, 0)) -/
theorem z346_2_354_8_t31 : (bif z346_2_354_8r.isSome then (match z346_2_354_8r, z346_2_354 with | some (th, F1, es1), some s => ypm F1 (ymv 0 12 th) (ysy yY yNn F1 es1 s.2.2.2.2.2.1).2 [(x346T8.2.2.2.2.1).getD 6 (9, 0, 0, zk 0)] | _, _ => false) else true) = true := by decide +kernel
/-- pred (3, 0, 0, (1, 0, 0)) -/
theorem z346_2_354_8_t32 : (bif z346_2_354_8r.isSome then (match z346_2_354_8r, z346_2_354 with | some (th, F1, es1), some s => ypm F1 (ymv 0 12 th) (ysy yY yNn F1 es1 s.2.2.2.2.2.1).2 [(x346T8.2.2.2.2.1).getD 7 (9, 0, 0, zk 0)] | _, _ => false) else true) = true := by decide +kernel
/-- local 0 -/
theorem z346_2_354_8_t33 : (bif z346_2_354_8r.isSome then (match z346_2_354_8r, z346_2_354 with | some (th, F1, _), some s => yaf F1 s.2.1 12 th (x346T8.2.1.getD 0 (0, zk 0)) | _, _ => false) else true) = true := by decide +kernel
/-- local 1 -/
theorem z346_2_354_8_t34 : (bif z346_2_354_8r.isSome then (match z346_2_354_8r, z346_2_354 with | some (th, F1, _), some s => yaf F1 s.2.1 12 th (x346T8.2.1.getD 1 (0, zk 0)) | _, _ => false) else true) = true := by decide +kernel
/-- local 2 -/
theorem z346_2_354_8_t35 : (bif z346_2_354_8r.isSome then (match z346_2_354_8r, z346_2_354 with | some (th, F1, _), some s => yaf F1 s.2.1 12 th (x346T8.2.1.getD 2 (0, zk 0)) | _, _ => false) else true) = true := by decide +kernel
/-- measure -/
theorem z346_2_354_8_t36 : (bif z346_2_354_8r.isSome then (match z346_2_354_8r with | some (th, F1, _) => ym9 F1 (ymv 0 12 th) x346T8.2.2.2.2.2.2.1 (some x346T2) | none => false) else true) = true := by decide +kernel
