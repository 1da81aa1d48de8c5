/-! a try of the checker's pace -/
def zE0 : mEnv := (zmt, zft_, fun _ => none, zxn)
def zd0 : zC := .inr (0, [])
def zt0 : (n : Nat) → zT zC n
  | 0 => zd0
  | n + 1 => zp2 (zt0 n) (zt0 n)
def zro0 : zQ := fun _ => none
def zcon0 : zK := fun _ _ _ _ _ _ => none
def zF0 : zF := (7, [(1, zI0, zI1), (2, zI0, zI1), (3, zI0, zI1), (4, zI0, zI1), (5, zI0, zI1), (6, zI0, zI1)], [], [])
def zsp (mi : Nat) (cell : zC) (args : zL) (st : List zV) : Option (List zU) := match zmt mi with
  | some M => yex zE0 zro0 0 zcon0 100000 50 mi M M.2.2.2.2.1 0 args st zF0 (1, zts 7 (zt0 7) 0 cell) 0 0
  | none => none
def zlen {α : Type} : Option (List α) → Nat
  | some l => l.length
  | none => 1000
set_option maxRecDepth 1000000 in
theorem zsp1 : zlen (zsp 0 (.inl (0, 1000, [(1000, 1, 0, 0)], [])) [(0, (2, 0, 0)), (1, (1, 0, 0))] []) = 1 := by decide +kernel
