/-! hooks: what else may be said at a place -/
section
variable {gh : yGh}
abbrev yHs : Type := zF × List yE × yP
/-- an int within one of these -/
def yhc (v : zV) (es : List yE) (P : yP) (F : zF) : List Int → List yHs
  | [] => [(F, es, P)]
  | c :: l => (match yas 0 F v (zk (c - 1)) with
    | some F1 => [(F1, es, P)]
    | none => []) ++ (match yas 0 F (zk c) v with
    | some F2 => yhc v es P F2 l
    | none => [])
theorem yhc_ok {r : List Int} {v : zV} {es : List yE} {P : yP} {x : Int} (hx : zd r v = some x) : ∀ {l : List Int} {F : zF}, zFok r F → ∃ a ∈ yhc v es P F l, zFok r a.1 ∧ a.2 = (es, P)
  | [], F, hF => ⟨_, List.mem_singleton.mpr rfl, hF, rfl⟩
  | c :: l, F, hF => by
    unfold yhc
    rcases Int.lt_or_le x c with h | h
    · obtain ⟨F1, e1, h1⟩ := yas_ok (k0 := 0) hF hx (zk_d hF (c - 1)) (by omega)
      rw [e1]
      exact ⟨_, List.mem_append_left _ (List.mem_singleton.mpr rfl), h1, rfl⟩
    · obtain ⟨F2, e2, h2⟩ := yas_ok (k0 := 0) hF (zk_d hF c) hx h
      rw [e2]
      obtain ⟨a, a1, a2, a3⟩ := yhc_ok (es := es) (P := P) hx (l := l) h2
      exact ⟨a, List.mem_append_right _ a1, a2, a3⟩
/-- a local, or from 100 on a place of the stack -/
def yhv (k : Nat) (ls : zL) (st : List zV) : Option zV := bif Nat.ble 100 k then ynt st (k - 100) else zld ls k
theorem yhv_ok {r : List Int} {k : Nat} {ls : mLs} {als : zL} {st : List Value} {ast : List zV} {v : zV} (hl : zls r ls als) (hs : zlm r st ast) (h : yhv k als ast = some v) : ∃ w, zvm r w v := by
  unfold yhv at h
  cases c : Nat.ble 100 k with
  | true =>
    rw [c] at h
    simp only [cond_true] at h
    rw [ynt_eq] at h
    have : ∀ {st : List Value} {ast : List zV} {n : Nat} {v : zV}, zlm r st ast → ast[n]? = some v → ∃ w, zvm r w v := by
      intro st ast
      induction ast generalizing st with
      | nil => intro n v _ h; simp at h
      | cons a as ih =>
        intro n v hs h
        obtain ⟨w, ws, rfl, h1, h2⟩ := zlm_cons hs
        cases n with
        | zero => simp at h; subst h; exact ⟨w, h1⟩
        | succ n => exact ih h2 (by simpa using h)
    exact this hs h
  | false =>
    rw [c] at h
    obtain ⟨w, -, hw⟩ := hl k v h
    exact ⟨w, hw⟩
def yh_1 (k : Nat) (cs : List Int) (ls : zL) (st : List zV) (F : zF) (es : List yE) (P : yP) : Option (List yHs) := match yhv k ls st with
  | some v => bif Nat.beq v.1 1 then some (yhc v es P F cs) else none
  | none => none
/-- a reference of a few -/
def yh2 (p j : Nat) (F : zF) (es : List yE) (P : yP) : Nat → Nat → List yHs
  | _, 0 => []
  | a, n + 1 => (F, (p, zk (.ofNat j), (2, a, 0), 0) :: es, P) :: yh2 p j F es P (Nat.succ a) n
theorem yh2_mem {p j : Nat} {F : zF} {es : List yE} {P : yP} : ∀ {n a b : Nat}, a ≤ b → b < a + n → (F, (p, zk (.ofNat j), (2, b, 0), 0) :: es, P) ∈ yh2 p j F es P a n
  | 0, a, b, h1, h2 => by omega
  | n + 1, a, b, h1, h2 => by
    unfold yh2
    by_cases h : b = a
    · subst h; exact List.mem_cons_self
    · exact List.mem_cons_of_mem _ (yh2_mem (by omega) (by omega))
def yh_2 (j : Nat) (st : List zV) (F : zF) (es : List yE) (P : yP) (Y : zT yC 7) (K : List (Nat × yK)) (N : Nat) : Option (List yHs) := match st with
  | a :: _ => bif Nat.beq a.1 2 && Nat.ble (Nat.succ a.2.1) N && Nat.ble (Nat.succ j) (ztg 7 Y a.2.1).2.2.1 then (match yfi F a.2.1 (zk (.ofNat j)) es with
    | (0, _) => none
    | _ => (match zba (ykk K (ztg 7 Y a.2.1).2.2.2).1 j with
      | some (2, l, h) => some (yh2 a.2.1 j F es P l.toNat ((h - l).toNat + 1))
      | _ => none)) else none
  | _ => none
/-- a place that may be one that is known: it is, or it isn't -/
def yh3a (F : zF) (p : Nat) (i : zV) : List yE → Option yE
  | [] => none
  | e :: es => bif Nat.beq e.1 p && Nat.beq e.2.2.2 0 && Nat.beq e.2.2.1.1 1 && Nat.beq (yal F i e.2.1) 2 && (yle 2 F i e.2.1 || yle 2 F e.2.1 i) then some e else yh3a F p i es
def yh_3 (st : List zV) (F : zF) (es : List yE) (P : yP) (Y : zT yC 7) (N : Nat) : Option (List yHs) := match st with
  | i :: a :: _ => bif Nat.beq i.1 1 && Nat.beq a.1 2 then (match yh3a F a.2.1 i es with
    | none => none
    | some e => (match yk9 F es Y N a.2.1 e.2.1, yk9 F es Y N a.2.1 i with
      | some u, v => some ((match ynes 0 F i e.2.1 with
          | some F1 => [(F1, es, P)]
          | none => []) ++ (match yeqs 0 F i e.2.1 with
          | some F1 => (match v with
            | some v => (match yeqs 0 F1 v u with
              | some F2 => [(F2, (a.2.1, i, u, 0) :: es, P)]
              | none => [])
            | none => [(F1, (a.2.1, i, u, 0) :: es, P)])
          | none => []))
      | _, _ => none)) else none
  | _ => none
/-- the text's END -/
def yh_4 (F : zF) (es : List yE) (P : yP) (Y : zT yC 7) (K : List (Nat × yK)) (N : Nat) : Option (List yHs) :=
  bif yhp P 1 && (es.all (yut F (1, 0, 0, zk 0))) && !(ycE F es Y N) && Nat.ble 63 N then (match yrc F es Y K N 61 7 with
    | some (a, F1, es1) => bif Nat.beq a.1 1 then (match yas 0 (zfr F1 0 200) a (1, F1.1, 0) with
      | some F2 => some [(F2, (62, (1, F1.1, 0), zk (-1), 0) :: es1, P)]
      | none => some []) else none
    | none => none) else none
/-- the AGAIN that is open last -/
def yh_5 (F : zF) (es : List yE) (P : yP) (Y : zT yC 7) (K : List (Nat × yK)) (N : Nat) : Option (List yHs) :=
  bif yhp P 5 && (es.all (yut F (5, 0, 0, zk 0))) && Nat.ble 73 N then (match yrc F es Y K N 70 4 with
    | some (o, F1, es1) => (match yrc F1 es1 Y K N 70 3 with
      | some (c, F2, es2) => bif Nat.beq o.1 1 && Nat.beq c.1 1 && yge 2 F2 o 1 && yle 2 F2 c (zk 100) then (match yas 0 (zfr F2 0 99) (1, F2.1, 1) c with
        | some F3 => (match ybi 0 F3 3 (1, F2.1, 0) (zk 5) with
          | some (z, F4) => some [(F4, (71, z, zk 5, 0) :: (72, zsh o (-1), (1, F2.1, 0), 0) :: es2, P)]
          | none => none)
        | none => some []) else none
      | none => none)
    | none => none) else none
/-- ORDERS and PHASE -/
def yh_6 (F : zF) (es : List yE) (P : yP) (Y : zT yC 7) (K : List (Nat × yK)) (N : Nat) : Option (List yHs) :=
  bif yh1 P 6 77 && (es.all (yut F (6, 77, 0, zk 0))) then (match yrc F es Y K N 77 4 with
    | some (a, F1, es1) => (match yrc F1 es1 Y K N 77 5 with
      | some (b, F2, es2) => bif Nat.beq a.1 1 && Nat.beq b.1 1 then some ((match yeqs 0 F2 a (zk 0) with
          | some F3 => (match yeqs 0 F3 b (zk 0) with
            | some F4 => [(F4, es2, P)]
            | none => [])
          | none => []) ++ (match yas 0 F2 (zk 1) a with
          | some F3 => (match yas 0 F3 (zk 1) b with
            | some F4 => [(F4, es2, P)]
            | none => [])
          | none => [])) else none
      | none => none)
    | none => none) else none
/-- a RULE's NAME -/
def yh_7 (st : List zV) (F : zF) (es : List yE) (P : yP) (Y : zT yC 7) (N : Nat) : Option (List yHs) := match st with
  | i :: _ => (match es.find? fun e => [4, 34, 67].any fun X => Nat.beq e.1 (X + 1) && zve e.2.2.1 i && yh1 P 2 X && es.all (yut F (2, X, 0, zk 0)) && (match yk9 F es Y N X e.2.1, yk9 F es Y N (X + 1) e.2.1 with
      | some o, some v => yin F o 1 1 && zve v i
      | _, _ => false) with
    | some _ => (match yas 0 F (zk 0) i with
      | some F1 => (match yas 0 F1 i (zk 9) with
        | some F2 => some [(F2, es, P)]
        | none => some [])
      | none => some [])
    | none => none)
  | _ => none
/-- a WORK's group and page -/
def yh8a (F : zF) (es : List yE) (Y : zT yC 7) (N s : Nat) : Bool := match yk9 F es Y N 71 (1, s, 0) with
  | some k => yin F k 0 2
  | none => false
def yh_8 (st : List zV) (F : zF) (es : List yE) (P : yP) (Y : zT yC 7) (K : List (Nat × yK)) (N : Nat) : Option (List yHs) := match st with
  | i :: _ => (match yrx F i with
    | some _ => bif (zeq i.2.2 1 || zeq i.2.2 2) && Nat.beq i.1 1 && yin F i 0 499 && yhp P 3 && (es.all (yut F (3, 0, 0, zk 0))) && Nat.ble 72 N && Nat.beq (ztg 7 Y 71).2.2.1 500 && yh8a F es Y N i.2.1 then (match yrp F es [] (ykk K (ztg 7 Y 71).2.2.2) (zk 500) 71 i with
          | some (v, F1, es1) => bif Nat.beq v.1 1 then (match yas 0 F1 v (zk 7) with
            | some F2 => some [(F2, es1, P)]
            | none => some []) else none
          | none => none) else none
    | none => none)
  | _ => none
def yh_10 (L : List (Nat × Nat)) (F : zF) (es : List yE) (P : yP) : Option (List yHs) := match L with
  | [q] => (match zlh F (1, q.2, 0) with
    | some p => (match yas 0 F (1, q.1, 0) (zk (p.2 / 2)) with
      | some F1 => some [(F1, es, P)]
      | none => some [])
    | none => none)
  | _ => none
def yh_12 (p j : Nat) (cs : List Int) (F : zF) (es : List yE) (P : yP) (Y : zT yC 7) (K : List (Nat × yK)) (N : Nat) : Option (List yHs) := match yrc F es Y K N p j with
  | some (v, F1, es1) => bif Nat.beq v.1 1 then some (yhc v es1 P F1 cs) else none
  | none => none
/-- from here on what is 0 is counted -/
def yh_13 (a : Nat) (F : zF) (es : List yE) (P : yP) (Y : zT yC 7) (K : List (Nat × yK)) (N : Nat) : Option (List yHs) := match yrc F es Y K N 75 7 with
  | some (v, F1, es1) => bif Nat.beq v.1 1 && yin F1 v 1 8 then (match ysy Y N F1 es1 P with
    | (es2, P2) => some [(F1, es2, (10, a, 0, zk 27) :: P2)]) else none
  | none => none
/-- what is read is below the SEGMENTS -/
def yh_14 (st : List zV) (F : zF) (es : List yE) (P : yP) (Y : zT yC 7) (K : List (Nat × yK)) (N : Nat) : Option (List yHs) := match st with
  | i :: a :: _ => bif Nat.beq i.1 1 && Nat.beq a.1 2 && yx0 (ycl9 F i) 1 && yh1 P 9 a.2.1 && (es.all (yut F (9, a.2.1, 0, zk 0))) && Nat.ble (Nat.succ a.2.1) N && Nat.ble (ztg 7 Y a.2.1).2.2.1 1000000 && yin F i 0 (.ofNat (ztg 7 Y a.2.1).2.2.1 - 1) then
      (match yrp F es [] (ykk K (ztg 7 Y a.2.1).2.2.2) (zk (.ofNat (ztg 7 Y a.2.1).2.2.1)) a.2.1 i with
      | some (v, F1, es1) => (match yrc F1 es1 Y K N 75 7 with
        | some (g, F2, es2) => bif Nat.beq v.1 1 && Nat.beq g.1 1 then (match yas 0 F2 (zsh v 1) g with
          | some F3 => some [(F3, es2, P)]
          | none => some []) else none
        | none => none)
      | none => none) else none
  | _ => none
/-- what is so at the call -/
def yhd : List (Nat × Nat × Int) → zF → Option zF
  | [], F => some F
  | q :: l, F => match yas 0 F (1, q.1, q.2.2) (1, q.2.1, 0) with
    | some F1 => yhd l F1
    | none => none
def yh_15 (dl : List (Nat × Nat × Int)) (F : zF) (es : List yE) (P : yP) : Option (List yHs) := match yhd dl F with
  | some F1 => some [(F1, es, P)]
  | none => some []
/-- a number and the ghost's: below, the same, above -/
def yh_16 (k b : Nat) (ls : zL) (st : List zV) (F : zF) (es : List yE) (P : yP) : Option (List yHs) := match yhv k ls st with
  | some v => bif Nat.beq v.1 1 && (Nat.beq b 0 || Nat.beq b 3) then some [(F, es, (14, b, 0, v) :: P), (F, es, (14, Nat.succ b, 0, v) :: P), (F, es, (14, Nat.succ (Nat.succ b), 0, v) :: P)] else none
  | none => none
/-- the bit that was looked at -/
def ybz (F : zF) (es : List yE) (Y : zT yC 7) (N : Nat) (g s : zV) : Option Nat := match zml F.2.2.2 3 (zk 7) g with
  | some z => bif yin F g 0 7 && yin F s 0 7 then (match yk9 F es Y N 77 (1, z, 81) with
    | some a => bif yge 2 F a 0 then (match zml F.2.2.2 8 a s with
      | some z1 => zml F.2.2.2 4 (1, z1, 0) (zk 1)
      | none => none) else none
    | none => none) else none
  | none => none
def yg11 (F : zF) (es : List yE) (P : yP) (b : Nat) : Bool := P.any fun t => Nat.beq t.1 11 && Nat.beq t.2.2.1 b && es.all (yut F t)
def yg13 (F : zF) (es : List yE) (P : yP) : Bool := yhp P 13 && es.all (yut F (13, 0, 0, zk 0))
def yh_17 (a b : Nat) (ls : zL) (F : zF) (es : List yE) (P : yP) (Y : zT yC 7) (N : Nat) : Option (List yHs) := match zld ls a, zld ls b with
  | some g, some s => bif Nat.beq g.1 1 && Nat.beq s.1 1 && ygeq P g s && yg11 F es P 0 then (match ybz F es Y N g s with
    | some z => bif yge 2 F (1, z, 0) 1 then some [] else none
    | none => none) else none
  | _, _ => none
def yh_18 (a : Nat) (ls : zL) (F : zF) (es : List yE) (P : yP) : Option (List yHs) := match zld ls a with
  | some g => bif Nat.beq g.1 1 && yg14 P 6 g then some [(F, es, (14, 0, 0, g) :: P), (F, es, (14, 1, 0, g) :: (14, 7, 0, zk 0) :: P)] else none
  | none => none
def ybz0 (F : zF) (es : List yE) (Y : zT yC 7) (N : Nat) (g s : zV) : Bool := match ybz F es Y N g s with
  | some z => yle 2 F (1, z, 0) (zk 0)
  | none => false
def ysg0 (F : zF) (es : List yE) (Y : zT yC 7) (N : Nat) (s : zV) : Bool := match yk9 F es Y N 75 (zk 7) with
  | some q => yle 2 F q s
  | none => false
def yh_19 (a b : Nat) (ls : zL) (F : zF) (es : List yE) (P : yP) (Y : zT yC 7) (N : Nat) : Option (List yHs) := match zld ls a, zld ls b with
  | some g, some s => bif Nat.beq g.1 1 && Nat.beq s.1 1 then (bif ygeq P g s && yg11 F es P 1 && ybz0 F es Y N g s then some [] else
      bif yg14 P 3 s then some [(F, es, (14, 7, 0, zsh s 1) :: P)] else bif yg14 P 4 s || yg14 P 5 s then some [(F, es, (14, 5, 0, zsh s 1) :: P)] else none) else none
  | _, _ => none
def yh_20 (a b : Nat) (ls : zL) (F : zF) (es : List yE) (P : yP) (Y : zT yC 7) (N : Nat) : Option (List yHs) := match zld ls a, zld ls b with
  | some g, some s => bif Nat.beq g.1 1 && Nat.beq s.1 1 then (bif yg14 P 0 g then some [(F, es, (14, 6, 0, zsh g 1) :: P)] else
      bif yg14 P 1 g && yg14 P 7 s && yg13 F es P && ysg0 F es Y N s then some [] else
      bif yg14 P 1 g || yg14 P 2 g then some [(F, es, (14, 2, 0, zsh g 1) :: P)] else none) else none
  | _, _ => none
def yh_21 (a : Nat) (ls : zL) (F : zF) (es : List yE) (P : yP) (Y : zT yC 7) (N : Nat) : Option (List yHs) := match zld ls a with
  | some g => bif Nat.beq g.1 1 && yg14 P 6 g && yg13 F es P then (match yk9 F es Y N 75 (zk 5) with
      | some q => bif yle 2 F q g then some [] else none
      | none => none) else none
  | none => none
/-- one in an empty row: that can't be -/
def yh_22 (F : zF) (es : List yE) (P : yP) (Y : zT yC 7) (N : Nat) : Option (List yHs) := bif P.any fun t => Nat.beq t.1 11 && Nat.beq t.2.1 1 && es.all (yut F t) then (match yk9 F es Y N 77 (zk 4) with
  | some n => bif yle 2 F n (zk 0) then some [] else none
  | none => none) else none
def yh_23 (F : zF) (es : List yE) (P : yP) : Option (List yHs) := some [(F, es, (14, 6, 0, zk 0) :: P)]
/-- nothing is SWAPPED -/
def yh24a (F : zF) (es : List yE) (Y : zT yC 7) (N : Nat) (i : zV) : Bool := match yfc F i.2.1 F.2.2.2, yk9 F es Y N 75 (zk 5) with
  | some (x, k), some q => zeq k 7 && zeq i.2.2 81 && yge 2 F x 0 && yle 2 F (zsh x 1) q
  | _, _ => false
def yh_24 (st : List zV) (F : zF) (es : List yE) (P : yP) (Y : zT yC 7) (N : Nat) : Option (List yHs) := match st with
  | a :: _ => bif Nat.beq a.1 1 && yhp P 15 && (es.all (yut F (15, 0, 0, zk 0))) && (es.any fun e => Nat.beq e.1 77 && yx0 (ycl9 F e.2.1) 2 && yh24a F es Y N e.2.1 && (match yk9 F es Y N 77 e.2.1 with
      | some b => zve b a
      | none => false)) then (match yas 0 F a (zk 0) with
    | some F1 => some [(F1, es, P)]
    | none => some []) else none
  | _ => none
def yh_25 (a b : Nat) (ls : zL) (F : zF) (es : List yE) (P : yP) : Option (List yHs) := match zld ls a, zld ls b with
  | some g, some s => bif Nat.beq g.1 1 && Nat.beq s.1 1 && yg14 P 1 g && yg14 P 7 s then some [(F, es, (14, 3, 0, s) :: P), (F, es, (14, 4, 0, s) :: P)] else none
  | _, _ => none
/-- the least bit: 0 or 1 -/
def yh_26 (st : List zV) (F : zF) (es : List yE) (P : yP) : Option (List yHs) := match st with
  | v :: _ => bif Nat.beq v.1 1 && zeq v.2.2 0 && (F.2.2.2.any fun q => Nat.beq q.1 4 && Nat.beq q.2.2.2 v.2.1 && zve q.2.2.1 (zk 1)) then (match yas 0 F (zk 0) v with
    | some F1 => (match yas 0 F1 v (zk 1) with
      | some F2 => some [(F2, es, P)]
      | none => some [])
    | none => some []) else none
  | _ => none
/-- a hook: its kind, two numbers, a list of ints -/
abbrev yHt : Type := Nat × Nat × Nat × List Int
def yhk (Y : zT yC 7) (K : List (Nat × yK)) (N : Nat) (ht : Nat → Nat → Option yHt) (dl : List (Nat × Nat × Int)) (L : List (Nat × Nat)) : yHk := fun mi pc ls st F es P => match ht mi pc with
  | none => none
  | some (k, a, b, cs) => match k with
    | 1 => yh_1 a cs ls st F es P
    | 2 => yh_2 a st F es P Y K N
    | 3 => yh_3 st F es P Y N
    | 4 => yh_4 F es P Y K N
    | 5 => yh_5 F es P Y K N
    | 6 => yh_6 F es P Y K N
    | 7 => yh_7 st F es P Y N
    | 8 => yh_8 st F es P Y K N
    | 9 => (match ysy Y N F es P with
      | (es1, P1) => some [(F, es1, P1)])
    | 10 => yh_10 L F es P
    | 11 => some [(F, es, (7, a, b, zk 0) :: P)]
    | 12 => yh_12 a b cs F es P Y K N
    | 13 => yh_13 a F es P Y K N
    | 14 => yh_14 st F es P Y K N
    | 15 => yh_15 dl F es P
    | 16 => yh_16 a b ls st F es P
    | 17 => yh_17 a b ls F es P Y N
    | 18 => yh_18 a ls F es P
    | 19 => yh_19 a b ls F es P Y N
    | 20 => yh_20 a b ls F es P Y N
    | 21 => yh_21 a ls F es P Y N
    | 22 => yh_22 F es P Y N
    | 23 => yh_23 F es P
    | 24 => yh_24 st F es P Y N
    | 25 => yh_25 a b ls F es P
    | 26 => yh_26 st F es P
    | _ => none
end
