/-! the same checker in small pieces: what the kernel unfolds at a step is short then -/
abbrev w9zRec : Type := Nat → Nat → mMeth → List mIns → Nat → zL → List zV → zF → zW → Nat → Nat → Option (List zU)
/-! the plain steps -/
def w9yp1 (pc : Nat) (ls : zL) (st : List zV) (F : zF) (w : zW) (k : Nat) : Option zV → Option (List zO)
  | some a => zfn (pc + k) fun p => some [(p, ls, a :: st, F, w)]
  | none => none
def w9yp2 (pc : Nat) (ls : zL) (st : List zV) (F : zF) (w : zW) (kd k : Nat) : Option zV → Option (List zO)
  | some a => bif zkd kd a then zfn (pc + k) fun p => some [(p, ls, a :: st, F, w)] else none
  | none => none
def w9yp3 (nL pc : Nat) (ls : zL) (F : zF) (w : zW) (j kd k : Nat) : List zV → Option (List zO)
  | a :: rr => bif zkd kd a && (Nat.ble (j + 2) nL || (Nat.ble (j + 1) nL && !(Nat.beq kd 1))) then
            zfn (pc + k) fun p => some [(p, (bif Nat.beq kd 1 then zs2 ls j a else zs1 ls j a), rr, F, w)] else none
  | [] => none
def w9yp4 (nL : Nat) (q : mIns) (pc : Nat) (ls : zL) (st : List zV) (F : zF) (w : zW) : Option (Nat × Nat × Nat) → Option (List zO)
  | some (j, kd, k) => w9yp3 nL pc ls F w j kd k st
  | none => zar q pc ls st F w
def w9yp5 (nL : Nat) (q : mIns) (pc : Nat) (ls : zL) (st : List zV) (F : zF) (w : zW) : Option (Nat × Nat × Nat) → Option (List zO)
  | some (j, kd, k) => w9yp2 pc ls st F w kd k (zld ls j)
  | none => w9yp4 nL q pc ls st F w (mstore q.2.1)
def w9yp6 (nL : Nat) (q : mIns) (pc : Nat) (ls : zL) (st : List zV) (F : zF) (w : zW) : Option (Value × Nat) → Option (List zO)
  | some (v, k) => w9yp1 pc ls st F w k (zcv v)
  | none => w9yp5 nL q pc ls st F w (mload q.2.1)
theorem w9yp6_eq (nL : Nat) (q : mIns) (pc : Nat) (ls : zL) (st : List zV) (F : zF) (w : zW) : w9yp6 nL q pc ls st F w (mpush q) = zdf nL q pc ls st F w := by
  unfold zdf w9yp6 w9yp5 w9yp4 w9yp1 w9yp2 w9yp3
  cases mpush q with
  | some p => rfl
  | none =>
    cases mload q.2.1 with
    | some p => rfl
    | none =>
      cases mstore q.2.1 with
      | some p => rfl
      | none => rfl
theorem w9zjn1 {α : Type} (x : Option (List α)) : zjn [x] = x := by
  cases x with
  | none => rfl
  | some a => simp [zjn]
/-! calls -/
def w9yc0 (rec : w9zRec) (d mi : Nat) (M : mMeth) (tl : List mIns) (ls : zL) (o : zU) : Option (Nat × Nat) → Option (List zU)
  | none => bif M.2.2.2.2.2.isEmpty then some [o] else none
  | some (j, pc') => bif Nat.ble (j + 1) M.2.2.1 then rec (d + 1) mi M tl pc' (zrl (zrp ls j) j) [] o.2.2.1 o.2.2.2.1 o.2.2.2.2.1 o.2.2.2.2.2 else none
def w9yc1 (E : mEnv) (rec : w9zRec) (d mi : Nat) (M : mMeth) (tl : List mIns) (pc : Nat) (ls : zL) (rest : List zV) (o : zU) : Option (List zU) := match o.1 with
  | 0 => zfn (pc + 3) fun p => rec (d + 1) mi M tl p ls rest o.2.2.1 o.2.2.2.1 o.2.2.2.2.1 o.2.2.2.2.2
  | 1 => zfn (pc + 3) fun p => rec (d + 1) mi M tl p ls (o.2.1 :: rest) o.2.2.1 o.2.2.2.1 o.2.2.2.2.1 o.2.2.2.2.2
  | _ => w9yc0 rec d mi M tl ls o (mcatch M pc (E.2.2.2 o.2.1.2.1))
def w9yc2 (E : mEnv) (rec : w9zRec) (d mi : Nat) (M : mMeth) (tl : List mIns) (pc : Nat) (ls : zL) (rest : List zV) : Option (List zU) → Option (List zU)
  | none => none
  | some [o] => w9yc1 E rec d mi M tl pc ls rest o
  | some L => zjn (L.map (w9yc1 E rec d mi M tl pc ls rest))
theorem w9yc2_eq (E : mEnv) (rec : w9zRec) (d mi : Nat) (M : mMeth) (tl : List mIns) (pc : Nat) (ls : zL) (rest : List zV) (x : Option (List zU)) :
    w9yc2 E rec d mi M tl pc ls rest x = (match x with
      | none => none
      | some L => zjn (L.map (w9yc1 E rec d mi M tl pc ls rest))) := by
  match x with
  | none => rfl
  | some [] => rfl
  | some [o] => exact (w9zjn1 _).symm
  | some (_ :: _ :: _) => rfl
def w9yc3 (rec : w9zRec) (d : Nat) (callee : Nat) (M' : mMeth) (args : List zV) (F : zF) (w : zW) (nc ns : Nat) : Option (List zU) → Option (List zU)
  | some L => some L
  | none => rec d callee M' M'.2.2.2.2.1 0 (zarg 0 args) [] F w nc ns
def w9yc4 (dn : Nat) (con : zK) (d : Nat) (callee : Nat) (args : List zV) (F : zF) (w : zW) (nc ns : Nat) : Option (List zU) := bif Nat.ble dn d then con callee args F w nc ns else none
def w9yc5 (q : mIns) (st : List zV) (w : zW) (M' : mMeth) : Bool := Nat.ble q.2.2.2.2.2.1 st.length && znz st && Nat.ble (zcat (st.drop q.2.2.2.2.2.1)) 8 && Nat.ble (zcat (st.take q.2.2.2.2.2.1)) M'.2.2.1 && zrc q (st.take q.2.2.2.2.2.1).reverse w
def w9yc6 (E : mEnv) (dn : Nat) (con : zK) (rec : w9zRec) (mi : Nat) (M : mMeth) (tl : List mIns) (q : mIns) (pc : Nat) (ls : zL) (st : List zV) (F : zF) (w : zW) (nc ns : Nat) : Nat → Option mMeth → Option (List zU)
  | d + 1, some M' => bif w9yc5 q st w M' then
      w9yc2 E rec d mi M tl pc ls (st.drop q.2.2.2.2.2.1) (w9yc3 rec d q.2.2.2.2.1 M' (st.take q.2.2.2.2.2.1).reverse F w nc ns (w9yc4 dn con d q.2.2.2.2.1 (st.take q.2.2.2.2.2.1).reverse F w nc ns)) else none
  | _, _ => none
/-! the rest -/
def w9yt8 (d : Nat) (M : mMeth) (q : mIns) (st : List zV) (F : zF) (w : zW) (nc ns : Nat) : Option (List zU) :=
  bif M.2.2.2.2.2.isEmpty && Nat.ble 8 d && znz st && Nat.ble (zcat st) 8 then some [(2, (0, q.2.2.2.2.1, 0), F, w, nc + 1, ns + 6)] else none
def w9yt7 (rec : w9zRec) (d mi : Nat) (M : mMeth) (tl : List mIns) (q : mIns) (pc : Nat) (ls : zL) (st : List zV) (F : zF) (w : zW) (nc ns : Nat) : Option (List zU) :=
  bif Nat.ble 8 d && znz st && Nat.ble (zcat st) 8 then (match zpr q.2.2.2.2.1 st w with
    | some (st', w') => zfn (pc + 3) fun p => rec d mi M tl p ls st' F w' nc ns
    | none => none) else none
def w9yr0 (F : zF) (w : zW) (nc ns : Nat) : List zV → Option FieldType → Option (List zU)
  | [], none => some [(0, (0, 0, 0), F, w, nc, ns)]
  | _, _ => none
def w9yr1 (F : zF) (w : zW) (nc ns : Nat) : List zV → Option FieldType → Option (List zU)
  | [a], some ty => bif Nat.beq a.1 1 && zft F ty a then some [(1, a, F, w, nc, ns)] else none
  | _, _ => none
def w9yr2 (F : zF) (w : zW) (nc ns : Nat) : List zV → Option FieldType → Option (List zU)
  | [a], some .long => bif Nat.ble 3 a.1 then some [(1, a, F, w, nc, ns)] else none
  | _, _ => none
def w9ya (rec : w9zRec) (d mi : Nat) (M : mMeth) (tl : List mIns) (pc : Nat) (ls : zL) (F : zF) (nc ns : Nat) : Option (Nat × List zV × zW × Nat) → Option (List zU)
  | some (k, st', w', ms) => zfn (pc + k) fun p => zfn (nc + 1) fun nc => zfn (ns + ms) fun ns => rec d mi M tl p ls st' F w' nc ns
  | none => none
def w9ys1 (rec : w9zRec) (d mi : Nat) (M : mMeth) (tl : List mIns) (nc ns : Nat) (o : zO) : Option (List zU) := rec d mi M tl o.1 o.2.1 o.2.2.1 o.2.2.2.1 o.2.2.2.2 nc ns
def w9ys (rec : w9zRec) (d mi : Nat) (M : mMeth) (tl : List mIns) (nc ns : Nat) : Option (List zO) → Option (List zU)
  | some [o] => w9ys1 rec d mi M tl nc ns o
  | some L => zjn (L.map (w9ys1 rec d mi M tl nc ns))
  | none => none
/-! jumps and the stack, by numbers -/
def w9yn (i : Instr) : Nat := match i with
  | .goto _ => 1
  | .ifCond _ _ => 2
  | .if_icmp _ _ => 3
  | .iinc _ _ => 4
  | .arraylength => 11
  | .iaload => 12
  | .laload => 13
  | .baload => 14
  | .iastore => 15
  | .lastore => 16
  | .bastore => 17
  | .getfield _ => 18
  | .putfield _ => 19
  | _ => 0
def w9yoff (i : Instr) : Int := match i with
  | .goto o => o
  | .ifCond _ o => o
  | .if_icmp _ o => o
  | _ => 0
def w9ycc (i : Instr) : Jvm.ClassFile.Cond := match i with
  | .ifCond c _ => c
  | .if_icmp c _ => c
  | _ => .eq
def w9yii (i : Instr) : Nat × Int := match i with
  | .iinc k n => (k, n)
  | _ => (0, 0)
def w9yg1 (ls : zL) (st : List zV) (F : zF) (w : zW) : Option Nat → Option (List zO)
  | some t => zfn t fun t => some [(t, ls, st, F, w)]
  | none => none
def w9yg2 (pc : Nat) (ls : zL) (rr : List zV) (w : zW) (p : Option zF × Option zF) : Option Nat → Option (List zO)
  | some t => zfn t fun t => zfn (pc + 3) fun e => some (zo2 p t e ls rr w)
  | none => none
def w9yg3 (c : Jvm.ClassFile.Cond) (pc : Nat) (ls : zL) (F : zF) (w : zW) (t : Option Nat) : List zV → Option (List zO)
  | a :: rr => bif Nat.beq a.1 1 then w9yg2 pc ls rr w (zcnd F c a (zk 0)) t else none
  | _ => none
def w9yg4 (c : Jvm.ClassFile.Cond) (pc : Nat) (ls : zL) (F : zF) (w : zW) (t : Option Nat) : List zV → Option (List zO)
  | b :: a :: rr => bif Nat.beq a.1 1 && Nat.beq b.1 1 then w9yg2 pc ls rr w (zcnd F c a b) t else none
  | _ => none
def w9yg5 (pc : Nat) (ls : zL) (st : List zV) (w : zW) (i : Nat) : Option (zV × zF) → Option (List zO)
  | some (c, F') => zfn (pc + 3) fun p => some [(p, zs1 ls i c, st, F', w)]
  | none => none
def w9yg6 (nL pc : Nat) (ls : zL) (st : List zV) (F : zF) (w : zW) (i : Nat) (n : Int) : Option zV → Option (List zO)
  | some a => bif Nat.beq a.1 1 && zin n n && Nat.ble (i + 1) nL then w9yg5 pc ls st w i (zbi F 1 a (zk n)) else none
  | none => none
def w9ym1 (pc : Nat) (ls : zL) : Option (zV × List zV × zF × zW) → Option (List zO)
  | some (c, rr, F', w') => zfn (pc + 1) fun p => some [(p, ls, c :: rr, F', w')]
  | none => none
def w9ym2 (pc : Nat) (ls : zL) : Option (List zV × zF × zW) → Option (List zO)
  | some (rr, F', w') => zfn (pc + 1) fun p => some [(p, ls, rr, F', w')]
  | none => none
def w9ym3 (pc : Nat) (ls : zL) (F : zF) (w : zW) : Option (zV × List zV) → Option (List zO)
  | some (c, rr) => zfn (pc + 3) fun p => some [(p, ls, c :: rr, F, w)]
  | none => none
def w9ym4 (pc : Nat) (ls : zL) (F : zF) : Option (List zV × zW) → Option (List zO)
  | some (rr, w') => zfn (pc + 3) fun p => some [(p, ls, rr, F, w')]
  | none => none
def w9yco (nL : Nat) (q : mIns) (pc : Nat) (ls : zL) (st : List zV) (F : zF) (w : zW) (k : Nat) : Option (List zO) :=
  bif Nat.ble k 2 then
    (bif Nat.beq k 2 then w9yg3 (w9ycc q.2.1) pc ls F w (mtgt pc (w9yoff q.2.1)) st
    else bif Nat.beq k 1 then w9yg1 ls st F w (mtgt pc (w9yoff q.2.1)) else zct nL q pc ls st F w)
  else bif Nat.beq k 3 then w9yg4 (w9ycc q.2.1) pc ls F w (mtgt pc (w9yoff q.2.1)) st
  else bif Nat.beq k 4 then w9yg6 nL pc ls st F w (w9yii q.2.1).1 (w9yii q.2.1).2 (zld ls (w9yii q.2.1).1)
  else zct nL q pc ls st F w
theorem w9yco_eq (nL : Nat) (q : mIns) (pc : Nat) (ls : zL) (st : List zV) (F : zF) (w : zW) : w9yco nL q pc ls st F w (w9yn q.2.1) = zct nL q pc ls st F w := by
  obtain ⟨p, i, k, a⟩ := q
  cases i <;> first | rfl | (cases st <;> rfl) | (cases st with | nil => rfl | cons b l => cases l <;> rfl) | skip
def w9ymo (ro : zQ) (ft : Nat → List FieldType) (q : mIns) (pc : Nat) (ls : zL) (st : List zV) (F : zF) (w : zW) (k : Nat) : Option (List zO) :=
  bif Nat.beq k 18 then w9ym3 pc ls F w (zgf q st w) else
  bif Nat.beq k 12 then w9ym1 pc ls (zld9 ro 0 st F w) else
  bif Nat.beq k 15 then w9ym2 pc ls (zst9 0 st F w) else
  bif Nat.beq k 19 then w9ym4 pc ls F (zpf ft q st F w) else
  zme ro ft q pc ls st F w
theorem w9ymo_eq (ro : zQ) (ft : Nat → List FieldType) (q : mIns) (pc : Nat) (ls : zL) (st : List zV) (F : zF) (w : zW) : w9ymo ro ft q pc ls st F w (w9yn q.2.1) = zme ro ft q pc ls st F w := by
  obtain ⟨p, i, k, a⟩ := q
  cases i <;> rfl
def w9yst (ro : zQ) (ft : Nat → List FieldType) (nL : Nat) (q : mIns) (pc : Nat) (ls : zL) (st : List zV) (F : zF) (w : zW) : Option (List zO) :=
  bif zisd q.2.1 then w9yp6 nL q pc ls st F w (mpush q) else bif zisc q.2.1 then w9yco nL q pc ls st F w (w9yn q.2.1) else w9ymo ro ft q pc ls st F w (w9yn q.2.1)
def w9yj (i : Instr) : Bool := match i with
  | .return_ => true
  | .ireturn => true
  | .lreturn => true
  | .new _ => true
  | .newarray _ => true
  | _ => false
def w9yi (E : mEnv) (ro : zQ) (rec : w9zRec) (d mi : Nat) (M : mMeth) (tl : List mIns) (q : mIns) (pc : Nat) (ls : zL) (st : List zV) (F : zF) (w : zW) (nc ns : Nat) : Instr → Option (List zU)
  | .return_ => w9yr0 F w nc ns st M.2.2.2.1
  | .ireturn => w9yr1 F w nc ns st M.2.2.2.1
  | .lreturn => w9yr2 F w nc ns st M.2.2.2.1
  | .new _ => w9ya rec d mi M tl pc ls F nc ns (zao E.2.1 q st F w)
  | .newarray _ => w9ya rec d mi M tl pc ls F nc ns (zao E.2.1 q st F w)
  | _ => w9ys rec d mi M tl nc ns (w9yst ro E.2.1 M.2.2.1 q pc ls st F w)
def w9yk (E : mEnv) (ro : zQ) (dn : Nat) (con : zK) (rec : w9zRec) (d mi : Nat) (M : mMeth) (pc : Nat) (ls : zL) (st : List zV) (F : zF) (w : zW) (nc ns : Nat) : Option (mIns × List mIns) → Option (List zU)
  | none => none
  | some (q, tl) =>
    bif Nat.ble 7 q.2.2.2.1 then
      (bif Nat.beq q.2.2.2.1 9 then w9yc6 E dn con rec mi M tl q pc ls st F w nc ns d (E.1 q.2.2.2.2.1)
      else bif Nat.beq q.2.2.2.1 8 then w9yt8 d M q st F w nc ns
      else bif Nat.beq q.2.2.2.1 7 then w9yt7 rec d mi M tl q pc ls st F w nc ns else none)
    else bif w9yj q.2.1 then w9yi E ro rec d mi M tl q pc ls st F w nc ns q.2.1 else w9ys rec d mi M tl nc ns (w9yst ro E.2.1 M.2.2.1 q pc ls st F w)
def w9yex (E : mEnv) (ro : zQ) (dn : Nat) (con : zK) : Nat → w9zRec
  | 0 => fun _ _ _ _ _ _ _ _ _ _ _ => none
  | n + 1 => fun d mi M cur pc ls st F w nc ns => w9yk E ro dn con (w9yex E ro dn con n) d mi M pc ls st F w nc ns (zft9 M.2.2.2.2.1 cur pc)
theorem w9yex_eq (E : mEnv) (ro : zQ) (dn : Nat) (con : zK) : ∀ n, w9yex E ro dn con n = zex E ro dn con n := by
  intro n
  induction n with
  | zero => rfl
  | succ n ih =>
    funext d mi M cur pc ls st F w nc ns
    show w9yk E ro dn con (w9yex E ro dn con n) d mi M pc ls st F w nc ns (zft9 M.2.2.2.2.1 cur pc) = _
    rw [ih]
    unfold zex
    cases zft9 M.2.2.2.2.1 cur pc with
    | none => rfl
    | some qt =>
      obtain ⟨q, tl⟩ := qt
      simp only [w9yk]
      cases c7 : Nat.ble 7 q.2.2.2.1 with
      | true =>
        simp only [cond_true]
        cases c9 : Nat.beq q.2.2.2.1 9 with
        | true =>
          simp only [cond_true]
          cases d with
          | zero => rfl
          | succ d =>
            cases E.1 q.2.2.2.2.1 with
            | none => rfl
            | some M' =>
              simp only [w9yc6]
              rw [w9yc2_eq]
              rfl
        | false =>
          simp only [cond_false]
          cases c8 : Nat.beq q.2.2.2.1 8 with
          | true => rfl
          | false =>
            simp only [cond_false]
            cases Nat.beq q.2.2.2.1 7 with
            | true => rfl
            | false => rfl
      | false =>
        have h7 : ¬ 7 ≤ q.2.2.2.1 := fun h => by rw [Nat.ble_eq.mpr h] at c7; cases c7
        have c9 : Nat.beq q.2.2.2.1 9 = false := by rw [← Bool.not_eq_true, zbe]; omega
        have c8 : Nat.beq q.2.2.2.1 8 = false := by rw [← Bool.not_eq_true, zbe]; omega
        have c6 : Nat.beq q.2.2.2.1 7 = false := by rw [← Bool.not_eq_true, zbe]; omega
        simp only [c9, c8, c6, cond_false]
        have est : w9yst ro E.2.1 M.2.2.1 q pc ls st F w = zst ro E.2.1 M.2.2.1 q pc ls st F w := by
          unfold w9yst zst
          rw [w9yp6_eq, w9yco_eq, w9ymo_eq]
        have dflt : w9ys (zex E ro dn con n) d mi M tl nc ns (w9yst ro E.2.1 M.2.2.1 q pc ls st F w) = (match zst ro E.2.1 M.2.2.1 q pc ls st F w with
            | some L => zjn (L.map fun o => zex E ro dn con n d mi M tl o.1 o.2.1 o.2.2.1 o.2.2.2.1 o.2.2.2.2 nc ns)
            | none => none) := by
          rw [est]
          cases zst ro E.2.1 M.2.2.1 q pc ls st F w with
          | none => rfl
          | some L =>
            match L with
            | [] => rfl
            | [o] => exact (w9zjn1 _).symm
            | _ :: _ :: _ => rfl
        generalize q.2.1 = i
        cases i <;> first | exact dflt | rfl
