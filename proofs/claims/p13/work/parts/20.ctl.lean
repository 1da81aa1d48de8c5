/-! jumps, the stack -/
def zisc (i : Instr) : Bool := match i with
  | .goto _ | .ifCond _ _ | .if_icmp _ _ | .iinc _ _ | .i2l | .l2i | .lcmp | .dup | .dup_x1 | .dup2 | .pop | .pop2 | .tableswitch _ _ _ _ => true
  | _ => false
def zo2 (p : Option zF × Option zF) (t e : Nat) (ls : zL) (st : List zV) (w : zW) : List zO :=
  match p.1, p.2 with
  | some F1, some F2 => [(t, ls, st, F1, w), (e, ls, st, F2, w)]
  | some F1, none => [(t, ls, st, F1, w)]
  | none, some F2 => [(e, ls, st, F2, w)]
  | none, none => []
theorem zo2_l {p : Option zF × Option zF} {t e : Nat} {ls : zL} {st : List zV} {w : zW} {F : zF} (h : p.1 = some F) : (t, ls, st, F, w) ∈ zo2 p t e ls st w := by
  obtain ⟨a, b⟩ := p
  cases h
  cases b <;> exact List.mem_cons_self
theorem zo2_r {p : Option zF × Option zF} {t e : Nat} {ls : zL} {st : List zV} {w : zW} {F : zF} (h : p.2 = some F) : (e, ls, st, F, w) ∈ zo2 p t e ls st w := by
  obtain ⟨a, b⟩ := p
  cases h
  cases a
  · exact List.mem_cons_self
  · exact List.mem_cons_of_mem _ List.mem_cons_self
/-- the ways of a switch -/
def ztb (F : zF) (a : zV) (pc : Nat) (ls : zL) (st : List zV) (w : zW) : List Int → Int → Option (List zO)
  | [], _ => some []
  | off :: l, k => match zfi (k + 1) fun k1 => ztb F a pc ls st w l k1 with
    | none => none
    | some L => match mtgt pc off with
      | none => none
      | some t => match zeqs F a (zk k) with
        | some F' => zfn t fun t => some ((t, ls, st, F', w) :: L)
        | none => some L
theorem ztb_ok {r : List Int} {F : zF} {a : zV} {pc : Nat} {ls : zL} {st : List zV} {w : zW} {x : Int} (hF : zFok r F) (hx : zd r a = some x) : ∀ {os : List Int} {k : Int} {L : List zO} {m : Nat} {off : Int},
    ztb F a pc ls st w os k = some L → os[m]? = some off → x = k + m → ∃ t F', mtgt pc off = some t ∧ zFok r F' ∧ (t, ls, st, F', w) ∈ L
  | [], _, _, _, _, _, ho, _ => by cases ho
  | o :: l, k, L, m, off, h, ho, hk => by
    unfold ztb at h
    simp only [zfi_eq, zfn_eq] at h
    cases hr : ztb F a pc ls st w l (k + 1) with
    | none => rw [hr] at h; cases h
    | some L' =>
      rw [hr] at h
      simp only at h
      cases ht : mtgt pc o with
      | none => rw [ht] at h; cases h
      | some t =>
        rw [ht] at h
        simp only at h
        cases m with
        | zero =>
          cases ho
          have e : x = k := by omega
          subst e
          obtain ⟨F', e1, e2⟩ := zeqs_ok hF hx (zk_d hF x)
          rw [e1] at h
          cases h
          exact ⟨t, F', ht, e2, List.mem_cons_self⟩
        | succ m =>
          obtain ⟨t', F', g1, g2, g3⟩ := ztb_ok hF hx hr ho (by omega)
          refine ⟨t', F', g1, g2, ?_⟩
          split at h
          · cases h; exact List.mem_cons_of_mem _ g3
          · cases h; exact g3
def zsw (F : zF) (a : zV) (pc : Nat) (ls : zL) (st : List zV) (w : zW) (d lo hi : Int) (os : List Int) : Option (List zO) :=
  bif zle (hi - lo + 1) (.ofNat os.length) then
    (match mtgt pc d, ztb F a pc ls st w os lo with
    | some t, some L => zfn t fun t =>
      match zas F a (zk (lo - 1)), zas F (zk (hi + 1)) a with
      | some F1, some F2 => some ((t, ls, st, F1, w) :: (t, ls, st, F2, w) :: L)
      | some F1, none => some ((t, ls, st, F1, w) :: L)
      | none, some F2 => some ((t, ls, st, F2, w) :: L)
      | none, none => some L
    | _, _ => none)
  else none
/-- the comparison of two longs -/
def zlc (F : zF) (a b : zV) : zV × zF :=
  bif Nat.beq a.1 3 && Nat.beq b.1 3 then
    (bif zve a b then (zk 0, F) else
    match zlh F a, zlh F b with
    | some (la, ha), some (lb, hb) =>
      bif zle (ha + 1) lb then (zk (.negSucc 0), F) else bif zle (hb + 1) la then (zk 1, F) else
      bif zeq la ha && zeq lb hb && zeq la lb then (zk 0, F) else ((1, F.1, 0), zfr F (.negSucc 0) 1)
    | _, _ => ((1, F.1, 0), zfr F (.negSucc 0) 1))
  else ((1, F.1, 0), zfr F (.negSucc 0) 1)
def zct (nL : Nat) (q : mIns) (pc : Nat) (ls : zL) (st : List zV) (F : zF) (w : zW) : Option (List zO) :=
  match q.2.1 with
  | .goto off => (match mtgt pc off with
    | some t => zfn t fun t => some [(t, ls, st, F, w)]
    | none => none)
  | .ifCond c off => (match st with
    | a :: rr => bif Nat.beq a.1 1 then (match mtgt pc off with
      | some t => zfn t fun t => zfn (pc + 3) fun e => some (zo2 (zcnd F c a (zk 0)) t e ls rr w)
      | none => none) else none
    | _ => none)
  | .if_icmp c off => (match st with
    | b :: a :: rr => bif Nat.beq a.1 1 && Nat.beq b.1 1 then (match mtgt pc off with
      | some t => zfn t fun t => zfn (pc + 3) fun e => some (zo2 (zcnd F c a b) t e ls rr w)
      | none => none) else none
    | _ => none)
  | .iinc i n => (match zld ls i with
    | some a => bif Nat.beq a.1 1 && zin n n && Nat.ble (i + 1) nL then (match zbi F 1 a (zk n) with
      | some (c, F') => zfn (pc + 3) fun p => some [(p, zs1 ls i c, st, F', w)]
      | none => none) else none
    | none => none)
  | .i2l => (match st with
    | a :: rr => bif Nat.beq a.1 1 then zfn (pc + 1) fun p => some [(p, ls, (3, a.2) :: rr, F, w)] else none
    | _ => none)
  | .l2i => (match st with
    | a :: rr => bif Nat.beq a.1 3 then (match zlh F a with
        | some (l, h) => bif zin l h then zfn (pc + 1) fun p => some [(p, ls, (1, a.2) :: rr, F, w)] else zfn (pc + 1) fun p => some [(p, ls, (1, F.1, 0) :: rr, zfr F zI0 zI1, w)]
        | none => none)
      else bif Nat.ble 3 a.1 then zfn (pc + 1) fun p => some [(p, ls, (1, F.1, 0) :: rr, zfr F zI0 zI1, w)] else none
    | _ => none)
  | .lcmp => (match st with
    | b :: a :: rr => bif Nat.ble 3 a.1 && Nat.ble 3 b.1 then (match zlc F a b with
      | (c, F') => zfn (pc + 1) fun p => some [(p, ls, c :: rr, F', w)]) else none
    | _ => none)
  | .dup => (match st with
    | a :: rr => bif zc1 a then zfn (pc + 1) fun p => some [(p, ls, a :: a :: rr, F, w)] else none
    | _ => none)
  | .dup_x1 => (match st with
    | a :: b :: rr => bif zc1 a && zc1 b then zfn (pc + 1) fun p => some [(p, ls, a :: b :: a :: rr, F, w)] else none
    | _ => none)
  | .dup2 => (match st with
    | a :: b :: rr => bif zc1 a && zc1 b then zfn (pc + 1) fun p => some [(p, ls, a :: b :: a :: b :: rr, F, w)] else none
    | _ => none)
  | .pop => (match st with
    | a :: rr => bif zc1 a then zfn (pc + 1) fun p => some [(p, ls, rr, F, w)] else none
    | _ => none)
  | .pop2 => (match st with
    | a :: rr => bif Nat.ble 3 a.1 then zfn (pc + 1) fun p => some [(p, ls, rr, F, w)] else none
    | _ => none)
  | .tableswitch d lo hi offs => (match st with
    | a :: rr => bif Nat.beq a.1 1 then zsw F a pc ls rr w d lo hi offs.toList else none
    | _ => none)
  | _ => none
theorem zcmp3 (x y : Int64) : lg_cmp x y = if y.toInt < x.toInt then 1 else if x.toInt = y.toInt then 0 else -1 := by
  unfold lg_cmp
  simp only [Int64.lt_iff_toInt_lt, ← Int64.toInt_inj]
theorem zlc_ok {r : List Int} {F F' : zF} {a b c : zV} {x y : Int64} (hF : zFok r F) (hx : zvm r (.long x) a) (hy : zvm r (.long y) b) (h : zlc F a b = (c, F')) :
    ∃ r', zX r r' ∧ zFok r' F' ∧ zvm r' (.int (lg_cmp x y)) c := by
  have any : ∀ {c : zV} {F' : zF}, ((1, F.1, 0), zfr F (.negSucc 0) 1) = (c, F') → ∃ r', zX r r' ∧ zFok r' F' ∧ zvm r' (.int (lg_cmp x y)) c := by
    intro c F' e
    cases e
    have m : Int.negSucc 0 ≤ (lg_cmp x y).toInt ∧ (lg_cmp x y).toInt ≤ 1 := by
      have k1 : (Int.negSucc 0 : Int) = -1 := rfl
      rw [k1, zcmp3]
      have e1 : (1 : Int32).toInt = 1 := rfl
      have e0 : (0 : Int32).toInt = 0 := rfl
      have em : (-1 : Int32).toInt = -1 := rfl
      split
      · rw [e1]; omega
      · split
        · rw [e0]; omega
        · rw [em]; omega
    obtain ⟨g1, g2, g3⟩ := zfr_ok hF m.1 m.2
    exact ⟨_, g3, g1, zvm_int rfl (zd_some.mpr ⟨_, g2, by simp⟩)⟩
  unfold zlc at h
  cases c0 : (Nat.beq a.1 3 && Nat.beq b.1 3) with
  | false => rw [c0] at h; exact any h
  | true =>
    rw [c0] at h
    simp only [cond_true] at h
    simp only [Bool.and_eq_true] at c0
    obtain ⟨x', e1, hx'⟩ := zvm_l3 hx c0.1
    obtain ⟨y', e2, hy'⟩ := zvm_l3 hy c0.2
    cases e1
    cases e2
    cases c1 : zve a b with
    | true =>
      rw [c1] at h
      cases h
      have e := zve_d (r := r) c1
      rw [hx', hy'] at e
      have e : x.toInt = y.toInt := Option.some.inj e
      refine ⟨r, zX.rf, hF, zvm_int rfl ?_⟩
      rw [zcmp3, if_neg (by omega), if_pos e]
      exact zk_d hF 0
    | false =>
      rw [c1] at h
      simp only [cond_false] at h
      split at h
      · rename_i la ha lb hb ea eb
        obtain ⟨i1, i2⟩ := zlh_ok hF ea hx'
        obtain ⟨j1, j2⟩ := zlh_ok hF eb hy'
        cases c2 : zle (ha + 1) lb with
        | true =>
          rw [c2] at h
          cases h
          have := zle_iff.mp c2
          refine ⟨r, zX.rf, hF, zvm_int rfl ?_⟩
          rw [zcmp3, if_neg (by omega), if_neg (by omega)]
          exact zk_d hF (-1)
        | false =>
          rw [c2] at h
          simp only [cond_false] at h
          cases c3 : zle (hb + 1) la with
          | true =>
            rw [c3] at h
            cases h
            have := zle_iff.mp c3
            refine ⟨r, zX.rf, hF, zvm_int rfl ?_⟩
            rw [zcmp3, if_pos (by omega)]
            exact zk_d hF 1
          | false =>
            rw [c3] at h
            simp only [cond_false] at h
            cases c4 : (zeq la ha && zeq lb hb && zeq la lb) with
            | true =>
              rw [c4] at h
              cases h
              simp only [Bool.and_eq_true, zeq_iff] at c4
              refine ⟨r, zX.rf, hF, zvm_int rfl ?_⟩
              rw [zcmp3, if_neg (by omega), if_pos (by omega)]
              exact zk_d hF 0
            | false => rw [c4] at h; exact any h
      · exact any h
theorem zsw_ok {r : List Int} {F : zF} {a : zV} {pc : Nat} {ls : zL} {st : List zV} {w : zW} {x d lo hi : Int} {os : Array Int} {L : List zO} (hF : zFok r F) (hx : zd r a = some x)
    (h : zsw F a pc ls st w d lo hi os.toList = some L) :
    (x < lo ∨ hi < x → ∃ t F', mtgt pc d = some t ∧ zFok r F' ∧ (t, ls, st, F', w) ∈ L) ∧
    (¬ (x < lo ∨ hi < x) → ∃ off t F', os[(x - lo).toNat]? = some off ∧ mtgt pc off = some t ∧ zFok r F' ∧ (t, ls, st, F', w) ∈ L) := by
  unfold zsw at h
  cases c : zle (hi - lo + 1) (.ofNat os.toList.length) with
  | false => rw [c] at h; cases h
  | true =>
    rw [c] at h
    have hlen := zle_iff.mp c
    simp only [cond_true, zfn_eq] at h
    split at h
    · rename_i t L' et el
      have hsub : ∀ o ∈ L', o ∈ L := by
        intro o ho
        split at h <;> cases h
        · exact List.mem_cons_of_mem _ (List.mem_cons_of_mem _ ho)
        · exact List.mem_cons_of_mem _ ho
        · exact List.mem_cons_of_mem _ ho
        · exact ho
      refine ⟨fun hd => ?_, fun hd => ?_⟩
      · rcases hd with hd | hd
        · obtain ⟨F1, e1, g1⟩ := zas_ok hF hx (zk_d hF (lo - 1)) (by omega)
          rw [e1] at h
          refine ⟨t, F1, et, g1, ?_⟩
          cases e9 : zas F (zk (hi + 1)) a with
          | none => rw [e9] at h; cases h; exact List.mem_cons_self
          | some F2 => rw [e9] at h; cases h; exact List.mem_cons_self
        · obtain ⟨F2, e2, g2⟩ := zas_ok hF (zk_d hF (hi + 1)) hx (by omega)
          rw [e2] at h
          refine ⟨t, F2, et, g2, ?_⟩
          cases e9 : zas F a (zk (lo - 1)) with
          | none => rw [e9] at h; cases h; exact List.mem_cons_self
          | some F1 => rw [e9] at h; cases h; exact List.mem_cons_of_mem _ List.mem_cons_self
      · have hk : (x - lo).toNat < os.toList.length := by
          simp only [Int.ofNat_eq_natCast] at hlen
          omega
        have ho : os.toList[(x - lo).toNat]? = some (os.toList[(x - lo).toNat]) := List.getElem?_eq_getElem hk
        obtain ⟨t', F', g1, g2, g3⟩ := ztb_ok hF hx el ho (by omega)
        refine ⟨_, t', F', ?_, g1, g2, hsub _ g3⟩
        rw [← Array.getElem?_toList]
        exact ho
    · cases h
theorem zct_ok {E : mEnv} {r : List Int} {nL pc : Nat} {q : mIns} {ls : mLs} {als : zL} {st : List Value} {ast : List zV} {mem : mMem} {F : zF} {w : zW} {L : List zO}
    (hF : zFok r F) (hl : zls r ls als) (hs : zlm r st ast) (hm : zmm r mem w) (h : zct nL q pc als ast F w = some L) : zSt E r nL q pc ls st mem L := by
  unfold zSt mplain
  unfold zct at h
  generalize q.2.1 = i at h ⊢
  split at h
  · -- goto
    split at h
    · rename_i t et
      simp only [zfn_eq] at h
      cases h
      exact ⟨t, ls, st, mem, r, by simp only [et], zX.rf, _, List.mem_cons_self, rfl, hl, hs, hF, hm⟩
    · cases h
  · -- ifCond
    rename_i c off
    split at h
    · rename_i a rr
      obtain ⟨v, vs, rfl, hv, hvs⟩ := zlm_cons hs
      cases c1 : Nat.beq a.1 1 with
      | false => rw [c1] at h; cases h
      | true =>
        rw [c1] at h
        simp only [cond_true, zfn_eq] at h
        obtain ⟨x, rfl, hx⟩ := zvm_i hv c1
        split at h
        · rename_i t et
          cases h
          have e0 : (0 : Int32).toInt = 0 := rfl
          obtain ⟨g1, g2⟩ := zcnd_ok (c := c) (y := 0) hF hx (b := zk 0) (by rw [e0]; exact zk_d hF 0)
          cases hc : mcond c x 0 with
          | true =>
            obtain ⟨F', e1, e2⟩ := g1 hc
            exact ⟨t, ls, vs, mem, r, by simp only [et, hc, if_true], zX.rf, _, zo2_l e1, rfl, hl, hvs, e2, hm⟩
          | false =>
            obtain ⟨F', e1, e2⟩ := g2 hc
            exact ⟨pc + 3, ls, vs, mem, r, by simp only [et, hc]; rfl, zX.rf, _, zo2_r e1, rfl, hl, hvs, e2, hm⟩
        · cases h
    · cases h
  · -- if_icmp
    rename_i c off
    split at h
    · rename_i b a rr
      obtain ⟨v, vs, rfl, hv, hvs⟩ := zlm_cons hs
      obtain ⟨u, us, rfl, hu, hus⟩ := zlm_cons hvs
      cases c1 : (Nat.beq a.1 1 && Nat.beq b.1 1) with
      | false => rw [c1] at h; cases h
      | true =>
        rw [c1] at h
        simp only [cond_true, zfn_eq] at h
        simp only [Bool.and_eq_true] at c1
        obtain ⟨y, rfl, hy⟩ := zvm_i hv c1.2
        obtain ⟨x, rfl, hx⟩ := zvm_i hu c1.1
        split at h
        · rename_i t et
          cases h
          obtain ⟨g1, g2⟩ := zcnd_ok (c := c) hF hx hy
          cases hc : mcond c x y with
          | true =>
            obtain ⟨F', e1, e2⟩ := g1 hc
            exact ⟨t, ls, us, mem, r, by simp only [et, hc, if_true], zX.rf, _, zo2_l e1, rfl, hl, hus, e2, hm⟩
          | false =>
            obtain ⟨F', e1, e2⟩ := g2 hc
            exact ⟨pc + 3, ls, us, mem, r, by simp only [et, hc]; rfl, zX.rf, _, zo2_r e1, rfl, hl, hus, e2, hm⟩
        · cases h
    · cases h
  · -- iinc
    rename_i i n
    split at h
    · rename_i a ea
      cases c1 : (Nat.beq a.1 1 && zin n n && Nat.ble (i + 1) nL) with
      | false => rw [c1] at h; cases h
      | true =>
        rw [c1] at h
        simp only [cond_true] at h
        simp only [Bool.and_eq_true, zin_iff, Nat.ble_eq] at c1
        obtain ⟨⟨c2, c3, c4⟩, c5⟩ := c1
        obtain ⟨v, ev, hv⟩ := hl i a ea
        obtain ⟨x, rfl, hx⟩ := zvm_i hv c2
        have en : (Int32.ofInt n).toInt = n := Int32.toInt_ofInt_of_le (by rw [zI0e] at c3; omega) (by rw [zI1e] at c4; omega)
        split at h
        · rename_i c' F' ez
          simp only [zfn_eq] at h
          cases h
          obtain ⟨z, r', z1, z2, z3, z4, z5⟩ := zbi_ok (y := Int32.ofInt n) hF hx (by rw [en]; exact zk_d hF n) ez
          have z1 : x + Int32.ofInt n = z := Option.some.inj z1
          refine ⟨pc + 3, _, st, mem, r', by simp only [ev]; rw [if_pos (by omega), z1], z2, _, List.mem_cons_self, rfl, (hl.ex z2).s1 (zvm_int z5 z4), hs.ex z2, z3, hm.ex z2⟩
        · cases h
    · cases h
  · -- i2l
    split at h
    · rename_i a rr
      obtain ⟨v, vs, rfl, hv, hvs⟩ := zlm_cons hs
      cases c1 : Nat.beq a.1 1 with
      | false => rw [c1] at h; cases h
      | true =>
        rw [c1] at h
        simp only [cond_true, zfn_eq] at h
        cases h
        obtain ⟨x, rfl, hx⟩ := zvm_i hv c1
        refine ⟨pc + 1, ls, .long x.toInt64 :: vs, mem, r, rfl, zX.rf, _, List.mem_cons_self, rfl, hl, ⟨zvm_lng rfl ?_, hvs⟩, hF, hm⟩
        rw [Int32.toInt_toInt64]
        exact hx
    · cases h
  · -- l2i
    split at h
    · rename_i a rr
      obtain ⟨v, vs, rfl, hv, hvs⟩ := zlm_cons hs
      have any : ∀ {x : Int64}, some [((pc + 1 : Nat), als, ((1, F.1, 0) : zV) :: rr, zfr F zI0 zI1, w)] = some L → v = .long x → ∃ pc' ls' st' mem' r', (match v :: vs with
          | .long x :: r => some (pc + 1, ls, Value.int x.toInt32 :: r, mem)
          | _ => none) = some (pc', ls', st', mem') ∧ zX r r' ∧ ∃ o ∈ L, zro r' pc' ls' st' mem' o := by
        intro x h e
        subst e
        cases h
        obtain ⟨m1, m2⟩ := zI32 x.toInt32
        obtain ⟨g1, g2, g3⟩ := zfr_ok hF m1 m2
        exact ⟨pc + 1, ls, .int x.toInt32 :: vs, mem, _, rfl, g3, _, List.mem_cons_self, rfl, hl.ex g3, ⟨zvm_int rfl (zd_some.mpr ⟨_, g2, by simp⟩), hvs.ex g3⟩, g1, hm.ex g3⟩
      cases c1 : Nat.beq a.1 3 with
      | true =>
        rw [c1] at h
        simp only [cond_true, zfn_eq] at h
        obtain ⟨x, rfl, hx⟩ := zvm_l3 hv c1
        split at h
        · rename_i l hh e
          obtain ⟨b1, b2⟩ := zlh_ok hF e hx
          cases c2 : zin l hh with
          | true =>
            rw [c2] at h
            cases h
            obtain ⟨k1, k2⟩ := zin_iff.mp c2
            refine ⟨pc + 1, ls, .int x.toInt32 :: vs, mem, r, rfl, zX.rf, _, List.mem_cons_self, rfl, hl, ⟨zvm_int rfl ?_, hvs⟩, hF, hm⟩
            rw [Int64.toInt_toInt32, zbm (by omega) (by omega)]
            exact hx
          | false => rw [c2] at h; exact any h rfl
        · cases h
      | false =>
        rw [c1] at h
        simp only [cond_false, zfn_eq] at h
        cases c2 : Nat.ble 3 a.1 with
        | false => rw [c2] at h; cases h
        | true =>
          rw [c2] at h
          obtain ⟨x, e⟩ := zvm_l hv c2
          exact any h e
    · cases h
  · -- lcmp
    split at h
    · rename_i b a rr
      obtain ⟨v, vs, rfl, hv, hvs⟩ := zlm_cons hs
      obtain ⟨u, us, rfl, hu, hus⟩ := zlm_cons hvs
      cases c1 : (Nat.ble 3 a.1 && Nat.ble 3 b.1) with
      | false => rw [c1] at h; cases h
      | true =>
        rw [c1] at h
        simp only [cond_true, zfn_eq] at h
        simp only [Bool.and_eq_true] at c1
        obtain ⟨y, rfl⟩ := zvm_l hv c1.2
        obtain ⟨x, rfl⟩ := zvm_l hu c1.1
        cases h
        obtain ⟨r', g1, g2, g3⟩ := zlc_ok hF hu hv (c := (zlc F a b).1) (F' := (zlc F a b).2) rfl
        exact ⟨pc + 1, ls, _, mem, r', rfl, g1, _, List.mem_cons_self, rfl, hl.ex g1, ⟨g3, hus.ex g1⟩, g2, hm.ex g1⟩
    · cases h
  · -- dup
    split at h
    · rename_i a rr
      obtain ⟨v, vs, rfl, hv, hvs⟩ := zlm_cons hs
      cases c1 : zc1 a with
      | false => rw [c1] at h; cases h
      | true =>
        rw [c1] at h
        simp only [cond_true, zfn_eq] at h
        cases h
        exact ⟨pc + 1, ls, v :: v :: vs, mem, r, by simp only [zvm_c1 hv c1, if_true], zX.rf, _, List.mem_cons_self, rfl, hl, ⟨hv, hv, hvs⟩, hF, hm⟩
    · cases h
  · -- dup_x1
    split at h
    · rename_i a b rr
      obtain ⟨v, vs, rfl, hv, hvs⟩ := zlm_cons hs
      obtain ⟨u, us, rfl, hu, hus⟩ := zlm_cons hvs
      cases c1 : (zc1 a && zc1 b) with
      | false => rw [c1] at h; cases h
      | true =>
        rw [c1] at h
        simp only [cond_true, zfn_eq] at h
        simp only [Bool.and_eq_true] at c1
        cases h
        exact ⟨pc + 1, ls, v :: u :: v :: us, mem, r, by simp only [zvm_c1 hv c1.1, zvm_c1 hu c1.2, and_self, if_true], zX.rf, _, List.mem_cons_self, rfl, hl, ⟨hv, hu, hv, hus⟩, hF, hm⟩
    · cases h
  · -- dup2
    split at h
    · rename_i a b rr
      obtain ⟨v, vs, rfl, hv, hvs⟩ := zlm_cons hs
      obtain ⟨u, us, rfl, hu, hus⟩ := zlm_cons hvs
      cases c1 : (zc1 a && zc1 b) with
      | false => rw [c1] at h; cases h
      | true =>
        rw [c1] at h
        simp only [cond_true, zfn_eq] at h
        simp only [Bool.and_eq_true] at c1
        cases h
        exact ⟨pc + 1, ls, v :: u :: v :: u :: us, mem, r, by simp only [zvm_c1 hv c1.1, zvm_c1 hu c1.2, and_self, if_true], zX.rf, _, List.mem_cons_self, rfl, hl, ⟨hv, hu, hv, hu, hus⟩, hF, hm⟩
    · cases h
  · -- pop
    split at h
    · rename_i a rr
      obtain ⟨v, vs, rfl, hv, hvs⟩ := zlm_cons hs
      cases c1 : zc1 a with
      | false => rw [c1] at h; cases h
      | true =>
        rw [c1] at h
        simp only [cond_true, zfn_eq] at h
        cases h
        exact ⟨pc + 1, ls, vs, mem, r, by simp only [zvm_c1 hv c1, if_true], zX.rf, _, List.mem_cons_self, rfl, hl, hvs, hF, hm⟩
    · cases h
  · -- pop2
    split at h
    · rename_i a rr
      obtain ⟨v, vs, rfl, hv, hvs⟩ := zlm_cons hs
      cases c1 : Nat.ble 3 a.1 with
      | false => rw [c1] at h; cases h
      | true =>
        rw [c1] at h
        simp only [cond_true, zfn_eq] at h
        cases h
        obtain ⟨x, rfl⟩ := zvm_l hv c1
        exact ⟨pc + 1, ls, vs, mem, r, rfl, zX.rf, _, List.mem_cons_self, rfl, hl, hvs, hF, hm⟩
    · cases h
  · -- tableswitch
    rename_i d lo hi offs
    split at h
    · rename_i a rr
      obtain ⟨v, vs, rfl, hv, hvs⟩ := zlm_cons hs
      cases c1 : Nat.beq a.1 1 with
      | false => rw [c1] at h; cases h
      | true =>
        rw [c1] at h
        simp only [cond_true] at h
        obtain ⟨x, rfl, hx⟩ := zvm_i hv c1
        obtain ⟨g1, g2⟩ := zsw_ok hF hx h
        by_cases hd : x.toInt < lo ∨ hi < x.toInt
        · obtain ⟨t, F', e1, e2, e3⟩ := g1 hd
          refine ⟨t, ls, vs, mem, r, ?_, zX.rf, _, e3, rfl, hl, hvs, e2, hm⟩
          simp only [if_pos hd, e1, Option.map_some]
        · obtain ⟨off, t, F', e0, e1, e2, e3⟩ := g2 hd
          refine ⟨t, ls, vs, mem, r, ?_, zX.rf, _, e3, rfl, hl, hvs, e2, hm⟩
          simp only [if_neg hd, e0, e1, Option.map_some]
    · cases h
  · cases h
