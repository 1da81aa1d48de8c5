/-! pushes, loads, stores, arithmetic -/
def zisd (i : Instr) : Bool := match i with
  | .iconst _ | .bipush _ | .sipush _ | .lconst _ | .ldc _ | .ldc_w _ | .ldc2_w _ | .getstatic _ => true
  | .iload_n _ | .iload _ | .lload_n _ | .lload _ | .aload_n _ | .aload _ => true
  | .istore_n _ | .istore _ | .lstore_n _ | .lstore _ | .astore_n _ | .astore _ => true
  | .iadd | .isub | .imul | .iand | .ior | .ixor | .ishl | .ishr | .iushr | .idiv | .irem => true
  | .ladd | .lsub | .lmul | .land | .lor | .ineg | .i2b | .i2c => true
  | _ => false
theorem zisd_ok {E : mEnv} {nL pc : Nat} {q : mIns} {ls : mLs} {st : List Value} {mem : mMem} (h : zisd q.2.1 = true) : mplain E nL q pc ls st mem = mdef nL q pc ls st mem := by
  unfold mplain
  generalize hi : q.2.1 = i at h
  cases i <;> first | rfl | (cases h)
/-- long operations: exact, or any -/
def zbl (F : zF) (i : Instr) (a b : zV) : zV := match zlh F a, zlh F b with
  | some (la, ha), some (lb, hb) =>
    bif zeq la ha && zeq lb hb && Nat.beq a.1 3 && Nat.beq b.1 3 then (match mbinL i (Int64.ofInt la) (Int64.ofInt lb) with
      | some z => zfi z.toInt fun c => (3, 0, c)
      | none => (4, 0, 0)) else (4, 0, 0)
  | _, _ => (4, 0, 0)
theorem zbl_ok {r : List Int} {F : zF} {i : Instr} {a b : zV} {x y z : Int64} (hF : zFok r F) (hx : zvm r (.long x) a) (hy : zvm r (.long y) b) (hz : mbinL i x y = some z) : zvm r (.long z) (zbl F i a b) := by
  have any : zvm r (.long z) (4, 0, 0) := ⟨z, rfl⟩
  unfold zbl
  split
  · rename_i la ha lb hb ea eb
    cases c : (zeq la ha && zeq lb hb && Nat.beq a.1 3 && Nat.beq b.1 3) with
    | false => exact any
    | true =>
      simp only [Bool.and_eq_true, zeq_iff] at c
      obtain ⟨⟨⟨c1, c2⟩, c3⟩, c4⟩ := c
      obtain ⟨x', e1, hx'⟩ := zvm_l3 hx c3
      obtain ⟨y', e2, hy'⟩ := zvm_l3 hy c4
      cases e1
      cases e2
      obtain ⟨i1, i2⟩ := zlh_ok hF ea hx'
      obtain ⟨j1, j2⟩ := zlh_ok hF eb hy'
      have ex : Int64.ofInt la = x := by
        have : la = x.toInt := by omega
        rw [this, Int64.ofInt_toInt]
      have ey : Int64.ofInt lb = y := by
        have : lb = y.toInt := by omega
        rw [this, Int64.ofInt_toInt]
      rw [ex, ey, hz]
      simp only [cond_true, zfi_eq]
      exact zvm_lng rfl (zd_some.mpr ⟨0, hF.2.1, by dsimp only; omega⟩)
  · exact any
def zl5 (i : Instr) : Bool := match i with
  | .ladd | .lsub | .lmul | .land | .lor => true
  | _ => false
theorem zl5_ok {i : Instr} (h : zl5 i = true) (x y : Int64) : ∃ z, mbinL i x y = some z := by
  cases i <;> first | (cases h; done) | exact ⟨_, rfl⟩
/-- arithmetic -/
def zar (q : mIns) (pc : Nat) (ls : zL) (st : List zV) (F : zF) (w : zW) : Option (List zO) :=
  match st with
  | [] => none
  | b :: [] => bif Nat.beq b.1 1 then (match zun F q.2.1 b with
      | some (c, F') => zfn (pc + 1) fun p => some [(p, ls, [c], F', w)]
      | none => none) else none
  | b :: a :: rr =>
    bif Nat.beq b.1 1 then
      (bif Nat.beq a.1 1 then
        (bif Nat.beq (zon q.2.1) 0 then (match zun F q.2.1 b with
          | some (c, F') => zfn (pc + 1) fun p => some [(p, ls, c :: a :: rr, F', w)]
          | none => none)
        else (match zbi F (zon q.2.1) a b with
          | some (c, F') => zfn (pc + 1) fun p => some [(p, ls, c :: rr, F', w)]
          | none => none))
      else bif Nat.beq a.1 0 then none else (match zun F q.2.1 b with
          | some (c, F') => zfn (pc + 1) fun p => some [(p, ls, c :: a :: rr, F', w)]
          | none => none))
    else bif Nat.ble 3 b.1 && Nat.ble 3 a.1 && zl5 q.2.1 then zfn (pc + 1) fun p => some [(p, ls, zbl F q.2.1 a b :: rr, F, w)] else none
theorem zfalse {b : Bool} (h : b ≠ true) : b = false := by cases b <;> simp_all
theorem zar_ok {E : mEnv} {r : List Int} {nL pc : Nat} {q : mIns} {ls : mLs} {als : zL} {st : List Value} {ast : List zV} {mem : mMem} {F : zF} {w : zW} {L : List zO}
    (hp : mpush q = none) (hl9 : mload q.2.1 = none) (hs9 : mstore q.2.1 = none) (hd : zisd q.2.1 = true)
    (hF : zFok r F) (hl : zls r ls als) (hs : zlm r st ast) (hm : zmm r mem w) (h : zar q pc als ast F w = some L) : zSt E r nL q pc ls st mem L := by
  have e0 : mplain E nL q pc ls st mem = mdef nL q pc ls st mem := zisd_ok hd
  unfold mdef at e0
  rw [hp] at e0
  simp only [hl9, hs9] at e0
  unfold zar at h
  split at h
  · cases h
  · rename_i b
    obtain ⟨v, vs, rfl, hv, hvs⟩ := zlm_cons hs
    have hvs0 : vs = [] := by cases vs with
      | nil => rfl
      | cons _ _ => exact hvs.elim
    subst hvs0
    cases c : Nat.beq b.1 1 with
    | false => rw [c] at h; cases h
    | true =>
      rw [c] at h
      simp only [cond_true] at h
      obtain ⟨x, rfl, hx⟩ := zvm_i hv c
      cases hu : zun F q.2.1 b with
      | none => rw [hu] at h; cases h
      | some cF =>
        obtain ⟨c', F'⟩ := cF
        rw [hu] at h
        simp only [zfn_eq] at h
        cases h
        obtain ⟨z, r', z1, z2, z3, z4, z5⟩ := zun_ok hF (zbe.mp c) hx hu
        refine ⟨pc + 1, ls, [.int z], mem, r', ?_, z2, _, List.mem_cons_self, rfl, hl.ex z2, ⟨zvm_int z5 z4, trivial⟩, z3, hm.ex z2⟩
        rw [e0]
        simp only [z1]
  · rename_i b a rr
    obtain ⟨v, vs, rfl, hv, hvs⟩ := zlm_cons hs
    obtain ⟨u, us, rfl, hu, hus⟩ := zlm_cons hvs
    cases c : Nat.beq b.1 1 with
    | true =>
      rw [c] at h
      simp only [cond_true] at h
      obtain ⟨y, rfl, hy⟩ := zvm_i hv c
      cases c2 : Nat.beq a.1 1 with
      | true =>
        rw [c2] at h
        simp only [cond_true] at h
        obtain ⟨x, rfl, hx⟩ := zvm_i hu c2
        cases c3 : Nat.beq (zon q.2.1) 0 with
        | true =>
          rw [c3] at h
          simp only [cond_true] at h
          have hb0 : mbin q.2.1 x y = none := by rw [zop_eq, zbe.mp c3]; rfl
          cases hn : zun F q.2.1 b with
          | none => rw [hn] at h; cases h
          | some cF =>
            obtain ⟨c', F'⟩ := cF
            rw [hn] at h
            simp only [zfn_eq] at h
            cases h
            obtain ⟨z, r', z1, z2, z3, z4, z5⟩ := zun_ok hF (zbe.mp c) hy hn
            refine ⟨pc + 1, ls, .int z :: .int x :: us, mem, r', ?_, z2, _, List.mem_cons_self, rfl, hl.ex z2, ⟨zvm_int z5 z4, hvs.ex z2⟩, z3, hm.ex z2⟩
            rw [e0]
            simp only [hb0, z1]
        | false =>
          rw [c3] at h
          simp only [cond_false] at h
          cases hn : zbi F (zon q.2.1) a b with
          | none => rw [hn] at h; cases h
          | some cF =>
            obtain ⟨c', F'⟩ := cF
            rw [hn] at h
            simp only [zfn_eq] at h
            cases h
            obtain ⟨z, r', z1, z2, z3, z4, z5⟩ := zbi_ok hF hx hy hn
            refine ⟨pc + 1, ls, .int z :: us, mem, r', ?_, z2, _, List.mem_cons_self, rfl, hl.ex z2, ⟨zvm_int z5 z4, hus.ex z2⟩, z3, hm.ex z2⟩
            rw [e0]
            simp only [zop_eq, z1]
      | false =>
        rw [c2] at h
        simp only [cond_false] at h
        cases c4 : Nat.beq a.1 0 with
        | true => rw [c4] at h; cases h
        | false =>
          rw [c4] at h
          simp only [cond_false] at h
          cases hn : zun F q.2.1 b with
          | none => rw [hn] at h; cases h
          | some cF =>
            obtain ⟨c', F'⟩ := cF
            rw [hn] at h
            simp only [zfn_eq] at h
            cases h
            obtain ⟨z, r', z1, z2, z3, z4, z5⟩ := zun_ok hF (zbe.mp c) hy hn
            refine ⟨pc + 1, ls, .int z :: u :: us, mem, r', ?_, z2, _, List.mem_cons_self, rfl, hl.ex z2, ⟨zvm_int z5 z4, hvs.ex z2⟩, z3, hm.ex z2⟩
            rw [e0]
            have hnu : ∀ x, u ≠ .int x := by
              rintro x rfl
              unfold zvm at hu
              split at hu
              · rename_i e; rw [e] at c4; cases c4
              · rename_i e; rw [e] at c2; cases c2
              · cases hu
              · obtain ⟨_, e, _⟩ := hu; cases e
              · obtain ⟨_, e⟩ := hu; cases e
            cases u with
            | int x => exact absurd rfl (hnu x)
            | _ => simp only [z1]
    | false =>
      rw [c] at h
      simp only [cond_false] at h
      cases c5 : (Nat.ble 3 b.1 && Nat.ble 3 a.1 && zl5 q.2.1) with
      | false => rw [c5] at h; cases h
      | true =>
        rw [c5] at h
        simp only [cond_true, zfn_eq] at h
        cases h
        simp only [Bool.and_eq_true] at c5
        obtain ⟨⟨d1, d2⟩, d3⟩ := c5
        obtain ⟨y, rfl⟩ := zvm_l hv d1
        obtain ⟨x, rfl⟩ := zvm_l hu d2
        obtain ⟨z, hz⟩ := zl5_ok d3 x y
        refine ⟨pc + 1, ls, .long z :: us, mem, r, ?_, zX.rf, _, List.mem_cons_self, rfl, hl, ⟨zbl_ok hF hu hv hz, hus⟩, hF, hm⟩
        rw [e0]
        simp only [hz]
/-- pushes, loads, stores, arithmetic -/
def zdf (nL : Nat) (q : mIns) (pc : Nat) (ls : zL) (st : List zV) (F : zF) (w : zW) : Option (List zO) :=
  match mpush q with
  | some (v, k) => (match zcv v with
    | some a => zfn (pc + k) fun p => some [(p, ls, a :: st, F, w)]
    | none => none)
  | none => match mload q.2.1 with
    | some (j, kd, k) => (match zld ls j with
      | some a => bif zkd kd a then zfn (pc + k) fun p => some [(p, ls, a :: st, F, w)] else none
      | none => none)
    | none => match mstore q.2.1 with
      | some (j, kd, k) => (match st with
        | a :: rr => bif zkd kd a && (Nat.ble (j + 2) nL || (Nat.ble (j + 1) nL && !(Nat.beq kd 1))) then
            zfn (pc + k) fun p => some [(p, (bif Nat.beq kd 1 then zs2 ls j a else zs1 ls j a), rr, F, w)] else none
        | [] => none)
      | none => zar q pc ls st F w
theorem zdf_ok {E : mEnv} {r : List Int} {nL pc : Nat} {q : mIns} {ls : mLs} {als : zL} {st : List Value} {ast : List zV} {mem : mMem} {F : zF} {w : zW} {L : List zO}
    (hd : zisd q.2.1 = true) (hF : zFok r F) (hl : zls r ls als) (hs : zlm r st ast) (hm : zmm r mem w) (h : zdf nL q pc als ast F w = some L) : zSt E r nL q pc ls st mem L := by
  have e0 : mplain E nL q pc ls st mem = mdef nL q pc ls st mem := zisd_ok hd
  unfold mdef at e0
  unfold zdf at h
  split at h
  · rename_i v k ep
    rw [ep] at e0
    split at h
    · rename_i a ea
      simp only [zfn_eq] at h
      cases h
      exact ⟨pc + k, ls, v :: st, mem, r, e0, zX.rf, _, List.mem_cons_self, rfl, hl, ⟨zcv_ok hF ea, hs⟩, hF, hm⟩
    · cases h
  · rename_i ep
    split at h
    · rename_i j kd k el
      rw [ep] at e0
      simp only [el] at e0
      split at h
      · rename_i a ea
        cases c : zkd kd a with
        | false => rw [c] at h; cases h
        | true =>
          rw [c] at h
          simp only [cond_true, zfn_eq] at h
          cases h
          obtain ⟨v, ev, hv⟩ := hl j a ea
          rw [ev] at e0
          simp only [zkd_ok hv c, if_true] at e0
          exact ⟨pc + k, ls, v :: st, mem, r, e0, zX.rf, _, List.mem_cons_self, rfl, hl, ⟨hv, hs⟩, hF, hm⟩
      · cases h
    · rename_i el
      split at h
      · rename_i j kd k es
        rw [ep] at e0
        simp only [el, es] at e0
        split at h
        · rename_i a rr
          obtain ⟨v, vs, rfl, hv, hvs⟩ := zlm_cons hs
          cases c : (zkd kd a && (Nat.ble (j + 2) nL || (Nat.ble (j + 1) nL && !(Nat.beq kd 1)))) with
          | false => rw [c] at h; cases h
          | true =>
            rw [c] at h
            simp only [cond_true, zfn_eq] at h
            cases h
            simp only [Bool.and_eq_true, Bool.or_eq_true, Nat.ble_eq, Bool.not_eq_true'] at c
            obtain ⟨c1, c2⟩ := c
            have c3 : j + 1 < nL ∨ (j < nL ∧ kd ≠ 1) := by
              rcases c2 with c2 | c2
              · left; omega
              · right
                refine ⟨by omega, fun e => ?_⟩
                rw [e] at c2
                cases c2.2
            have c4 : (mkind kd v && decide (j + 1 < nL ∨ (j < nL ∧ kd ≠ 1))) = true := by
              rw [zkd_ok hv c1, decide_eq_true c3]; rfl
            simp only [c4, if_true] at e0
            refine ⟨pc + k, _, vs, mem, r, e0, zX.rf, _, List.mem_cons_self, rfl, ?_, hvs, hF, hm⟩
            by_cases hk : kd = 1
            · subst hk
              simp only [if_true]
              exact hl.s2 hv
            · rw [if_neg hk]
              have : Nat.beq kd 1 = false := by rw [← Bool.not_eq_true, zbe]; exact hk
              rw [this]
              exact hl.s1 hv
        · cases h
      · rename_i es
        exact zar_ok ep el es hd hF hl hs hm h
