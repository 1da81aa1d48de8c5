theorem zme_ok {E : mEnv} {r : List Int} {ro : zQ} {nL pc : Nat} {q : mIns} {ls : mLs} {als : zL} {st : List Value} {ast : List zV} {mem : mMem} {F : zF} {w : zW} {L : List zO}
    (hr : zRo E r ro) (hF : zFok r F) (hl : zls r ls als) (hs : zlm r st ast) (hm : zmm r mem w) (h : zme ro E.2.1 q pc als ast F w = some L) : zSt E r nL q pc ls st mem L := by
  unfold zSt mplain
  unfold zme at h
  generalize hi : q.2.1 = i at h ⊢
  split at h
  · -- arraylength
    split at h
    · rename_i a rr
      obtain ⟨v, vs, rfl, hv, hvs⟩ := zlm_cons hs
      cases c1 : Nat.beq a.1 2 with
      | false => rw [c1] at h; cases h
      | true =>
        rw [c1] at h
        simp only [cond_true] at h
        have ev := zvm_r hv c1
        subst ev
        split at h
        · rename_i t n b9 eg
          obtain ⟨base, es⟩ := b9
          obtain ⟨f, m1, -, -⟩ := zgt_ok hm hr eg
          cases c2 : Nat.ble (t + 1) 3 with
          | false => rw [c2] at h; cases h
          | true =>
            rw [c2] at h
            simp only [cond_true, zfi_eq, zfn_eq] at h
            cases h
            rw [Nat.ble_eq] at c2
            refine ⟨pc + 1, ls, .int (Int32.ofNat n) :: vs, mem, r, ?_, zX.rf, _, List.mem_cons_self, rfl, hl, ⟨zvm_int rfl (zd_some.mpr ⟨0, hF.2.1, by dsimp only; omega⟩), hvs⟩, hF, hm⟩
            simp only [m1]
            rw [if_pos (by omega)]
        · cases h
    · cases h
  · -- iaload
    split at h
    · rename_i c rr F' w' e9
      simp only [zfn_eq] at h
      cases h
      obtain ⟨x, p, us, n, f, r', rfl, m1, k1, g1, g2, g3, g4, g5, g6⟩ := zld9_ok hr hF hs hm e9
      obtain ⟨y, ey, hy⟩ := zvm_i g5 g6
      refine ⟨pc + 1, ls, .int y :: us, mem, r', ?_, g1, _, List.mem_cons_self, rfl, hl.ex g1, ⟨by rw [← ey]; exact g5, g3⟩, g2, g4⟩
      simp only [m1, k1, if_true, ey]
    · cases h
  · -- laload
    split at h
    · rename_i c rr F' w' e9
      simp only [zfn_eq] at h
      cases h
      obtain ⟨x, p, us, n, f, r', rfl, m1, k1, g1, g2, g3, g4, g5, g6⟩ := zld9_ok hr hF hs hm e9
      obtain ⟨y, ey⟩ := zvm_l g5 g6
      refine ⟨pc + 1, ls, .long y :: us, mem, r', ?_, g1, _, List.mem_cons_self, rfl, hl.ex g1, ⟨by rw [← ey]; exact g5, g3⟩, g2, g4⟩
      simp only [m1, k1, if_true, ey]
    · cases h
  · -- baload
    split at h
    · rename_i c rr F' w' e9
      simp only [zfn_eq] at h
      cases h
      obtain ⟨x, p, us, n, f, r', rfl, m1, k1, g1, g2, g3, g4, g5, g6⟩ := zld9_ok hr hF hs hm e9
      obtain ⟨y, ey, hy⟩ := zvm_i g5 g6
      refine ⟨pc + 1, ls, .int y :: us, mem, r', ?_, g1, _, List.mem_cons_self, rfl, hl.ex g1, ⟨by rw [← ey]; exact g5, g3⟩, g2, g4⟩
      simp only [m1, k1, if_true, ey]
    · cases h
  · -- iastore
    split at h
    · rename_i rr F' w' e9
      simp only [zfn_eq] at h
      cases h
      obtain ⟨v, x, p, us, n, f, rfl, m1, k1, rfl, g3, g4, a0, s0, rfl, hv, ht⟩ := zst9_ok hF hs hm e9
      obtain ⟨y, rfl, hy⟩ := zvm_i hv ht
      refine ⟨pc + 1, ls, us, _, r, ?_, zX.rf, _, List.mem_cons_self, rfl, hl, g3, hF, g4⟩
      simp only [m1, k1, if_true]
    · cases h
  · -- lastore
    split at h
    · rename_i rr F' w' e9
      simp only [zfn_eq] at h
      cases h
      obtain ⟨v, x, p, us, n, f, rfl, m1, k1, rfl, g3, g4, a0, s0, rfl, hv, ht⟩ := zst9_ok hF hs hm e9
      obtain ⟨y, rfl⟩ := zvm_l hv ht
      refine ⟨pc + 1, ls, us, _, r, ?_, zX.rf, _, List.mem_cons_self, rfl, hl, g3, hF, g4⟩
      simp only [m1, k1, if_true]
    · cases h
  · -- bastore
    split at h
    · rename_i a s
      obtain ⟨v, vs, rfl, hv, hvs⟩ := zlm_cons hs
      cases c1 : Nat.beq a.1 1 with
      | false => rw [c1] at h; cases h
      | true =>
        rw [c1] at h
        simp only [cond_true] at h
        obtain ⟨x0, rfl, hx0⟩ := zvm_i hv c1
        split at h
        · rename_i c F1 eu
          obtain ⟨z, r1, z1, z2, z3, z4, z5⟩ := zun_ok hF (zbe.mp c1) hx0 eu
          have z1 : x0.toInt8.toInt32 = z := Option.some.inj z1
          split at h
          · rename_i rr F' w' e9
            simp only [zfn_eq] at h
            cases h
            have hs9 : zlm r1 (.int z :: vs) (c :: s) := ⟨zvm_int z5 z4, hvs.ex z2⟩
            obtain ⟨v, x, p, us, n, f, e0, m1, k1, rfl, g3, g4, a0, s0, e1, hv9, ht⟩ := zst9_ok z3 hs9 (hm.ex z2) e9
            cases e0
            refine ⟨pc + 1, ls, us, _, r1, ?_, z2, _, List.mem_cons_self, rfl, hl.ex z2, g3, z3, g4⟩
            simp only [m1, k1, if_true, z1]
          · cases h
        · cases h
    · cases h
  · -- getfield
    split at h
    · rename_i c rr e9
      simp only [zfn_eq] at h
      cases h
      unfold zgf at e9
      split at e9
      · rename_i a rr'
        obtain ⟨v, vs, rfl, hv, hvs⟩ := zlm_cons hs
        cases c1 : (Nat.beq a.1 2 && Nat.ble (Nat.succ a.2.1) w.1) with
        | false => rw [c1] at e9; cases e9
        | true =>
          rw [c1] at e9
          simp only [cond_true] at e9
          simp only [Bool.and_eq_true, Nat.ble_eq] at c1
          have ev := zvm_r hv c1.1
          subst ev
          obtain ⟨cc, e1, e2⟩ := hm.2.2 a.2.1 (by omega)
          split at e9
          · rename_i ci as ez
            rw [ez] at e2
            obtain ⟨fs, rfl, hfs⟩ := e2
            cases c2 : Nat.beq ci q.2.2.2.2.1 with
            | false => rw [c2] at e9; cases e9
            | true =>
              rw [c2] at e9
              simp only [cond_true] at e9
              have eci := zbe.mp c2
              split at e9
              · rename_i c' en
                obtain ⟨u, eu, hu⟩ := zln_ok hfs en
                cases c3 : Nat.beq c'.1 0 with
                | true => rw [c3] at e9; cases e9
                | false =>
                  rw [c3] at e9
                  simp only [cond_false] at e9
                  cases e9
                  have hk : (mkind 0 u || mkind 1 u || mkind 2 u) = true := by
                    unfold zvm at hu
                    split at hu
                    · rename_i e; rw [e] at c3; cases c3
                    · obtain ⟨x, rfl, -⟩ := hu; rfl
                    · rw [hu]; rfl
                    · obtain ⟨x, rfl, -⟩ := hu; rfl
                    · obtain ⟨x, rfl⟩ := hu; rfl
                  refine ⟨pc + 3, ls, u :: vs, mem, r, ?_, zX.rf, _, List.mem_cons_self, rfl, hl, ⟨hu, hvs⟩, hF, hm⟩
                  simp only [e1]
                  rw [if_pos eci]
                  simp only [eu, hk, if_true]
              · cases e9
          · cases e9
      · cases e9
    · cases h
  · -- putfield
    split at h
    · rename_i rr w' e9
      simp only [zfn_eq] at h
      cases h
      unfold zpf at e9
      split at e9
      · rename_i b a rr'
        obtain ⟨v, vs, rfl, hv, hvs⟩ := zlm_cons hs
        obtain ⟨u, us, rfl, hu, hus⟩ := zlm_cons hvs
        cases c1 : (Nat.beq a.1 2 && Nat.ble (Nat.succ a.2.1) w.1) with
        | false => rw [c1] at e9; cases e9
        | true =>
          rw [c1] at e9
          simp only [cond_true] at e9
          simp only [Bool.and_eq_true, Nat.ble_eq] at c1
          have ev := zvm_r hu c1.1
          subst ev
          obtain ⟨cc, e1, e2⟩ := hm.2.2 a.2.1 (by omega)
          split at e9
          · rename_i ci as ez
            rw [ez] at e2
            obtain ⟨fs, rfl, hfs⟩ := e2
            cases c2 : Nat.beq ci q.2.2.2.2.1 with
            | false => rw [c2] at e9; cases e9
            | true =>
              rw [c2] at e9
              simp only [cond_true] at e9
              have eci := zbe.mp c2
              split at e9
              · rename_i c0 ty en et
                obtain ⟨u0, eu0, -⟩ := zln_ok hfs en
                cases c3 : zft F ty b with
                | false => rw [c3] at e9; cases e9
                | true =>
                  rw [c3] at e9
                  simp only [cond_true] at e9
                  cases e9
                  obtain ⟨k1, k2⟩ := zft_ok hF hv c3
                  have hlt : q.2.2.2.2.2.1 < fs.length := (List.getElem?_eq_some_iff.mp eu0).1
                  refine ⟨pc + 3, ls, us, _, r, ?_, zX.rf, _, List.mem_cons_self, rfl, hl, hus, hF, hm.set (by omega) ⟨_, rfl, zlu_ok hv hfs⟩⟩
                  simp only [e1]
                  rw [if_pos eci]
                  simp only [et, k1, k2, Bool.true_and, decide_eq_true hlt, if_true]
              · cases e9
          · cases e9
      · cases e9
    · cases h
  · cases h
/-- new cells -/
def zdv (ty : FieldType) : zV := match ty with
  | .byte | .char | .short | .int | .boolean => (1, 0, 0)
  | .long => (3, 0, 0)
  | _ => (0, 0, 0)
theorem zdv_ok {r : List Int} {F : zF} (hF : zFok r F) (ty : FieldType) : zvm r (defaultValue ty) (zdv ty) := by
  have h0 : zd r (1, 0, 0) = some (0 : Int32).toInt := zd_some.mpr ⟨0, hF.2.1, rfl⟩
  have h3 : zd r (3, 0, 0) = some (0 : Int64).toInt := zd_some.mpr ⟨0, hF.2.1, rfl⟩
  cases ty <;> first | exact ⟨0, rfl, h0⟩ | exact ⟨0, rfl, h3⟩ | trivial
theorem zdv_l {r : List Int} {F : zF} (hF : zFok r F) : ∀ (tys : List FieldType), zlm r (tys.map defaultValue) (tys.map zdv)
  | [] => trivial
  | ty :: l => ⟨zdv_ok hF ty, zdv_l hF l⟩
/-- the length, the stack, the memory, the slots -/
def zao (ft : Nat → List FieldType) (q : mIns) (st : List zV) (F : zF) (w : zW) : Option (Nat × List zV × zW × Nat) :=
  bif Nat.ble (Nat.succ w.1) 127 then (match q.2.1 with
  | .newarray t => (match st with
    | a :: rr => bif Nat.beq a.1 1 && Nat.beq a.2.1 0 && zle 0 a.2.2 && zle a.2.2 (.ofNat 100000) then
      zfn a.2.2.toNat fun n => (match t with
      | .int => some (2, (2, w.1, 0) :: rr, (Nat.succ w.1, zts 7 w.2 w.1 (.inl (0, n, [(n, 1, 0, 0)], []))), n)
      | .long => some (2, (2, w.1, 0) :: rr, (Nat.succ w.1, zts 7 w.2 w.1 (.inl (1, n, [(n, 3, 0, 0)], []))), n)
      | .byte => some (2, (2, w.1, 0) :: rr, (Nat.succ w.1, zts 7 w.2 w.1 (.inl (2, n, [(n, 1, 0, 0)], []))), n)
      | _ => none) else none
    | _ => none)
  | .new _ => some (3, (2, w.1, 0) :: st, (Nat.succ w.1, zts 7 w.2 w.1 (.inr (q.2.2.2.2.1, (ft q.2.2.2.2.1).map zdv))), (ft q.2.2.2.2.1).length)
  | _ => none) else none
theorem mplain_new {E : mEnv} {nL pc : Nat} {q : mIns} {ls : mLs} {st : List Value} {mem : mMem} {k : Nat} (h : q.2.1 = .new k) : mplain E nL q pc ls st mem = none := by
  unfold mplain
  simp only [h]
  unfold mdef
  simp only [mpush, mload, mstore, h]
  split <;> simp only [mbin, mun, mbinL]
theorem mplain_newarray {E : mEnv} {nL pc : Nat} {q : mIns} {ls : mLs} {st : List Value} {mem : mMem} {t} (h : q.2.1 = .newarray t) : mplain E nL q pc ls st mem = none := by
  unfold mplain
  simp only [h]
  unfold mdef
  simp only [mpush, mload, mstore, h]
  split <;> simp only [mbin, mun, mbinL]
