/-! fields and places -/
abbrev zQ : Type := Nat → Option (Nat × Nat × List zR × zN)
def zRo (E : mEnv) (r : List Int) (ro : zQ) : Prop := ∀ p t n base es, ro p = some (t, n, base, es) → 1000 ≤ p ∧ ∃ f, E.2.2.1 p = some (t, n, f) ∧ ∀ j, j < n → zak r base es j (f j)
theorem zRo.ex {E : mEnv} {r r' : List Int} {ro : zQ} (h : zX r r') (hr : zRo E r ro) : zRo E r' ro := fun p t n base es e => by
  obtain ⟨h1, f, e1, e2⟩ := hr p t n base es e
  exact ⟨h1, f, e1, fun j hj => (e2 j hj).ex h⟩
def zgt (ro : zQ) (w : zW) (p : Nat) : Option (Nat × Nat × List zR × zN) :=
  bif Nat.ble (Nat.succ p) w.1 then (match ztg 7 w.2 p with
    | .inl z => some z
    | .inr _ => none) else ro p
theorem zgt_ok {E : mEnv} {r : List Int} {ro : zQ} {mem : mMem} {w : zW} {p t n : Nat} {base : List zR} {es : zN} (hm : zmm r mem w) (hr : zRo E r ro) (h : zgt ro w p = some (t, n, base, es)) :
    ∃ f, marr E mem p = some (t, n, f) ∧ (∀ j, j < n → zak r base es j (f j)) ∧ (p < w.1 → mem[p]? = some (.inl (t, n, f))) := by
  unfold zgt at h
  cases c : Nat.ble (Nat.succ p) w.1 with
  | true =>
    rw [c] at h
    simp only [cond_true] at h
    rw [Nat.ble_eq] at c
    have h128 := hm.2.1
    obtain ⟨cc, e1, e2⟩ := hm.2.2 p (by omega)
    split at h
    · rename_i z ez
      cases h
      rw [ez] at e2
      obtain ⟨f, rfl, hf⟩ := e2
      refine ⟨f, ?_, hf, fun _ => e1⟩
      unfold marr
      rw [if_pos (by omega), e1]
    · cases h
  | false =>
    rw [c] at h
    simp only [cond_false] at h
    obtain ⟨h1, f, e1, e2⟩ := hr p t n base es h
    refine ⟨f, ?_, e2, fun hp => ?_⟩
    · unfold marr
      rw [if_neg (by omega)]
      exact e1
    · have : Nat.ble (Nat.succ p) w.1 = true := by rw [Nat.ble_eq]; omega
      rw [this] at c
      cases c
/-- a value that fits an array's type -/
def ztt (t : Nat) (a : zV) : Bool := match t with
  | 0 => Nat.beq a.1 1
  | 1 => Nat.ble 3 a.1
  | 2 => Nat.beq a.1 1
  | _ => false
/-- reads: the value, and the memory that knows it -/
def zld9 (ro : zQ) (t : Nat) (st : List zV) (F : zF) (w : zW) : Option (zV × List zV × zF × zW) := match st with
  | i :: a :: rr => bif Nat.beq i.1 1 && Nat.beq a.1 2 then (match zgt ro w a.2.1 with
    | some (t', n, base, es) => bif Nat.beq t' t && zix F n i then (match zrd F base es i with
      | some (c, F', es') => bif ztt t c then some (c, rr, F', (bif Nat.ble (Nat.succ a.2.1) w.1 then (w.1, zts 7 w.2 a.2.1 (.inl (t', n, base, es'))) else w)) else none
      | none => none) else none
    | none => none) else none
  | _ => none
theorem zld9_ok {E : mEnv} {r : List Int} {ro : zQ} {t : Nat} {st : List Value} {ast rr : List zV} {mem : mMem} {F F' : zF} {w w' : zW} {c : zV}
    (hr : zRo E r ro) (hF : zFok r F) (hs : zlm r st ast) (hm : zmm r mem w) (h : zld9 ro t ast F w = some (c, rr, F', w')) :
    ∃ (x : Int32) (p : Nat) (us : List Value) (n : Nat) (f : Nat → Value) (r' : List Int), st = .int x :: .ref p :: us ∧ marr E mem p = some (t, n, f) ∧ mIn x n = true ∧ zX r r' ∧ zFok r' F' ∧ zlm r' us rr ∧ zmm r' mem w' ∧ zvm r' (f x.toNatClampNeg) c ∧ ztt t c = true := by
  unfold zld9 at h
  split at h
  · rename_i i a rr'
    obtain ⟨v, vs, rfl, hv, hvs⟩ := zlm_cons hs
    obtain ⟨u, us, rfl, hu, hus⟩ := zlm_cons hvs
    cases c1 : (Nat.beq i.1 1 && Nat.beq a.1 2) with
    | false => rw [c1] at h; cases h
    | true =>
      rw [c1] at h
      simp only [cond_true] at h
      simp only [Bool.and_eq_true] at c1
      obtain ⟨x, rfl, hx⟩ := zvm_i hv c1.1
      have eu := zvm_r hu c1.2
      subst eu
      split at h
      · rename_i t' n base es eg
        cases c2 : (Nat.beq t' t && zix F n i) with
        | false => rw [c2] at h; cases h
        | true =>
          rw [c2] at h
          simp only [cond_true] at h
          simp only [Bool.and_eq_true] at c2
          obtain rfl := zbe.mp c2.1
          obtain ⟨k1, k2, k3⟩ := zix_ok hF hx c2.2
          obtain ⟨f, m1, m2, m3⟩ := zgt_ok hm hr eg
          split at h
          · rename_i c' F'' es' er
            cases c3 : ztt t' c' with
            | false => rw [c3] at h; cases h
            | true =>
              rw [c3] at h
              simp only [cond_true] at h
              cases h
              obtain ⟨r', g1, g2, g3, g4, g5⟩ := zrd_ok hF k2 (m2 _ k3) er
              refine ⟨x, a.2.1, us, n, f, r', rfl, m1, k1, g1, g2, hus.ex g1, ?_, g3, c3⟩
              cases c4 : Nat.ble (Nat.succ a.2.1) w.1 with
              | false => exact hm.ex g1
              | true =>
                rw [Nat.ble_eq] at c4
                have hset := (hm.ex g1).set (a := a.2.1) (by omega) (c := .inl (t', n, f)) (z := .inl (t', n, base, es')) ⟨f, rfl, fun j hj => g5 j (f j) (m2 j hj) (fun e => by rw [e])⟩
                have e9 : mem.set a.2.1 (.inl (t', n, f)) = mem := by
                  refine List.ext_getElem? fun k => ?_
                  by_cases hk : k = a.2.1
                  · subst hk
                    rw [List.getElem?_set_self (by rw [hm.1]; omega)]
                    exact (m3 (by omega)).symm
                  · rw [List.getElem?_set_ne (fun h => hk h.symm)]
                rw [e9] at hset
                exact hset
          · cases h
      · cases h
  · cases h
/-- what is written stands there already -/
def zew (F : zF) (base : List zR) (es : zN) (i v : zV) : Bool := Nat.beq v.2.1 0 && (Nat.beq v.1 1 || Nat.beq v.1 3) && (match zrd F base es i with
  | some (c, _) => Nat.beq c.1 v.1 && Nat.beq c.2.1 0 && zeq c.2.2 v.2.2
  | none => false)
theorem zew_ok {r : List Int} {F : zF} {base : List zR} {es : zN} {i a : zV} {j : Nat} {u v : Value} (hF : zFok r F) (hi : zd r i = some (j : Int)) (hu : zak r base es j u) (hv : zvm r v a) (h : zew F base es i a = true) : u = v := by
  simp only [zew, Bool.and_eq_true, Bool.or_eq_true, zbe] at h
  obtain ⟨⟨h1, h2⟩, h3⟩ := h
  split at h3
  · rename_i c p e
    obtain ⟨F', es'⟩ := p
    obtain ⟨r', g1, g2, g3, -, -⟩ := zrd_ok hF hi hu e
    simp only [Bool.and_eq_true, zbe, zeq_iff] at h3
    obtain ⟨⟨k1, k2⟩, k3⟩ := h3
    have hv' := hv.ex g1
    unfold zvm at g3 hv'
    rw [k1] at g3
    rcases h2 with e2 | e2 <;> rw [e2] at g3 hv'
    · obtain ⟨x, rfl, hx⟩ := g3
      obtain ⟨y, rfl, hy⟩ := hv'
      obtain ⟨p1, q1, hx⟩ := zd_some.mp hx
      obtain ⟨p2, q2, hy⟩ := zd_some.mp hy
      rw [k2, g2.2.1] at q1
      rw [h1, g2.2.1] at q2
      cases q1
      cases q2
      have exy : x = y := Int32.toInt_inj.mp (by omega)
      rw [exy]
    · obtain ⟨x, rfl, hx⟩ := g3
      obtain ⟨y, rfl, hy⟩ := hv'
      obtain ⟨p1, q1, hx⟩ := zd_some.mp hx
      obtain ⟨p2, q2, hy⟩ := zd_some.mp hy
      rw [k2, g2.2.1] at q1
      rw [h1, g2.2.1] at q2
      cases q1
      cases q2
      have exy : x = y := Int64.toInt_inj.mp (by omega)
      rw [exy]
  · cases h3
theorem zset_same {mem : mMem} {p : Nat} {c : mCell} (h : mem[p]? = some c) : mem.set p c = mem := by
  refine List.ext_getElem? fun k => ?_
  by_cases hk : k = p
  · subst hk
    rw [List.getElem?_set_self (List.getElem?_eq_some_iff.mp h).1]
    exact h.symm
  · rw [List.getElem?_set_ne (fun h => hk h.symm)]
/-- writes -/
def zst9 (t : Nat) (st : List zV) (F : zF) (w : zW) : Option (List zV × zF × zW) := match st with
  | v :: i :: a :: rr => bif Nat.beq i.1 1 && Nat.beq a.1 2 && Nat.ble (Nat.succ a.2.1) w.1 && ztt t v then (match ztg 7 w.2 a.2.1 with
    | .inl (t', n, base, es) => bif Nat.beq t' t && zix F n i then (bif zew F base es i v then some (rr, F, w) else some (rr, F, (w.1, zts 7 w.2 a.2.1 (.inl (t', n, base, (i, v) :: zrw F i es))))) else none
    | .inr _ => none) else none
  | _ => none
theorem zst9_ok {r : List Int} {t : Nat} {st : List Value} {ast rr : List zV} {mem : mMem} {F F' : zF} {w w' : zW}
    (hF : zFok r F) (hs : zlm r st ast) (hm : zmm r mem w) (h : zst9 t ast F w = some (rr, F', w')) :
    ∃ (v : Value) (x : Int32) (p : Nat) (us : List Value) (n : Nat) (f : Nat → Value), st = v :: .int x :: .ref p :: us ∧ mem[p]? = some (.inl (t, n, f)) ∧ mIn x n = true ∧ F' = F ∧ zlm r us rr ∧ zmm r (mem.set p (.inl (t, n, mup f x.toNatClampNeg v))) w' ∧ ∃ a0 s0, ast = a0 :: s0 ∧ zvm r v a0 ∧ ztt t a0 = true := by
  unfold zst9 at h
  split at h
  · rename_i av i a rr'
    obtain ⟨v, vs, rfl, hv, hvs⟩ := zlm_cons hs
    obtain ⟨v2, vs2, rfl, hv2, hvs2⟩ := zlm_cons hvs
    obtain ⟨u, us, rfl, hu, hus⟩ := zlm_cons hvs2
    cases c1 : (Nat.beq i.1 1 && Nat.beq a.1 2 && Nat.ble (Nat.succ a.2.1) w.1 && ztt t av) with
    | false => rw [c1] at h; cases h
    | true =>
      rw [c1] at h
      simp only [cond_true] at h
      simp only [Bool.and_eq_true, Nat.ble_eq] at c1
      obtain ⟨⟨⟨d1, d2⟩, d3⟩, d4⟩ := c1
      obtain ⟨x, rfl, hx⟩ := zvm_i hv2 d1
      have eu := zvm_r hu d2
      subst eu
      obtain ⟨cc, e1, e2⟩ := hm.2.2 a.2.1 (by omega)
      split at h
      · rename_i t' n base es ez
        rw [ez] at e2
        obtain ⟨f, rfl, hf⟩ := e2
        cases c2 : (Nat.beq t' t && zix F n i) with
        | false => rw [c2] at h; cases h
        | true =>
          rw [c2] at h
          simp only [cond_true] at h
          simp only [Bool.and_eq_true] at c2
          obtain rfl := zbe.mp c2.1
          obtain ⟨k1, k2, k3⟩ := zix_ok hF hx c2.2
          cases c3 : zew F base es i av with
          | true =>
          rw [c3] at h
          cases h
          have ef := zew_ok hF k2 (hf _ k3) hv c3
          have em : mup f x.toNatClampNeg v = f := by
            funext j
            unfold mup
            by_cases hj : j = x.toNatClampNeg
            · rw [if_pos hj, hj, ef]
            · rw [if_neg hj]
          refine ⟨v, x, a.2.1, us, n, f, rfl, e1, k1, rfl, hus, ?_, _, _, rfl, hv, d4⟩
          rw [em, zset_same e1]
          exact hm
          | false =>
          rw [c3] at h
          cases h
          refine ⟨v, x, a.2.1, us, n, f, rfl, e1, k1, rfl, hus, ?_, _, _, rfl, hv, d4⟩
          refine hm.set (by omega) ⟨_, rfl, fun j hj => ⟨x.toNatClampNeg, k2, ?_⟩⟩
          by_cases hjx : j = x.toNatClampNeg
          · rw [if_pos hjx]
            unfold mup
            rw [if_pos hjx]
            exact hv
          · rw [if_neg hjx]
            unfold mup
            rw [if_neg hjx]
            exact zrw_ok hF k2 hjx (hf j hj)
      · cases h
  · cases h
/-- a field -/
def zln : List zV → Nat → Option zV
  | [], _ => none
  | a :: l, i => match i with
    | 0 => some a
    | k + 1 => zln l k
def zlu : List zV → Nat → zV → List zV
  | [], _, _ => []
  | a :: l, i, v => match i with
    | 0 => v :: l
    | k + 1 => a :: zlu l k v
theorem zln_ok {r : List Int} {c : zV} : ∀ {fs : List Value} {as : List zV} {i : Nat}, zlm r fs as → zln as i = some c → ∃ v, fs[i]? = some v ∧ zvm r v c
  | [], [], _, _, h => by cases h
  | v :: fs, a :: as, i, hl, h => by
    cases i with
    | zero => cases h; exact ⟨v, rfl, hl.1⟩
    | succ k =>
      obtain ⟨v', e, hv'⟩ := zln_ok (fs := fs) (as := as) (i := k) hl.2 h
      exact ⟨v', e, hv'⟩
theorem zlu_ok {r : List Int} {v : Value} {c : zV} (hv : zvm r v c) : ∀ {fs : List Value} {as : List zV} {i : Nat}, zlm r fs as → zlm r (fs.set i v) (zlu as i c)
  | [], [], _, _ => trivial
  | u :: fs, a :: as, i, hl => by
    cases i with
    | zero => exact ⟨hv, hl.2⟩
    | succ k => exact ⟨hl.1, zlu_ok hv hl.2⟩
/-- a field may be put so -/
def zft (F : zF) (ty : FieldType) (a : zV) : Bool := match ty with
  | .int => Nat.beq a.1 1
  | .boolean => Nat.beq a.1 1 && (match zlh F a with
    | some (l, h) => zle 0 l && zle h 1
    | none => false)
  | .long => Nat.ble 3 a.1
  | .object _ => Nat.beq a.1 2
  | .array _ => Nat.beq a.1 2
  | _ => false
theorem zft_ok {r : List Int} {F : zF} {ty : FieldType} {v : Value} {a : zV} (hF : zFok r F) (hv : zvm r v a) (h : zft F ty a = true) : mfit ty v = true ∧ (mkind 0 v || mkind 1 v || mkind 2 v) = true := by
  unfold zft at h
  split at h
  · obtain ⟨x, rfl, -⟩ := zvm_i hv h
    exact ⟨by simp [mfit, narrow, fits], rfl⟩
  · simp only [Bool.and_eq_true] at h
    obtain ⟨x, rfl, hx⟩ := zvm_i hv h.1
    refine ⟨?_, rfl⟩
    have h2 := h.2
    split at h2
    · rename_i l hh e
      obtain ⟨b1, b2⟩ := zlh_ok hF e hx
      simp only [Bool.and_eq_true, zle_iff] at h2
      have : x.toInt = 0 ∨ x.toInt = 1 := by omega
      rcases this with e | e
      · have : x = 0 := Int32.toInt_inj.mp (by rw [e]; rfl)
        subst this
        rfl
      · have : x = 1 := Int32.toInt_inj.mp (by rw [e]; rfl)
        subst this
        rfl
    · cases h2
  · obtain ⟨x, rfl⟩ := zvm_l hv h
    exact ⟨by simp [mfit, narrow, fits], rfl⟩
  · rw [zvm_r hv h]
    exact ⟨by simp [mfit, narrow, fits], rfl⟩
  · rw [zvm_r hv h]
    exact ⟨by simp [mfit, narrow, fits], rfl⟩
  · cases h
def zgf (q : mIns) (st : List zV) (w : zW) : Option (zV × List zV) := match st with
  | a :: rr => bif Nat.beq a.1 2 && Nat.ble (Nat.succ a.2.1) w.1 then (match ztg 7 w.2 a.2.1 with
    | .inr (ci, as) => bif Nat.beq ci q.2.2.2.2.1 then (match zln as q.2.2.2.2.2.1 with
      | some c => bif Nat.beq c.1 0 then none else some (c, rr)
      | none => none) else none
    | .inl _ => none) else none
  | _ => none
def zpf (ft : Nat → List FieldType) (q : mIns) (st : List zV) (F : zF) (w : zW) : Option (List zV × zW) := match st with
  | v :: a :: rr => bif Nat.beq a.1 2 && Nat.ble (Nat.succ a.2.1) w.1 then (match ztg 7 w.2 a.2.1 with
    | .inr (ci, as) => bif Nat.beq ci q.2.2.2.2.1 then (match zln as q.2.2.2.2.2.1, (ft ci)[q.2.2.2.2.2.1]? with
      | some _, some ty => bif zft F ty v then some (rr, (w.1, zts 7 w.2 a.2.1 (.inr (ci, zlu as q.2.2.2.2.2.1 v)))) else none
      | _, _ => none) else none
    | .inl _ => none) else none
  | _ => none
def zme (ro : zQ) (ft : Nat → List FieldType) (q : mIns) (pc : Nat) (ls : zL) (st : List zV) (F : zF) (w : zW) : Option (List zO) :=
  match q.2.1 with
  | .arraylength => (match st with
    | a :: rr => bif Nat.beq a.1 2 then (match zgt ro w a.2.1 with
      | some (t, n, _) => bif Nat.ble (t + 1) 3 then zfi (Int32.ofNat n).toInt fun c => zfn (pc + 1) fun p => some [(p, ls, (1, 0, c) :: rr, F, w)] else none
      | none => none) else none
    | _ => none)
  | .iaload => (match zld9 ro 0 st F w with
    | some (c, rr, F', w') => zfn (pc + 1) fun p => some [(p, ls, c :: rr, F', w')]
    | none => none)
  | .laload => (match zld9 ro 1 st F w with
    | some (c, rr, F', w') => zfn (pc + 1) fun p => some [(p, ls, c :: rr, F', w')]
    | none => none)
  | .baload => (match zld9 ro 2 st F w with
    | some (c, rr, F', w') => zfn (pc + 1) fun p => some [(p, ls, c :: rr, F', w')]
    | none => none)
  | .iastore => (match zst9 0 st F w with
    | some (rr, F', w') => zfn (pc + 1) fun p => some [(p, ls, rr, F', w')]
    | none => none)
  | .lastore => (match zst9 1 st F w with
    | some (rr, F', w') => zfn (pc + 1) fun p => some [(p, ls, rr, F', w')]
    | none => none)
  | .bastore => (match st with
    | v :: s => bif Nat.beq v.1 1 then (match zun F .i2b v with
      | some (c, F1) => (match zst9 2 (c :: s) F1 w with
        | some (rr, F', w') => zfn (pc + 1) fun p => some [(p, ls, rr, F', w')]
        | none => none)
      | none => none) else none
    | _ => none)
  | .getfield _ => (match zgf q st w with
    | some (c, rr) => zfn (pc + 3) fun p => some [(p, ls, c :: rr, F, w)]
    | none => none)
  | .putfield _ => (match zpf ft q st F w with
    | some (rr, w') => zfn (pc + 3) fun p => some [(p, ls, rr, F, w')]
    | none => none)
  | _ => none
