/-! More steps: the same result. -/
abbrev mCf : Type := Nat × Nat × Nat × mLs × List Value × mMem × Nat × Nat
/-- one step of the small machine, over what stands for the rest -/
def mF (E : mEnv) (rec : Nat → Nat → Nat → mLs → List Value → mMem → Nat → Nat → Option mRes) (d mi pc : Nat) (ls : mLs) (st : List Value) (mem : mMem) (nc ns : Nat) : Option mRes :=
    match E.1 mi with
    | none => none
    | some M => match M.2.2.2.2.1.find? (fun q => q.1 == pc) with
      | none => none
      | some q =>
        if q.2.2.2.1 = 9 then
          match d, E.1 q.2.2.2.2.1 with
          | d + 1, some M' =>
            if st.length < q.2.2.2.2.2.1 ∨ 8 < mcat (st.drop q.2.2.2.2.2.1) ∨ M'.2.2.1 < mcat (st.take q.2.2.2.2.2.1) ∨ mrecv q (st.take q.2.2.2.2.2.1).reverse mem = false then none else
            match rec d q.2.2.2.2.1 0 (lv_args 0 (st.take q.2.2.2.2.2.1).reverse) [] mem nc ns with
            | none => none
            | some (.inr v, mem', nc', ns') => rec (d + 1) mi (pc + 3) ls (v.toList ++ st.drop q.2.2.2.2.2.1) mem' nc' ns'
            | some (.inl X, mem', nc', ns') => match mcatch M pc X with
              | none => if M.2.2.2.2.2.isEmpty then some (.inl X, mem', nc', ns') else none
              | some (j, pc') => if j < M.2.2.1 then rec (d + 1) mi pc' (ls.filter (fun q => !(q.1 == j) && !(q.1 + 1 == j && q.2.category == 2))) [] mem' nc' ns' else none
          | _, _ => none
        else if q.2.2.2.1 = 8 then
          if M.2.2.2.2.2.isEmpty ∧ 8 ≤ d ∧ mcat st ≤ 8 then some (.inl (E.2.2.2 q.2.2.2.2.1), mem, nc + 1, ns + 6) else none
        else if q.2.2.2.1 = 7 then
          if d < 8 ∨ 8 < mcat st then none else
          match mprim E q.2.2.2.2.1 st mem with
          | some (st', mem') => rec d mi (pc + 3) ls st' mem' nc ns
          | none => none
        else match q.2.1, st with
          | .return_, [] => if M.2.2.2.1 = none then some (.inr none, mem, nc, ns) else none
          | .ireturn, [.int x] => match M.2.2.2.1 with
            | some ty => if narrow ty (.int x) = .int x ∧ fits ty (.int x) = true then some (.inr (some (.int x)), mem, nc, ns) else none
            | none => none
          | .lreturn, [.long x] => if M.2.2.2.1 = some .long then some (.inr (some (.long x)), mem, nc, ns) else none
          | _, _ => match mplain E M.2.2.1 q pc ls st mem with
            | some (pc', ls', st', mem') => rec d mi pc' ls' st' mem' nc ns
            | none => if 1000 ≤ mem.length + 1 then none else match malloc E q st mem with
              | some (k, st', mem', ms) => rec d mi (pc + k) ls st' mem' (nc + 1) (ns + ms)
              | none => none
theorem mrun_F (E : mEnv) (n d mi pc : Nat) (ls : mLs) (st : List Value) (mem : mMem) (nc ns : Nat) :
    mrun E (n + 1) d mi pc ls st mem nc ns = mF E (mrun E n) d mi pc ls st mem nc ns := rfl
theorem mF_mono (E : mEnv) (f g : Nat → Nat → Nat → mLs → List Value → mMem → Nat → Nat → Option mRes)
    (hfg : ∀ d mi pc ls st mem nc ns r, f d mi pc ls st mem nc ns = some r → g d mi pc ls st mem nc ns = some r)
    (d mi pc : Nat) (ls : mLs) (st : List Value) (mem : mMem) (nc ns : Nat) (r : mRes)
    (h : mF E f d mi pc ls st mem nc ns = some r) : mF E g d mi pc ls st mem nc ns = some r := by
  unfold mF at h ⊢
  cases hM : E.1 mi with
  | none => simp only [hM] at h; cases h
  | some M =>
    simp only [hM] at h ⊢
    cases hq : M.2.2.2.2.1.find? (fun q => q.1 == pc) with
    | none => simp only [hq] at h; cases h
    | some q =>
      simp only [hq] at h ⊢
      by_cases h9 : q.2.2.2.1 = 9
      · simp only [h9, if_true] at h ⊢
        cases d with
        | zero => cases h
        | succ d =>
          cases hM' : E.1 q.2.2.2.2.1 with
          | none => simp only [hM'] at h; cases h
          | some M' =>
            simp only [hM'] at h ⊢
            by_cases hb : st.length < q.2.2.2.2.2.1 ∨ 8 < mcat (st.drop q.2.2.2.2.2.1) ∨ M'.2.2.1 < mcat (st.take q.2.2.2.2.2.1) ∨ mrecv q (st.take q.2.2.2.2.2.1).reverse mem = false
            · rw [if_pos hb] at h; cases h
            · rw [if_neg hb] at h ⊢
              cases hc : f d q.2.2.2.2.1 0 (lv_args 0 (st.take q.2.2.2.2.2.1).reverse) [] mem nc ns with
              | none => simp only [hc] at h; cases h
              | some r1 =>
                simp only [hc] at h
                simp only [hfg _ _ _ _ _ _ _ _ _ hc]
                obtain ⟨o, mem', nc', ns'⟩ := r1
                cases o with
                | inr v => exact hfg _ _ _ _ _ _ _ _ _ h
                | inl X =>
                  simp only at h ⊢
                  cases hk : mcatch M pc X with
                  | none => simp only [hk] at h ⊢; exact h
                  | some jp =>
                    simp only [hk] at h ⊢
                    by_cases hj : jp.1 < M.2.2.1
                    · rw [if_pos hj] at h ⊢; exact hfg _ _ _ _ _ _ _ _ _ h
                    · rw [if_neg hj] at h; cases h
      · rw [if_neg h9] at h ⊢
        by_cases h8 : q.2.2.2.1 = 8
        · rw [if_pos h8] at h ⊢; exact h
        · rw [if_neg h8] at h ⊢
          by_cases h7 : q.2.2.2.1 = 7
          · rw [if_pos h7] at h ⊢
            by_cases hd : d < 8 ∨ 8 < mcat st
            · rw [if_pos hd] at h; cases h
            · rw [if_neg hd] at h ⊢
              cases hp : mprim E q.2.2.2.2.1 st mem with
              | none => simp only [hp] at h; cases h
              | some sm => simp only [hp] at h ⊢; exact hfg _ _ _ _ _ _ _ _ _ h
          · rw [if_neg h7] at h ⊢
            have key : ∀ (h : (match mplain E M.2.2.1 q pc ls st mem with
                | some (pc', ls', st', mem') => f d mi pc' ls' st' mem' nc ns
                | none => if 1000 ≤ mem.length + 1 then none else match malloc E q st mem with
                  | some (k, st', mem', ms) => f d mi (pc + k) ls st' mem' (nc + 1) (ns + ms)
                  | none => none) = some r), (match mplain E M.2.2.1 q pc ls st mem with
                | some (pc', ls', st', mem') => g d mi pc' ls' st' mem' nc ns
                | none => if 1000 ≤ mem.length + 1 then none else match malloc E q st mem with
                  | some (k, st', mem', ms) => g d mi (pc + k) ls st' mem' (nc + 1) (ns + ms)
                  | none => none) = some r := by
              intro h
              cases hp : mplain E M.2.2.1 q pc ls st mem with
              | some s4 => simp only [hp] at h ⊢; exact hfg _ _ _ _ _ _ _ _ _ h
              | none =>
                simp only [hp] at h ⊢
                by_cases hl : 1000 ≤ mem.length + 1
                · rw [if_pos hl] at h; cases h
                · rw [if_neg hl] at h ⊢
                  cases ha : malloc E q st mem with
                  | some s4 => simp only [ha] at h ⊢; exact hfg _ _ _ _ _ _ _ _ _ h
                  | none => simp only [ha] at h; cases h
            split at h
            · exact h
            · exact h
            · exact h
            · split <;> first | exact key h | (simp_all; done) | simp_all
theorem mrun_mono1 (E : mEnv) : ∀ n d mi pc ls st mem nc ns r, mrun E n d mi pc ls st mem nc ns = some r → mrun E (n + 1) d mi pc ls st mem nc ns = some r := by
  intro n
  induction n with
  | zero => intro d mi pc ls st mem nc ns r h; exact absurd h (by simp [mrun])
  | succ n ih =>
    intro d mi pc ls st mem nc ns r h
    rw [mrun_F] at h ⊢
    exact mF_mono E _ _ ih d mi pc ls st mem nc ns r h
theorem mrun_mono (E : mEnv) (n k d mi pc : Nat) (ls : mLs) (st : List Value) (mem : mMem) (nc ns : Nat) (r : mRes)
    (h : mrun E n d mi pc ls st mem nc ns = some r) : mrun E (n + k) d mi pc ls st mem nc ns = some r := by
  induction k with
  | zero => exact h
  | succ k ih => exact mrun_mono1 E _ _ _ _ _ _ _ _ _ _ ih
/-- it comes to an end that is good -/
def mGd (E : mEnv) (P : mRes → Prop) (d mi pc : Nat) (ls : mLs) (st : List Value) (mem : mMem) (nc ns : Nat) : Prop :=
  ∃ n r, mrun E n d mi pc ls st mem nc ns = some r ∧ P r
theorem mGd_imp {E : mEnv} {P Q : mRes → Prop} (hPQ : ∀ r, P r → Q r) {d mi pc : Nat} {ls : mLs} {st : List Value} {mem : mMem} {nc ns : Nat}
    (h : mGd E P d mi pc ls st mem nc ns) : mGd E Q d mi pc ls st mem nc ns := by
  obtain ⟨n, r, h, hp⟩ := h
  exact ⟨n, r, h, hPQ r hp⟩
/-- a plain step -/
theorem mGd_plain {E : mEnv} {P : mRes → Prop} {d mi pc : Nat} {ls : mLs} {st : List Value} {mem : mMem} {nc ns : Nat} {M : mMeth} {q : mIns} {pc' : Nat} {ls' : mLs} {st' : List Value} {mem' : mMem}
    (hM : E.1 mi = some M) (hq : M.2.2.2.2.1.find? (fun q => q.1 == pc) = some q) (h7 : q.2.2.2.1 < 7)
    (hr : q.2.1 ≠ .return_) (hi : q.2.1 ≠ .ireturn) (hl : q.2.1 ≠ .lreturn)
    (hp : mplain E M.2.2.1 q pc ls st mem = some (pc', ls', st', mem'))
    (h : mGd E P d mi pc' ls' st' mem' nc ns) : mGd E P d mi pc ls st mem nc ns := by
  obtain ⟨n, r, h, hP⟩ := h
  refine ⟨n + 1, r, ?_, hP⟩
  rw [mrun_F]
  unfold mF
  simp only [hM, hq]
  rw [if_neg (by omega), if_neg (by omega), if_neg (by omega)]
  split
  · exact absurd (by assumption) hr
  · exact absurd (by assumption) hi
  · exact absurd (by assumption) hl
  · simp only [hp]; exact h
/-- what makes a cell -/
theorem mGd_alloc {E : mEnv} {P : mRes → Prop} {d mi pc : Nat} {ls : mLs} {st : List Value} {mem : mMem} {nc ns : Nat} {M : mMeth} {q : mIns} {k : Nat} {st' : List Value} {mem' : mMem} {ms : Nat}
    (hM : E.1 mi = some M) (hq : M.2.2.2.2.1.find? (fun q => q.1 == pc) = some q) (h7 : q.2.2.2.1 < 7)
    (hr : q.2.1 ≠ .return_) (hi : q.2.1 ≠ .ireturn) (hl : q.2.1 ≠ .lreturn)
    (hp : mplain E M.2.2.1 q pc ls st mem = none) (hlen : mem.length < 999) (ha : malloc E q st mem = some (k, st', mem', ms))
    (h : mGd E P d mi (pc + k) ls st' mem' (nc + 1) (ns + ms)) : mGd E P d mi pc ls st mem nc ns := by
  obtain ⟨n, r, h, hP⟩ := h
  refine ⟨n + 1, r, ?_, hP⟩
  rw [mrun_F]
  unfold mF
  simp only [hM, hq]
  rw [if_neg (by omega), if_neg (by omega), if_neg (by omega)]
  split
  · exact absurd (by assumption) hr
  · exact absurd (by assumption) hi
  · exact absurd (by assumption) hl
  · simp only [hp]
    rw [if_neg (by omega)]
    simp only [ha]; exact h
/-- what is done at once -/
theorem mGd_prim {E : mEnv} {P : mRes → Prop} {d mi pc : Nat} {ls : mLs} {st : List Value} {mem : mMem} {nc ns : Nat} {M : mMeth} {q : mIns} {st' : List Value} {mem' : mMem}
    (hM : E.1 mi = some M) (hq : M.2.2.2.2.1.find? (fun q => q.1 == pc) = some q) (h7 : q.2.2.2.1 = 7)
    (hd : 8 ≤ d) (hc : mcat st ≤ 8) (hp : mprim E q.2.2.2.2.1 st mem = some (st', mem'))
    (h : mGd E P d mi (pc + 3) ls st' mem' nc ns) : mGd E P d mi pc ls st mem nc ns := by
  obtain ⟨n, r, h, hP⟩ := h
  refine ⟨n + 1, r, ?_, hP⟩
  rw [mrun_F]
  unfold mF
  simp only [hM, hq]
  rw [if_neg (by omega), if_neg (by omega), if_pos h7, if_neg (by omega)]
  simp only [hp]; exact h
/-- a throw -/
theorem mGd_thr {E : mEnv} {P : mRes → Prop} {d mi pc : Nat} {ls : mLs} {st : List Value} {mem : mMem} {nc ns : Nat} {M : mMeth} {q : mIns}
    (hM : E.1 mi = some M) (hq : M.2.2.2.2.1.find? (fun q => q.1 == pc) = some q) (h8 : q.2.2.2.1 = 8)
    (hh : M.2.2.2.2.2.isEmpty = true) (hd : 8 ≤ d) (hc : mcat st ≤ 8)
    (h : P (.inl (E.2.2.2 q.2.2.2.2.1), mem, nc + 1, ns + 6)) : mGd E P d mi pc ls st mem nc ns := by
  refine ⟨1, _, ?_, h⟩
  rw [mrun_F]
  unfold mF
  simp only [hM, hq]
  rw [if_neg (by omega), if_pos h8, if_pos ⟨hh, hd, hc⟩]
/-- ends -/
theorem mGd_ret {E : mEnv} {P : mRes → Prop} {d mi pc : Nat} {ls : mLs} {mem : mMem} {nc ns : Nat} {M : mMeth} {q : mIns}
    (hM : E.1 mi = some M) (hq : M.2.2.2.2.1.find? (fun q => q.1 == pc) = some q) (h7 : q.2.2.2.1 < 7)
    (hi : q.2.1 = .return_) (ht : M.2.2.2.1 = none)
    (h : P (.inr none, mem, nc, ns)) : mGd E P d mi pc ls [] mem nc ns := by
  refine ⟨1, _, ?_, h⟩
  rw [mrun_F]
  unfold mF
  simp only [hM, hq]
  rw [if_neg (by omega), if_neg (by omega), if_neg (by omega)]
  simp only [hi, ht, if_true]
theorem mGd_iret {E : mEnv} {P : mRes → Prop} {d mi pc : Nat} {ls : mLs} {mem : mMem} {nc ns : Nat} {M : mMeth} {q : mIns} {x : Int32} {ty : FieldType}
    (hM : E.1 mi = some M) (hq : M.2.2.2.2.1.find? (fun q => q.1 == pc) = some q) (h7 : q.2.2.2.1 < 7)
    (hi : q.2.1 = .ireturn) (ht : M.2.2.2.1 = some ty) (hn : narrow ty (.int x) = .int x) (hf : fits ty (.int x) = true)
    (h : P (.inr (some (.int x)), mem, nc, ns)) : mGd E P d mi pc ls [.int x] mem nc ns := by
  refine ⟨1, _, ?_, h⟩
  rw [mrun_F]
  unfold mF
  simp only [hM, hq]
  rw [if_neg (by omega), if_neg (by omega), if_neg (by omega)]
  simp only [hi, ht]
  rw [if_pos ⟨hn, hf⟩]
theorem mGd_lret {E : mEnv} {P : mRes → Prop} {d mi pc : Nat} {ls : mLs} {mem : mMem} {nc ns : Nat} {M : mMeth} {q : mIns} {x : Int64}
    (hM : E.1 mi = some M) (hq : M.2.2.2.2.1.find? (fun q => q.1 == pc) = some q) (h7 : q.2.2.2.1 < 7)
    (hi : q.2.1 = .lreturn) (ht : M.2.2.2.1 = some .long)
    (h : P (.inr (some (.long x)), mem, nc, ns)) : mGd E P d mi pc ls [.long x] mem nc ns := by
  refine ⟨1, _, ?_, h⟩
  rw [mrun_F]
  unfold mF
  simp only [hM, hq]
  rw [if_neg (by omega), if_neg (by omega), if_neg (by omega)]
  simp only [hi, ht, if_true]
/-- what stands behind a call, by what the callee came to -/
def mBk (E : mEnv) (P : mRes → Prop) (d mi pc : Nat) (M : mMeth) (na : Nat) (ls : mLs) (st : List Value) : mRes → Prop := fun r =>
  match r with
  | (.inr v, mem', nc', ns') => mGd E P (d + 1) mi (pc + 3) ls (v.toList ++ st.drop na) mem' nc' ns'
  | (.inl X, mem', nc', ns') => match mcatch M pc X with
    | none => M.2.2.2.2.2.isEmpty = true ∧ P (.inl X, mem', nc', ns')
    | some (j, pc') => j < M.2.2.1 ∧ mGd E P (d + 1) mi pc' (ls.filter (fun q => !(q.1 == j) && !(q.1 + 1 == j && q.2.category == 2))) [] mem' nc' ns'
theorem mGd_call {E : mEnv} {P : mRes → Prop} {d mi pc : Nat} {ls : mLs} {st : List Value} {mem : mMem} {nc ns : Nat} {M M' : mMeth} {q : mIns}
    (hM : E.1 mi = some M) (hq : M.2.2.2.2.1.find? (fun q => q.1 == pc) = some q) (h9 : q.2.2.2.1 = 9)
    (hM' : E.1 q.2.2.2.2.1 = some M') (hlen : q.2.2.2.2.2.1 ≤ st.length) (hc : mcat (st.drop q.2.2.2.2.2.1) ≤ 8) (hL : mcat (st.take q.2.2.2.2.2.1) ≤ M'.2.2.1)
    (hrv : mrecv q (st.take q.2.2.2.2.2.1).reverse mem = true)
    (h : mGd E (mBk E P d mi pc M q.2.2.2.2.2.1 ls st) d q.2.2.2.2.1 0 (lv_args 0 (st.take q.2.2.2.2.2.1).reverse) [] mem nc ns) :
    mGd E P (d + 1) mi pc ls st mem nc ns := by
  obtain ⟨n1, ⟨o, mem', nc', ns'⟩, h1, hb⟩ := h
  have hno : ¬ (st.length < q.2.2.2.2.2.1 ∨ 8 < mcat (st.drop q.2.2.2.2.2.1) ∨ M'.2.2.1 < mcat (st.take q.2.2.2.2.2.1) ∨ mrecv q (st.take q.2.2.2.2.2.1).reverse mem = false) := by
    rw [hrv]; simp; omega
  cases o with
  | inr v =>
    obtain ⟨n2, r, h2, hP⟩ := hb
    refine ⟨(n1 + n2) + 1, r, ?_, hP⟩
    rw [mrun_F]
    unfold mF
    simp only [hM, hq]
    rw [if_pos h9]
    simp only [hM']
    rw [if_neg hno]
    simp only [mrun_mono E n1 n2 _ _ _ _ _ _ _ _ _ h1]
    rw [Nat.add_comm n1 n2]
    exact mrun_mono E n2 n1 _ _ _ _ _ _ _ _ _ h2
  | inl X =>
    cases hk : mcatch M pc X with
    | none =>
      simp only [mBk, hk] at hb
      refine ⟨n1 + 1, _, ?_, hb.2⟩
      rw [mrun_F]
      unfold mF
      simp only [hM, hq]
      rw [if_pos h9]
      simp only [hM']
      rw [if_neg hno]
      simp only [h1, hk, hb.1, if_true]
    | some jp =>
      obtain ⟨j, pc'⟩ := jp
      simp only [mBk, hk] at hb
      obtain ⟨hj, n2, r, h2, hP⟩ := hb
      refine ⟨(n1 + n2) + 1, r, ?_, hP⟩
      rw [mrun_F]
      unfold mF
      simp only [hM, hq]
      rw [if_pos h9]
      simp only [hM']
      rw [if_neg hno]
      simp only [mrun_mono E n1 n2 _ _ _ _ _ _ _ _ _ h1, hk]
      rw [if_pos hj, Nat.add_comm n1 n2]
      exact mrun_mono E n2 n1 _ _ _ _ _ _ _ _ _ h2
