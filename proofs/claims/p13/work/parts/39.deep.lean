/-! more calls may nest: the same -/
theorem mF_dmono (E : mEnv) (k : Nat) (f g : Nat → Nat → Nat → mLs → List Value → mMem → Nat → Nat → Option mRes)
    (hfg : ∀ d mi pc ls st mem nc ns r, f d mi pc ls st mem nc ns = some r → g (d + k) mi pc ls st mem nc ns = some r)
    (d mi pc : Nat) (ls : mLs) (st : List Value) (mem : mMem) (nc ns : Nat) (r : mRes)
    (h : mF E f d mi pc ls st mem nc ns = some r) : mF E g (d + k) mi pc ls st mem nc ns = some r := by
  unfold mF at h ⊢
  cases hM : E.1 mi with
  | none => simp only [hM] at h; cases h
  | some M =>
    simp only [hM] at h ⊢
    cases hq : M.2.2.2.2.1.find? (fun q => q.1 == pc) with
    | none => simp only [hq] at h; cases h
    | some q =>
      simp only [hq] at h ⊢
      by_cases h9 : q.2.2.2.1 = 9
      · simp only [h9, if_true] at h ⊢
        cases d with
        | zero => cases h
        | succ d =>
          rw [show d + 1 + k = (d + k) + 1 from by omega]
          have hs : ∀ mi pc ls st mem nc ns r, f (d + 1) mi pc ls st mem nc ns = some r → g (d + k + 1) mi pc ls st mem nc ns = some r := fun mi pc ls st mem nc ns r h => by rw [show d + k + 1 = d + 1 + k from by omega]; exact hfg _ _ _ _ _ _ _ _ _ h
          cases hM' : E.1 q.2.2.2.2.1 with
          | none => simp only [hM'] at h; cases h
          | some M' =>
            simp only [hM'] at h ⊢
            by_cases hb : st.length < q.2.2.2.2.2.1 ∨ 8 < mcat (st.drop q.2.2.2.2.2.1) ∨ M'.2.2.1 < mcat (st.take q.2.2.2.2.2.1) ∨ mrecv q (st.take q.2.2.2.2.2.1).reverse mem = false
            · rw [if_pos hb] at h; cases h
            · rw [if_neg hb] at h ⊢
              cases hc : f d q.2.2.2.2.1 0 (lv_args 0 (st.take q.2.2.2.2.2.1).reverse) [] mem nc ns with
              | none => simp only [hc] at h; cases h
              | some r1 =>
                simp only [hc] at h
                simp only [hfg _ _ _ _ _ _ _ _ _ hc]
                obtain ⟨o, mem', nc', ns'⟩ := r1
                cases o with
                | inr v => exact hs _ _ _ _ _ _ _ _ h
                | inl X =>
                  simp only at h ⊢
                  cases hk : mcatch M pc X with
                  | none => simp only [hk] at h ⊢; exact h
                  | some jp =>
                    simp only [hk] at h ⊢
                    by_cases hj : jp.1 < M.2.2.1
                    · rw [if_pos hj] at h ⊢; exact hs _ _ _ _ _ _ _ _ h
                    · rw [if_neg hj] at h; cases h
      · rw [if_neg h9] at h ⊢
        by_cases h8 : q.2.2.2.1 = 8
        · rw [if_pos h8] at h ⊢
          by_cases hc : M.2.2.2.2.2.isEmpty ∧ 8 ≤ d ∧ mcat st ≤ 8
          · rw [if_pos hc] at h
            rw [if_pos ⟨hc.1, by omega, hc.2.2⟩]
            exact h
          · rw [if_neg hc] at h; cases h
        · rw [if_neg h8] at h ⊢
          by_cases h7 : q.2.2.2.1 = 7
          · rw [if_pos h7] at h ⊢
            by_cases hd : d < 8 ∨ 8 < mcat st
            · rw [if_pos hd] at h; cases h
            · rw [if_neg hd] at h
              rw [if_neg (by omega)]
              cases hp : mprim E q.2.2.2.2.1 st mem with
              | none => simp only [hp] at h; cases h
              | some sm => simp only [hp] at h ⊢; exact hfg _ _ _ _ _ _ _ _ _ h
          · rw [if_neg h7] at h ⊢
            have key : ∀ (h : (match mplain E M.2.2.1 q pc ls st mem with
                | some (pc', ls', st', mem') => f d mi pc' ls' st' mem' nc ns
                | none => if 1000 ≤ mem.length + 1 then none else match malloc E q st mem with
                  | some (k9, st', mem', ms) => f d mi (pc + k9) ls st' mem' (nc + 1) (ns + ms)
                  | none => none) = some r), (match mplain E M.2.2.1 q pc ls st mem with
                | some (pc', ls', st', mem') => g (d + k) mi pc' ls' st' mem' nc ns
                | none => if 1000 ≤ mem.length + 1 then none else match malloc E q st mem with
                  | some (k9, st', mem', ms) => g (d + k) mi (pc + k9) ls st' mem' (nc + 1) (ns + ms)
                  | none => none) = some r := by
              intro h
              cases hp : mplain E M.2.2.1 q pc ls st mem with
              | some s4 => simp only [hp] at h ⊢; exact hfg _ _ _ _ _ _ _ _ _ h
              | none =>
                simp only [hp] at h ⊢
                by_cases hl : 1000 ≤ mem.length + 1
                · rw [if_pos hl] at h; cases h
                · rw [if_neg hl] at h ⊢
                  cases ha : malloc E q st mem with
                  | some s4 => simp only [ha] at h ⊢; exact hfg _ _ _ _ _ _ _ _ _ h
                  | none => simp only [ha] at h; cases h
            split at h
            · exact h
            · exact h
            · exact h
            · first | exact key h | (rename_i y3 y2 y1; split <;> first | exact key h | exact absurd rfl (y3 ‹_›) | simp_all)
theorem mrun_dmono (E : mEnv) (k : Nat) : ∀ n d mi pc ls st mem nc ns r, mrun E n d mi pc ls st mem nc ns = some r → mrun E n (d + k) mi pc ls st mem nc ns = some r := by
  intro n
  induction n with
  | zero => intro d mi pc ls st mem nc ns r h; exact absurd h (by simp [mrun])
  | succ n ih =>
    intro d mi pc ls st mem nc ns r h
    rw [mrun_F] at h ⊢
    exact mF_dmono E k _ _ ih d mi pc ls st mem nc ns r h
theorem mGd_deep {E : mEnv} {P : mRes → Prop} {d d' mi pc : Nat} {ls : mLs} {st : List Value} {mem : mMem} {nc ns : Nat} (hd : d ≤ d') (h : mGd E P d mi pc ls st mem nc ns) : mGd E P d' mi pc ls st mem nc ns := by
  obtain ⟨n, r, h, hp⟩ := h
  refine ⟨n, r, ?_, hp⟩
  rw [show d' = d + (d' - d) from by omega]
  exact mrun_dmono E _ _ _ _ _ _ _ _ _ _ _ h
