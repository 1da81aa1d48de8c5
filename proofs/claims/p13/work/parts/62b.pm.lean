/-! .. and so the machine -/
theorem pC.rf {c : mCell} : pC c c := by
  cases c with
  | inl x => exact ⟨rfl, rfl, fun j _ _ => rfl⟩
  | inr x => exact ⟨rfl, rfl, fun j v h _ => h⟩
theorem pM.rf {m : mMem} : pM m m := ⟨rfl, fun k c h => ⟨c, h, pC.rf⟩⟩
theorem pm_alloc {E : mEnv} {q : mIns} {st st' : List Value} {m m' m1 : mMem} {k ms : Nat} (hm : pM m m') (h : malloc E q st m = some (k, st', m1, ms)) : ∃ m1', malloc E q st m' = some (k, st', m1', ms) ∧ pM m1 m1' := by
  unfold malloc at h ⊢
  rw [← hm.1]
  split at h
  · split at h
    · split at h
      · cases h
      · rename_i c
        split at h
        · cases h
          exact ⟨_, by first | rw [if_neg c] | rfl, hm.app pC.rf⟩
        · cases h
          exact ⟨_, by first | rw [if_neg c] | rfl, hm.app pC.rf⟩
        · cases h
          exact ⟨_, by first | rw [if_neg c] | rfl, hm.app pC.rf⟩
        · cases h
    · cases h
  · cases h
    exact ⟨_, rfl, hm.app pC.rf⟩
  · cases h
theorem pm_mn {E : mEnv} {nL : Nat} {q : mIns} {pc : Nat} {ls : mLs} {st : List Value} {m m' : mMem} {x : Nat × List Value × mMem × Nat} (h : malloc E q st m = some x) : mplain E nL q pc ls st m' = none := by
  unfold malloc at h
  split at h
  · rename_i e
    unfold mplain mdef mpush mload mstore
    simp only [e]
    split <;> simp [mbin, mun, mbinL]
  · rename_i e
    unfold mplain mdef mpush mload mstore
    simp only [e]
    split <;> simp [mbin, mun, mbinL]
  · cases h
theorem pm_prim {E : mEnv} {k : Nat} {st st' : List Value} {m m' m1 : mMem} (hm : pM m m') (h : mprim E k st m = some (st', m1)) : ∃ m1', mprim E k st m' = some (st', m1') ∧ pM m1 m1' := by
  unfold mprim at h ⊢
  split at h
  · split at h <;> cases h
    exact ⟨m', rfl, hm⟩
  · split at h
    · split at h
      · cases h
      · rename_i c
        try rw [if_neg c]
        split at h
        · rename_i e
          cases h
          try simp only [e]
          exact ⟨m', rfl, hm⟩
        · cases h
    · cases h
  · split at h
    · split at h
      · cases h
      · rename_i c
        try rw [if_neg c]
        split at h
        · rename_i e
          try simp only [e]
          split at h
          · rename_i c2
            try rw [if_pos c2]
            split at h
            · rename_i e2
              cases h
              try simp only [e2]
              exact ⟨m', rfl, hm⟩
            · cases h
          · cases h
        · cases h
    · cases h
  · split at h
    · split at h
      · rename_i t N f t' N' g ea ed
        obtain ⟨f', ea', hf⟩ := hm.a ea
        obtain ⟨g', ed', hg⟩ := hm.a ed
        try simp only [ea', ed']
        split at h
        · rename_i c
          cases h
          refine ⟨_, by rw [if_pos c], hm.set (c := .inl (t', N', va_cpy f g _ _ _)) (c' := .inl (t', N', va_cpy f' g' _ _ _)) ?_⟩
          refine ⟨rfl, rfl, fun j hj hn => ?_⟩
          obtain ⟨-, -, -, -, -, -, c1, c2⟩ := c
          simp only [va_cpy] at hn ⊢
          split
          · rename_i c3
            rw [if_pos c3] at hn
            exact hf _ (by omega) hn
          · rename_i c3
            rw [if_neg c3] at hn
            exact hg _ hj hn
        · cases h
      · cases h
    · cases h
  · cases h
theorem pm_recv {q : mIns} {vs : List Value} {m m' : mMem} (hm : pM m m') (h : mrecv q vs m = true) : mrecv q vs m' = true := by
  unfold mrecv at h ⊢
  split at h
  · split at h
    · split at h
      · rename_i ea
        obtain ⟨fs', ea', -⟩ := hm.o ea
        try simp only [ea']
        exact h
      · cases h
    · cases h
  · first | rfl | trivial
  · split at h
    · first | rfl | trivial
    · cases h
  · cases h
def pR (nc ns nc' ns' : Nat) (r r' : mRes) : Prop := r'.1 = r.1 ∧ pM r.2.1 r'.2.1 ∧ r'.2.2.1 + nc = r.2.2.1 + nc' ∧ r'.2.2.2 + ns = r.2.2.2 + ns'
theorem pm_F (E : mEnv) (f g : Nat → Nat → Nat → mLs → List Value → mMem → Nat → Nat → Option mRes)
    (hfg : ∀ d mi pc ls st m nc ns r m' nc' ns', f d mi pc ls st m nc ns = some r → pM m m' → ∃ r', g d mi pc ls st m' nc' ns' = some r' ∧ pR nc ns nc' ns' r r')
    (d mi pc : Nat) (ls : mLs) (st : List Value) (m : mMem) (nc ns : Nat) (r : mRes) (m' : mMem) (nc' ns' : Nat)
    (h : mF E f d mi pc ls st m nc ns = some r) (hm : pM m m') : ∃ r', mF E g d mi pc ls st m' nc' ns' = some r' ∧ pR nc ns nc' ns' r r' := by
  unfold mF at h ⊢
  cases hM : E.1 mi with
  | none => simp only [hM] at h; cases h
  | some M =>
    simp only [hM] at h ⊢
    cases hq : M.2.2.2.2.1.find? (fun q => q.1 == pc) with
    | none => simp only [hq] at h; cases h
    | some q =>
      simp only [hq] at h ⊢
      by_cases h9 : q.2.2.2.1 = 9
      · simp only [h9, if_true] at h ⊢
        cases d with
        | zero => cases h
        | succ d =>
          cases hM' : E.1 q.2.2.2.2.1 with
          | none => simp only [hM'] at h; cases h
          | some M' =>
            simp only [hM'] at h ⊢
            by_cases hb : st.length < q.2.2.2.2.2.1 ∨ 8 < mcat (st.drop q.2.2.2.2.2.1) ∨ M'.2.2.1 < mcat (st.take q.2.2.2.2.2.1) ∨ mrecv q (st.take q.2.2.2.2.2.1).reverse m = false
            · rw [if_pos hb] at h; cases h
            · rw [if_neg hb] at h
              have hb' : ¬ (st.length < q.2.2.2.2.2.1 ∨ 8 < mcat (st.drop q.2.2.2.2.2.1) ∨ M'.2.2.1 < mcat (st.take q.2.2.2.2.2.1) ∨ mrecv q (st.take q.2.2.2.2.2.1).reverse m' = false) := by
                rintro (a | a | a | a)
                · exact hb (Or.inl a)
                · exact hb (Or.inr (Or.inl a))
                · exact hb (Or.inr (Or.inr (Or.inl a)))
                · cases e : mrecv q (st.take q.2.2.2.2.2.1).reverse m with
                  | false => exact hb (Or.inr (Or.inr (Or.inr e)))
                  | true => rw [pm_recv hm e] at a; cases a
              rw [if_neg hb']
              cases hc : f d q.2.2.2.2.1 0 (lv_args 0 (st.take q.2.2.2.2.2.1).reverse) [] m nc ns with
              | none => simp only [hc] at h; cases h
              | some r1 =>
                simp only [hc] at h
                obtain ⟨⟨o', m2', nc2', ns2'⟩, hc', e1, e2, e3, e4⟩ := hfg _ _ _ _ _ _ _ _ _ m' nc' ns' hc hm
                obtain ⟨o, m2, nc2, ns2⟩ := r1
                dsimp only at e1 e2 e3 e4
                subst e1
                simp only [hc']
                cases o' with
                | inr v =>
                  obtain ⟨r', g1, g2, g3, g4, g5⟩ := hfg _ _ _ _ _ _ _ _ _ m2' nc2' ns2' h e2
                  exact ⟨r', g1, g2, g3, by omega, by omega⟩
                | inl X =>
                  simp only at h ⊢
                  cases hk : mcatch M pc X with
                  | none =>
                    simp only [hk] at h ⊢
                    by_cases hj : M.2.2.2.2.2.isEmpty = true
                    · rw [if_pos hj] at h ⊢
                      cases h
                      exact ⟨_, rfl, rfl, e2, e3, e4⟩
                    · rw [if_neg hj] at h; cases h
                  | some jp =>
                    simp only [hk] at h ⊢
                    by_cases hj : jp.1 < M.2.2.1
                    · rw [if_pos hj] at h ⊢
                      obtain ⟨r', g1, g2, g3, g4, g5⟩ := hfg _ _ _ _ _ _ _ _ _ m2' nc2' ns2' h e2
                      exact ⟨r', g1, g2, g3, by omega, by omega⟩
                    · rw [if_neg hj] at h; cases h
      · rw [if_neg h9] at h ⊢
        by_cases h8 : q.2.2.2.1 = 8
        · rw [if_pos h8] at h ⊢
          by_cases hb : M.2.2.2.2.2.isEmpty ∧ 8 ≤ d ∧ mcat st ≤ 8
          · rw [if_pos hb] at h ⊢
            cases h
            exact ⟨_, rfl, rfl, hm, by dsimp only; omega, by dsimp only; omega⟩
          · rw [if_neg hb] at h; cases h
        · rw [if_neg h8] at h ⊢
          by_cases h7 : q.2.2.2.1 = 7
          · rw [if_pos h7] at h ⊢
            by_cases hd : d < 8 ∨ 8 < mcat st
            · rw [if_pos hd] at h; cases h
            · rw [if_neg hd] at h ⊢
              cases hp : mprim E q.2.2.2.2.1 st m with
              | none => simp only [hp] at h; cases h
              | some sm =>
                obtain ⟨st1, m1⟩ := sm
                obtain ⟨m1', hp', hm1⟩ := pm_prim hm hp
                simp only [hp] at h
                simp only [hp']
                exact hfg _ _ _ _ _ _ _ _ _ _ _ _ h hm1
          · rw [if_neg h7] at h ⊢
            have key : ∀ (h : (match mplain E M.2.2.1 q pc ls st m with
                | some (pc', ls', st', mem') => f d mi pc' ls' st' mem' nc ns
                | none => if 1000 ≤ m.length + 1 then none else match malloc E q st m with
                  | some (k, st', mem', ms) => f d mi (pc + k) ls st' mem' (nc + 1) (ns + ms)
                  | none => none) = some r), ∃ r', (match mplain E M.2.2.1 q pc ls st m' with
                | some (pc', ls', st', mem') => g d mi pc' ls' st' mem' nc' ns'
                | none => if 1000 ≤ m'.length + 1 then none else match malloc E q st m' with
                  | some (k, st', mem', ms) => g d mi (pc + k) ls st' mem' (nc' + 1) (ns' + ms)
                  | none => none) = some r' ∧ pR nc ns nc' ns' r r' := by
              intro h
              cases hp : mplain E M.2.2.1 q pc ls st m with
              | some s4 =>
                obtain ⟨pc1, ls1, st1, m1⟩ := s4
                obtain ⟨m1', hp', hm1⟩ := pm_plain hm hp
                simp only [hp] at h
                simp only [hp']
                exact hfg _ _ _ _ _ _ _ _ _ _ _ _ h hm1
              | none =>
                simp only [hp] at h
                by_cases hl : 1000 ≤ m.length + 1
                · rw [if_pos hl] at h; cases h
                · rw [if_neg hl] at h
                  cases ha : malloc E q st m with
                  | none => simp only [ha] at h; cases h
                  | some s4 =>
                    obtain ⟨k1, st1, m1, ms1⟩ := s4
                    obtain ⟨m1', ha', hm1⟩ := pm_alloc hm ha
                    simp only [ha] at h
                    simp only [pm_mn (m' := m') ha, ha']
                    rw [if_neg (by rw [← hm.1]; exact hl)]
                    obtain ⟨r', g1, g2, g3, g4, g5⟩ := hfg _ _ _ _ _ _ _ _ _ m1' (nc' + 1) (ns' + ms1) h hm1
                    exact ⟨r', g1, g2, g3, by omega, by omega⟩
            split at h
            · split at h
              · rename_i c
                cases h
                exact ⟨(.inr none, m', nc', ns'), by first | rw [if_pos c] | rfl, rfl, hm, by dsimp only; omega, by dsimp only; omega⟩
              · cases h
            · rename_i x _
              split at h
              · rename_i ty et
                split at h
                · rename_i c
                  cases h
                  exact ⟨(.inr (some (.int x)), m', nc', ns'), by first | rw [if_pos c] | (simp only [et]; rw [if_pos c]) | rfl, rfl, hm, by dsimp only; omega, by dsimp only; omega⟩
                · cases h
              · cases h
            · rename_i x _
              split at h
              · rename_i c
                cases h
                exact ⟨(.inr (some (.long x)), m', nc', ns'), by first | rw [if_pos c] | rfl, rfl, hm, by dsimp only; omega, by dsimp only; omega⟩
              · cases h
            · first | exact key h | (split <;> first | exact key h | (simp_all; done))
theorem pm_run (E : mEnv) : ∀ n d mi pc ls st m nc ns r m' nc' ns', mrun E n d mi pc ls st m nc ns = some r → pM m m' → ∃ r', mrun E n d mi pc ls st m' nc' ns' = some r' ∧ pR nc ns nc' ns' r r' := by
  intro n
  induction n with
  | zero => intro d mi pc ls st m nc ns r m' nc' ns' h; exact absurd h (by simp [mrun])
  | succ n ih =>
    intro d mi pc ls st m nc ns r m' nc' ns' h hm
    rw [mrun_F] at h ⊢
    exact pm_F E _ _ ih d mi pc ls st m nc ns r m' nc' ns' h hm
