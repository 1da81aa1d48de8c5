/-! LESS KNOWN, THE SAME RESULT: a run over a memory with places that hold nothing goes so over every memory that agrees with it elsewhere -/
def pC (c c' : mCell) : Prop := match c, c' with
  | .inl (t, n, f), .inl (t', n', f') => t = t' ∧ n = n' ∧ ∀ j, j < n → f j ≠ Value.null → f' j = f j
  | .inr (ci, fs), .inr (ci', fs') => ci = ci' ∧ fs.length = fs'.length ∧ ∀ (j : Nat) (v : Value), fs[j]? = some v → v ≠ Value.null → fs'[j]? = some v
  | _, _ => False
def pM (m m' : mMem) : Prop := m.length = m'.length ∧ ∀ (k : Nat) (c : mCell), m[k]? = some c → ∃ c', m'[k]? = some c' ∧ pC c c'
theorem pM.a {m m' : mMem} (h : pM m m') {a t n : Nat} {f : Nat → Value} (e : m[a]? = some (.inl (t, n, f))) : ∃ f', m'[a]? = some (.inl (t, n, f')) ∧ ∀ j, j < n → f j ≠ Value.null → f' j = f j := by
  obtain ⟨c', h1, h2⟩ := h.2 a _ e
  cases c' with
  | inl x =>
    obtain ⟨t', n', f'⟩ := x
    obtain ⟨rfl, rfl, h3⟩ := h2
    exact ⟨f', h1, h3⟩
  | inr x => exact h2.elim
theorem pM.o {m m' : mMem} (h : pM m m') {a ci : Nat} {fs : List Value} (e : m[a]? = some (.inr (ci, fs))) : ∃ fs', m'[a]? = some (.inr (ci, fs')) ∧ fs.length = fs'.length ∧ ∀ (j : Nat) (v : Value), fs[j]? = some v → v ≠ Value.null → fs'[j]? = some v := by
  obtain ⟨c', h1, h2⟩ := h.2 a _ e
  cases c' with
  | inl x => exact h2.elim
  | inr x =>
    obtain ⟨ci', fs'⟩ := x
    obtain ⟨rfl, h3, h4⟩ := h2
    exact ⟨fs', h1, h3, h4⟩
theorem pM.set {m m' : mMem} (h : pM m m') {a : Nat} {c c' : mCell} (hc : pC c c') : pM (m.set a c) (m'.set a c') := by
  refine ⟨by rw [List.length_set, List.length_set]; exact h.1, fun k d hd => ?_⟩
  by_cases hk : a = k
  · subst hk
    have hl : a < m.length := by
      have := (List.getElem?_eq_some_iff.mp hd).1
      rwa [List.length_set] at this
    rw [List.getElem?_set_self hl] at hd
    cases hd
    exact ⟨c', List.getElem?_set_self (by rw [← h.1]; exact hl), hc⟩
  · rw [List.getElem?_set_ne hk] at hd ⊢
    exact h.2 k d hd
theorem pM.app {m m' : mMem} (h : pM m m') {c : mCell} (hc : pC c c) : pM (m ++ [c]) (m' ++ [c]) := by
  refine ⟨by rw [List.length_append, List.length_append, h.1], fun k d hd => ?_⟩
  by_cases hk : k < m.length
  · rw [List.getElem?_append_left hk] at hd
    obtain ⟨c', h1, h2⟩ := h.2 k d hd
    exact ⟨c', by rw [List.getElem?_append_left (by rw [← h.1]; exact hk)]; exact h1, h2⟩
  · rw [List.getElem?_append_right (by omega)] at hd
    refine ⟨d, by rw [List.getElem?_append_right (by rw [← h.1]; omega), ← h.1]; exact hd, ?_⟩
    have : d = c := by
      cases hk9 : k - m.length with
      | zero => rw [hk9] at hd; simpa using hd.symm
      | succ i => rw [hk9] at hd; simp at hd
    rw [this]
    exact hc
theorem pM.arr {E : mEnv} {m m' : mMem} (h : pM m m') {a t n : Nat} {f : Nat → Value} (e : marr E m a = some (t, n, f)) : ∃ f', marr E m' a = some (t, n, f') ∧ ∀ j, j < n → f j ≠ Value.null → f' j = f j := by
  unfold marr at e ⊢
  by_cases ha : a < 1000
  · rw [if_pos ha] at e ⊢
    split at e
    · rename_i x ex
      cases e
      obtain ⟨f', h1, h2⟩ := h.a ex
      exact ⟨f', by rw [h1], h2⟩
    · cases e
  · rw [if_neg ha] at e ⊢
    exact ⟨f, e, fun j _ _ => rfl⟩
theorem mIn_lt {i : Int32} {n : Nat} (h : mIn i n = true) : i.toNatClampNeg < n := by
  unfold mIn at h
  simp only [Bool.not_eq_true', Bool.or_eq_false_iff, decide_eq_false_iff_not] at h
  omega
theorem pM.setA {m m' : mMem} (h : pM m m') {a t n k : Nat} {f f' : Nat → Value} {v : Value} (hf : ∀ j, j < n → f j ≠ Value.null → f' j = f j) : pM (m.set a (.inl (t, n, mup f k v))) (m'.set a (.inl (t, n, mup f' k v))) := by
  refine h.set (c := .inl (t, n, mup f k v)) (c' := .inl (t, n, mup f' k v)) ?_
  refine ⟨rfl, rfl, fun j hj hn => ?_⟩
  unfold mup at hn ⊢
  split
  · rfl
  · rename_i hne; rw [if_neg hne] at hn; exact hf j hj hn
theorem pM.setO {m m' : mMem} (h : pM m m') {a ci k : Nat} {fs fs' : List Value} {v : Value} (hl : fs.length = fs'.length) (hf : ∀ (j : Nat) (v : Value), fs[j]? = some v → v ≠ Value.null → fs'[j]? = some v) : pM (m.set a (.inr (ci, fs.set k v))) (m'.set a (.inr (ci, fs'.set k v))) := by
  refine h.set (c := .inr (ci, fs.set k v)) (c' := .inr (ci, fs'.set k v)) ?_
  refine ⟨rfl, by rw [List.length_set, List.length_set]; exact hl, fun j w hw hn => ?_⟩
  by_cases hj : k = j
  · subst hj
    have hlt : k < fs.length := by
      have := (List.getElem?_eq_some_iff.mp hw).1
      rwa [List.length_set] at this
    rw [List.getElem?_set_self hlt] at hw
    rw [List.getElem?_set_self (by rw [← hl]; exact hlt)]
    exact hw
  · rw [List.getElem?_set_ne hj] at hw ⊢
    exact hf j w hw hn
theorem pm_mdef {nL : Nat} {q : mIns} {pc pc' : Nat} {ls ls' : mLs} {st st' : List Value} {m m' m1 : mMem} (h : mdef nL q pc ls st m = some (pc', ls', st', m1)) : m1 = m ∧ mdef nL q pc ls st m' = some (pc', ls', st', m') := by
  unfold mdef at h ⊢
  split at h
  · rename_i e
    try simp only [e]
    cases h
    exact ⟨by first | rfl | trivial, by first | rfl | trivial⟩
  · rename_i e
    try simp only [e]
    split at h
    · rename_i e2
      try simp only [e2]
      split at h
      · rename_i e3
        try simp only [e3]
        split at h
        · rename_i c
          cases h
          rw [if_pos c]
          exact ⟨by first | rfl | trivial, by first | rfl | trivial⟩
        · cases h
      · cases h
    · rename_i e2
      try simp only [e2]
      split at h
      · rename_i e3
        try simp only [e3]
        split at h
        · split at h
          · rename_i c
            cases h
            simp only [c, if_true]
            exact ⟨by first | rfl | trivial, by first | rfl | trivial⟩
          · cases h
        · cases h
      · rename_i e3
        try simp only [e3]
        split at h
        · split at h
          · rename_i e4
            try simp only [e4]
            cases h
            exact ⟨by first | rfl | trivial, by first | rfl | trivial⟩
          · rename_i e4
            try simp only [e4]
            split at h
            · rename_i e5
              try simp only [e5]
              cases h
              exact ⟨by first | rfl | trivial, by first | rfl | trivial⟩
            · cases h
        · rename_i hn
          split at h
          · rename_i e5
            cases h
            exact ⟨by first | rfl | trivial, by first | rfl | trivial⟩
          · cases h
        · split at h
          · rename_i e5
            cases h
            try simp only [e5]
            exact ⟨by first | rfl | trivial, by first | rfl | trivial⟩
          · cases h
        · cases h
theorem pm_plain {E : mEnv} {nL : Nat} {q : mIns} {pc pc' : Nat} {ls ls' : mLs} {st st' : List Value} {m m' m1 : mMem} (hm : pM m m') (h : mplain E nL q pc ls st m = some (pc', ls', st', m1)) : ∃ m1', mplain E nL q pc ls st m' = some (pc', ls', st', m1') ∧ pM m1 m1' := by
  unfold mplain at h ⊢
  split at h
  -- goto
  · rename_i e
    try simp only [e]
    split at h <;> cases h
    exact ⟨m', rfl, hm⟩
  -- ifCond
  · rename_i e
    try simp only [e]
    split at h
    · split at h
      · rename_i e2
        try simp only [e2]
        split at h <;> rename_i c <;> cases h
        · exact ⟨m', by rw [if_pos c], hm⟩
        · exact ⟨m', by rw [if_neg c], hm⟩
      · cases h
    · cases h
  -- if_icmp
  · rename_i e
    try simp only [e]
    split at h
    · split at h
      · rename_i e2
        try simp only [e2]
        split at h <;> rename_i c <;> cases h
        · exact ⟨m', by rw [if_pos c], hm⟩
        · exact ⟨m', by rw [if_neg c], hm⟩
      · cases h
    · cases h
  -- iinc
  · rename_i e
    try simp only [e]
    split at h
    · split at h
      · rename_i c
        cases h
        exact ⟨m', by rw [if_pos c], hm⟩
      · cases h
    · cases h
  -- i2l, l2i, lcmp
  · rename_i e
    try simp only [e]
    split at h <;> cases h
    exact ⟨m', rfl, hm⟩
  · rename_i e
    try simp only [e]
    split at h <;> cases h
    exact ⟨m', rfl, hm⟩
  · rename_i e
    try simp only [e]
    split at h <;> cases h
    exact ⟨m', rfl, hm⟩
  -- dup, dup_x1, dup2, pop, pop2
  · rename_i e
    try simp only [e]
    split at h
    · split at h
      · rename_i c
        cases h
        exact ⟨m', by rw [if_pos c], hm⟩
      · cases h
    · cases h
  · rename_i e
    try simp only [e]
    split at h
    · split at h
      · rename_i c
        cases h
        exact ⟨m', by rw [if_pos c], hm⟩
      · cases h
    · cases h
  · rename_i e
    try simp only [e]
    split at h
    · split at h
      · rename_i c
        cases h
        exact ⟨m', by rw [if_pos c], hm⟩
      · cases h
    · cases h
  · rename_i e
    try simp only [e]
    split at h
    · split at h
      · rename_i c
        cases h
        exact ⟨m', by rw [if_pos c], hm⟩
      · cases h
    · cases h
  · rename_i e
    try simp only [e]
    split at h
    · split at h
      · rename_i c
        cases h
        exact ⟨m', by rw [if_pos c], hm⟩
      · cases h
    · cases h
  -- tableswitch
  · rename_i e
    try simp only [e]
    split at h
    · split at h
      · rename_i c
        rw [if_pos c]
        rw [Option.map_eq_some_iff] at h
        obtain ⟨t, h1, h2⟩ := h
        cases h2
        rw [h1]
        exact ⟨m', rfl, hm⟩
      · rename_i c
        rw [if_neg c]
        split at h
        · rename_i off eo
          rw [Option.map_eq_some_iff] at h
          obtain ⟨t, h1, h2⟩ := h
          cases h2
          simp only [h1]
          exact ⟨m', rfl, hm⟩
        · cases h
    · cases h
  -- lookupswitch
  · rename_i e
    try simp only [e]
    split at h
    · split at h
      · rename_i c
        rw [if_pos c]
        rw [Option.map_eq_some_iff] at h
        obtain ⟨t, h1, h2⟩ := h
        cases h2
        rw [h1]
        exact ⟨m', rfl, hm⟩
      · cases h
    · cases h
  -- arraylength
  · rename_i e
    try simp only [e]
    split at h
    · split at h
      · rename_i t n f ea
        obtain ⟨f', ea', -⟩ := hm.arr ea
        simp only [ea']
        split at h
        · rename_i c
          cases h
          exact ⟨m', by rw [if_pos c], hm⟩
        · cases h
      · cases h
    · cases h
  -- iaload, laload, baload
  · rename_i e
    try simp only [e]
    split at h
    · split at h
      · rename_i n f ea
        obtain ⟨f', ea', hf⟩ := hm.arr ea
        simp only [ea']
        split at h
        · rename_i c
          split at h
          · rename_i x ex
            cases h
            have := hf _ (mIn_lt c) (by rw [ex]; exact fun z => by cases z)
            rw [ex] at this
            exact ⟨m', by rw [if_pos c, this], hm⟩
          · cases h
        · cases h
      · cases h
    · cases h
  · rename_i e
    try simp only [e]
    split at h
    · split at h
      · rename_i n f ea
        obtain ⟨f', ea', hf⟩ := hm.arr ea
        simp only [ea']
        split at h
        · rename_i c
          split at h
          · rename_i x ex
            cases h
            have := hf _ (mIn_lt c) (by rw [ex]; exact fun z => by cases z)
            rw [ex] at this
            exact ⟨m', by rw [if_pos c, this], hm⟩
          · cases h
        · cases h
      · cases h
    · cases h
  · rename_i e
    try simp only [e]
    split at h
    · split at h
      · rename_i n f ea
        obtain ⟨f', ea', hf⟩ := hm.arr ea
        simp only [ea']
        split at h
        · rename_i c
          split at h
          · rename_i x ex
            cases h
            have := hf _ (mIn_lt c) (by rw [ex]; exact fun z => by cases z)
            rw [ex] at this
            exact ⟨m', by rw [if_pos c, this], hm⟩
          · cases h
        · cases h
      · cases h
    · cases h
  -- iastore, lastore, bastore
  · rename_i e
    try simp only [e]
    split at h
    · split at h
      · rename_i n f ea
        obtain ⟨f', ea', hf⟩ := hm.a ea
        simp only [ea']
        split at h
        · rename_i c
          cases h
          exact ⟨_, by first | rw [if_pos c] | rfl, hm.setA hf⟩
        · cases h
      · cases h
    · cases h
  · rename_i e
    try simp only [e]
    split at h
    · split at h
      · rename_i n f ea
        obtain ⟨f', ea', hf⟩ := hm.a ea
        simp only [ea']
        split at h
        · rename_i c
          cases h
          exact ⟨_, by first | rw [if_pos c] | rfl, hm.setA hf⟩
        · cases h
      · cases h
    · cases h
  · rename_i e
    try simp only [e]
    split at h
    · split at h
      · rename_i n f ea
        obtain ⟨f', ea', hf⟩ := hm.a ea
        simp only [ea']
        split at h
        · rename_i c
          cases h
          exact ⟨_, by first | rw [if_pos c] | rfl, hm.setA hf⟩
        · cases h
      · cases h
    · cases h
  -- getfield
  · rename_i e
    try simp only [e]
    split at h
    · split at h
      · rename_i ci fs ea
        obtain ⟨fs', ea', hl, hf⟩ := hm.o ea
        simp only [ea']
        split at h
        · rename_i c
          rw [if_pos c]
          split at h
          · rename_i v ev
            split at h
            · rename_i kd
              cases h
              have hv := hf _ v ev (fun z => by rw [z] at kd; simp [mkind] at kd)
              try simp only [hv]
              exact ⟨m', by rw [if_pos kd], hm⟩
            · cases h
          · cases h
        · cases h
      · cases h
    · cases h
  -- putfield
  · rename_i e
    try simp only [e]
    split at h
    · split at h
      · rename_i ci fs ea
        obtain ⟨fs', ea', hl, hf⟩ := hm.o ea
        simp only [ea']
        split at h
        · rename_i c
          rw [if_pos c]
          split at h
          · rename_i ty et
            try simp only [et]
            split at h
            · rename_i kd
              cases h
              rw [hl] at kd
              exact ⟨_, by first | rw [if_pos kd] | rfl, hm.setO hl hf⟩
            · cases h
          · cases h
        · cases h
      · cases h
    · cases h
  -- the rest
  · obtain ⟨rfl, h2⟩ := pm_mdef (m' := m') h
    refine ⟨m', ?_, hm⟩
    first | exact h2 | (split <;> first | exact h2 | (simp_all; done))
