/-! reading and writing typed memory -/
/-- read-only: type, how many (told), the kind of its places, what is known of it -/
abbrev yQ : Type := Nat → Option (Nat × zV × yK × List yE)
def yRo (E : mEnv) (r : List Int) (ro : yQ) : Prop := ∀ p t nv k es, ro p = some (t, nv, k, es) → 1000 ≤ p ∧ ∃ n f, E.2.2.1 p = some (t, n, f) ∧ t < 4 ∧ n < 2147483648 ∧ nv.1 = 1 ∧ zd r nv = some (n : Int) ∧ (∀ j, j < n → yok k j (f j)) ∧ ∀ m, ych E r m es m
theorem yRo.ex {E : mEnv} {r r' : List Int} {ro : yQ} (h : zX r r') (hr : yRo E r ro) : yRo E r' ro := fun p t nv k es e => by
  obtain ⟨a, n, f, h1, h2, h3, h4, h5, h6, h7⟩ := hr p t nv k es e
  exact ⟨a, n, f, h1, h2, h3, h4, h.den h5, h6, fun m => (h7 m).ex h⟩
def yar (Y : zT yC 7) (K : List (Nat × yK)) (N : Nat) (ro : yQ) (p : Nat) : Option (Nat × zV × yK × List yE) :=
  bif Nat.ble (Nat.succ p) 1000 then
    (bif Nat.ble (Nat.succ p) N && Nat.beq (ztg 7 Y p).1 1 && Nat.ble (ztg 7 Y p).2.2.1 1000000 then some ((ztg 7 Y p).2.1, zk (.ofNat (ztg 7 Y p).2.2.1), ykk K (ztg 7 Y p).2.2.2, []) else none)
  else ro p
theorem yar_ok {E : mEnv} {r : List Int} {F : zF} {Y : zT yC 7} {K : List (Nat × yK)} {N : Nat} {ro : yQ} {p t : Nat} {nv : zV} {k : yK} {es : List yE} {mem : mMem}
    (hF : zFok r F) (hT : yTM Y K N mem) (hr : yRo E r ro) (h : yar Y K N ro p = some (t, nv, k, es)) :
    ∃ n f, marr E mem p = some (t, n, f) ∧ n < 2147483648 ∧ nv.1 = 1 ∧ zd r nv = some (n : Int) ∧ (∀ j, j < n → yvx E mem p j = some (f j)) ∧ (∀ j, j < n → yok k j (f j)) ∧ (∀ m, ych E r m es m) ∧
      (p < 1000 → mem[p]? = some (.inl (t, n, f)) ∧ p < N ∧ k = ykk K (ztg 7 Y p).2.2.2 ∧ n = (ztg 7 Y p).2.2.1) := by
  unfold yar at h
  cases c : Nat.ble (Nat.succ p) 1000 with
  | false =>
    rw [c] at h
    obtain ⟨a, n, f, h1, h2, h3, h4, h5, h6, h7⟩ := hr p t nv k es h
    refine ⟨n, f, ?_, h3, h4, h5, fun j hj => ?_, h6, h7, fun hp => absurd hp (by omega)⟩
    · unfold marr; rw [if_neg (by omega)]; exact h1
    · unfold yvx; rw [if_neg (by omega), h1]; simp only [hj, if_true]
  | true =>
    rw [c] at h
    rw [Nat.ble_eq] at c
    simp only [cond_true] at h
    cases c2 : (Nat.ble (Nat.succ p) N && Nat.beq (ztg 7 Y p).1 1 && Nat.ble (ztg 7 Y p).2.2.1 1000000) with
    | false => rw [c2] at h; cases h
    | true =>
      rw [c2] at h
      cases h
      simp only [Bool.and_eq_true, Nat.ble_eq, zbe] at c2
      obtain ⟨⟨d1, d2⟩, d3⟩ := c2
      have hlt : p < mem.length := by rw [hT.1]; omega
      obtain ⟨s1, s2⟩ := hT.2.2 p mem[p] (List.getElem?_eq_getElem hlt)
      cases hc : mem[p] with
      | inr q =>
        rw [hc] at s1
        obtain ⟨ci, fs⟩ := q
        have := s1.1
        omega
      | inl q =>
        obtain ⟨t, n, f⟩ := q
        rw [hc] at s1 s2
        obtain ⟨-, e1, e2⟩ := s1
        subst e1
        subst e2
        have hm : mem[p]? = some (.inl ((ztg 7 Y p).2.1, (ztg 7 Y p).2.2.1, f)) := by rw [List.getElem?_eq_getElem hlt, hc]
        have hv : ∀ j, j < (ztg 7 Y p).2.2.1 → yvx E mem p j = some (f j) := fun j hj => by
          unfold yvx yva
          rw [if_pos (by omega), hm]
          simp only [yv1, hj, if_true]
        refine ⟨_, f, ?_, by omega, rfl, ?_, hv, fun j hj => s2 j (f j) (by simp only [yv1, hj, if_true]), fun m => rfl, fun _ => ⟨hm, by omega, rfl, rfl⟩⟩
        · unfold marr; rw [if_pos (by omega), hm]
        · exact zk_d hF _
/-- what stands at a place -/
def yrp (F : zF) (es es0 : List yE) (k : yK) (nv : zV) (p : Nat) (i : zV) : Option (zV × zF × List yE) := match yfi F p i es with
  | (0, a) => some (a, F, es)
  | _ => match yfi F p i es0 with
    | (0, a) => some (a, F, es)
    | _ => match (match zlh F nv with
        | some (_, h) => yhl F k h i
        | none => none) with
      | some (0, _, _) => none
      | some (1, l, h) => bif zeq l h then some ((1, 0, l), F, es) else some ((1, F.1, 0), zfr F l h, (p, i, (1, F.1, 0), 0) :: es)
      | some (2, l, h) => bif zeq l h then (match l with
        | .ofNat n => some ((2, n, 0), F, es)
        | _ => none) else none
      | some (_, _, _) => some ((4, 0, 0), F, es)
      | none => none
theorem yrp_ok {E : mEnv} {r : List Int} {F F' : zF} {es es0 es' : List yE} {k : yK} {nv i a : zV} {p j n : Nat} {m0 m1 m : mMem} {v : Value}
    (hF : zFok r F) (hc : ych E r m0 es m) (hc0 : ych E r m1 es0 m) (hi : zd r i = some (j : Int)) (hv : yvx E m p j = some v) (hk : yok k j v) (hn : zd r nv = some (n : Int)) (hj : j < n)
    (h : yrp F es es0 k nv p i = some (a, F', es')) : ∃ r', zX r r' ∧ zFok r' F' ∧ ych E r' m0 es' m ∧ zvm r' v a := by
  unfold yrp at h
  split at h
  · rename_i a' e
    cases h
    exact ⟨r, zX.rf, hF, hc, yfi_ok hF hi hc hv e⟩
  · split at h
    · rename_i a' e
      cases h
      exact ⟨r, zX.rf, hF, hc, yfi_ok hF hi hc0 hv e⟩
    · have key : ∀ t l h9, (match zlh F nv with
          | some (_, h) => yhl F k h i
          | none => none) = some (t, l, h9) → yrm v t l h9 := by
        intro t l h9 e
        split at e
        · rename_i l9 h8 e2
          have hb := (zlh_ok hF e2 hn).2
          exact yhl_ok hF hi (by omega) hk e
        · cases e
      split at h
      · cases h
      · rename_i l h9 e
        obtain ⟨x, rfl, b1, b2⟩ := key _ _ _ e
        cases c : zeq l h9 with
        | true =>
          rw [c] at h
          cases h
          have := zeq_iff.mp c
          exact ⟨r, zX.rf, hF, hc, zvm_int rfl (zd_some.mpr ⟨0, hF.2.1, by dsimp only; omega⟩)⟩
        | false =>
          rw [c] at h
          cases h
          obtain ⟨g1, g2, g3⟩ := zfr_ok hF b1 b2
          have hz : zvm (r ++ [x.toInt]) (.int x) (1, F.1, 0) := zvm_int rfl (zd_some.mpr ⟨_, g2, by simp⟩)
          exact ⟨_, g3, g1, (hc.ex g3).fact (g3.den hi) hv hz, hz⟩
      · rename_i l h9 e
        cases c : zeq l h9 with
        | false => rw [c] at h; cases h
        | true =>
          rw [c] at h
          simp only [cond_true] at h
          obtain ⟨x, rfl, b1, b2⟩ := key _ _ _ e
          have := zeq_iff.mp c
          split at h
          · rename_i n' 
            cases h
            refine ⟨r, zX.rf, hF, hc, ?_⟩
            show Value.ref x = .ref n'
            have : x = n' := by simp only [Int.ofNat_eq_natCast] at b1 this; omega
            rw [this]
          · cases h
      · rename_i t l h9 n1 n2 n3 e
        cases h
        have := key _ _ _ e
        refine ⟨r, zX.rf, hF, hc, ?_⟩
        unfold yrm at this
        split at this
        · exact (n1 rfl).elim
        · exact (n2 rfl).elim
        · exact (n3 rfl).elim
        · obtain ⟨x, rfl⟩ := this
          exact ⟨x, rfl⟩
      · cases h
/-- a value that these may hold -/
def yfv (F : zF) (v : zV) (q : Nat × Int × Int) : Bool := match q.1 with
  | 0 => true
  | 1 => Nat.beq v.1 1 && yin F v q.2.1 q.2.2
  | 2 => Nat.beq v.1 2 && zle q.2.1 (.ofNat v.2.1) && zle (.ofNat v.2.1) q.2.2
  | _ => Nat.ble 3 v.1
theorem yfv_ok {r : List Int} {F : zF} {a : zV} {v : Value} {q : Nat × Int × Int} (hF : zFok r F) (hv : zvm r v a) (h : yfv F a q = true) : yrm v q.1 q.2.1 q.2.2 := by
  unfold yfv at h
  unfold yrm
  split at h
  · rename_i e; rw [e]; trivial
  · rename_i e
    rw [e]
    simp only [Bool.and_eq_true] at h
    obtain ⟨x, rfl, hx⟩ := zvm_i hv h.1
    obtain ⟨b1, b2⟩ := yin_ok hF hx h.2
    exact ⟨x, rfl, b1, b2⟩
  · rename_i e
    rw [e]
    simp only [Bool.and_eq_true, zle_iff] at h
    have := zvm_r hv h.1.1
    exact ⟨a.2.1, this, h.1.2, h.2⟩
  · rename_i n0 n1 n2
    obtain ⟨x, e⟩ := zvm_l hv h
    split
    · rename_i e9; exact absurd e9 n0
    · rename_i e9; exact absurd e9 n1
    · rename_i e9; exact absurd e9 n2
    · exact ⟨x, e⟩
def yfs (F : zF) (v : zV) (a b : Int) : Nat → List zR → Bool
  | _, [] => true
  | s, q :: l => (zle (b + 1) (.ofNat s) || zle (.ofNat q.1) a || yfv F v q.2) && yfs F v a b q.1 l
theorem yfs_ok {r : List Int} {F : zF} {a : zV} {v : Value} {x y : Int} {j : Nat} (hF : zFok r F) (hv : zvm r v a) (h1 : x ≤ (j : Int)) (h2 : (j : Int) ≤ y) : ∀ {l : List zR} {s : Nat} {q : Nat × Int × Int}, s ≤ j → yfs F a x y s l = true → zba l j = some q → yrm v q.1 q.2.1 q.2.2
  | [], _, _, _, _, hq => by cases hq
  | q9 :: l, s, q, hs, h, hq => by
    unfold yfs at h
    unfold zba at hq
    simp only [Bool.and_eq_true, Bool.or_eq_true, zle_iff, Int.ofNat_eq_natCast] at h
    cases c : Nat.ble (Nat.succ j) q9.1 with
    | true =>
      rw [c] at hq
      rw [Nat.ble_eq] at c
      simp only [cond_true] at hq
      have e : q9.2 = q := Option.some.inj hq
      rcases h.1 with (h3 | h3) | h3
      · omega
      · omega
      · rw [← e]; exact yfv_ok hF hv h3
    | false =>
      rw [c] at hq
      have c : ¬ (Nat.succ j ≤ q9.1) := by rw [← Nat.ble_eq, c]; simp
      exact yfs_ok hF hv h1 h2 (by omega) h.2 hq
def yfg (F : zF) (v i : zV) : List yG → Bool
  | [] => true
  | [q] => yle 2 F (zsh i 1) (zk q.1) || yge 2 F i q.2.1 || (match yri F i [q] with
    | some p => Nat.beq v.1 1 && yin F v p.1 p.2
    | none => q.2.2.2.all fun p => Nat.beq v.1 1 && yin F v p.1 p.2)
  | _ => false
theorem yfg_ok {r : List Int} {F : zF} {a i : zV} {v : Value} {j : Nat} {p : Int × Int} (hF : zFok r F) (hv : zvm r v a) (hi : zd r i = some (j : Int)) : ∀ {l : List yG}, yfg F a i l = true → yrs j l = some p → yrm v 1 p.1 p.2
  | [], _, hp => by cases hp
  | _ :: _ :: _, h, _ => by cases h
  | [q], h, hp => by
    have fin : ∀ p' : Int × Int, (Nat.beq a.1 1 && yin F a p'.1 p'.2) = true → yrm v 1 p'.1 p'.2 := by
      intro p' h9
      simp only [Bool.and_eq_true] at h9
      obtain ⟨x, rfl, hx⟩ := zvm_i hv h9.1
      obtain ⟨b1, b2⟩ := yin_ok hF hx h9.2
      exact ⟨x, rfl, b1, b2⟩
    unfold yfg at h
    simp only [Bool.or_eq_true] at h
    have hp0 := hp
    unfold yrs at hp
    simp only at hp
    split at hp
    · rename_i hr
      rcases h with (h | h) | h
      · have := yle_ok hF 2 (zsh_d hi) (zk_d hF _) h; omega
      · have := yge_ok hF 2 hi h; omega
      · split at h
        · rename_i p' e
          rw [yri_ok hF hi e] at hp0
          cases hp0
          exact fin _ h
        · rw [List.all_eq_true] at h
          exact fin _ (h p (List.mem_of_getElem? hp))
    · cases hp
/-- the value stands at the same place of a cell of the same kind -/
def ysm (F : zF) (es : List yE) (Y : zT yC 7) (N p : Nat) (i v : zV) : Bool := es.any fun e =>
  Nat.beq v.1 1 && Nat.beq e.2.2.1.1 1 && zve e.2.2.1 v && Nat.ble (Nat.succ e.1) N && Nat.beq (ztg 7 Y e.1).1 1 && Nat.beq (ztg 7 Y e.1).2.2.1 (ztg 7 Y p).2.2.1 && Nat.beq (ztg 7 Y e.1).2.2.2 (ztg 7 Y p).2.2.2 && (match yfi F e.1 i es with
    | (0, b) => Nat.beq b.1 1 && zve b v
    | _ => false)
theorem ysm_ok {E : mEnv} {r : List Int} {F : zF} {es : List yE} {Y : zT yC 7} {K : List (Nat × yK)} {N p j : Nat} {i a : zV} {v : Value} {m0 m : mMem} (hF : zFok r F) (hT : yTM Y K N m) (hc : ych E r m0 es m) (hi : zd r i = some (j : Int)) (hj : j < (ztg 7 Y p).2.2.1)
    (hv : zvm r v a) (h : ysm F es Y N p i a = true) : yok (ykk K (ztg 7 Y p).2.2.2) j v := by
  unfold ysm at h
  rw [List.any_eq_true] at h
  obtain ⟨e, -, h⟩ := h
  simp only [Bool.and_eq_true, Nat.ble_eq] at h
  obtain ⟨⟨⟨⟨⟨⟨⟨h1, h2⟩, h3⟩, h4⟩, h5⟩, h6⟩, h7⟩, h8⟩ := h
  obtain ⟨x, rfl, hx⟩ := zvm_i hv h1
  have hlt : e.1 < m.length := by rw [hT.1]; omega
  obtain ⟨s1, s2⟩ := hT.2.2 e.1 m[e.1] (List.getElem?_eq_getElem hlt)
  have h128 := hT.2.1
  cases hc9 : m[e.1] with
  | inr q =>
    rw [hc9] at s1
    have := s1.1
    rw [zbe.mp h5] at this
    omega
  | inl q =>
    obtain ⟨t, n, f⟩ := q
    rw [hc9] at s1 s2
    obtain ⟨-, -, e2⟩ := s1
    have hjn : j < n := by rw [← e2, zbe.mp h6]; exact hj
    have hy : yv1 (.inl (t, n, f)) j = some (f j) := by simp only [yv1, hjn, if_true]
    have hx9 : yvx E m e.1 j = some (f j) := by
      unfold yvx yva
      rw [if_pos (by omega), List.getElem?_eq_getElem hlt, hc9]
      exact hy
    split at h8
    · rename_i b eb
      simp only [Bool.and_eq_true] at h8
      have hz := yfi_ok hF hi hc hx9 eb
      obtain ⟨y, ey, hy9⟩ := zvm_i hz h8.1
      rw [zve_d h8.2, hx] at hy9
      have : x = y := Int32.toInt_inj.mp (by simpa using hy9)
      subst this
      rw [← ey, ← zbe.mp h7]
      exact s2 j (f j) hy
    · cases h8
def yft (F : zF) (es : List yE) (Y : zT yC 7) (K : List (Nat × yK)) (N p : Nat) (i v : zV) : Bool := ysm F es Y N p i v || (match zlh F i with
    | some (a, b) => yfs F v (zmax a 0) (zmin b (.ofNat (ztg 7 Y p).2.2.1 - 1)) 0 (ykk K (ztg 7 Y p).2.2.2).1
    | none => false) && yfg F v i (ykk K (ztg 7 Y p).2.2.2).2
theorem yft_ok {E : mEnv} {r : List Int} {F : zF} {es : List yE} {Y : zT yC 7} {K : List (Nat × yK)} {N p j : Nat} {i a : zV} {v u : Value} {m0 m : mMem} (hF : zFok r F) (hT : yTM Y K N m) (hc : ych E r m0 es m) (hi : zd r i = some (j : Int)) (hj : j < (ztg 7 Y p).2.2.1)
    (hv : zvm r v a) (hu : yok (ykk K (ztg 7 Y p).2.2.2) j u) (h : yft F es Y K N p i a = true) : yok (ykk K (ztg 7 Y p).2.2.2) j v := by
  unfold yft at h
  simp only [Bool.or_eq_true, Bool.and_eq_true] at h
  rcases h with h | ⟨h1, h2⟩
  · exact ysm_ok hF hT hc hi hj hv h
  · split at h1
    · rename_i x y e
      obtain ⟨b1, b2⟩ := zlh_ok hF e hi
      obtain ⟨⟨q, q1, -⟩, -⟩ := hu
      exact ⟨⟨q, q1, yfs_ok hF hv (zmax_le.mpr ⟨b1, by omega⟩) (zmin_le.mpr ⟨b2, by simp only [Int.ofNat_eq_natCast]; omega⟩) (Nat.zero_le _) h1 q1⟩, fun p hp => yfg_ok hF hv hi h2 hp⟩
    · cases h1
/-- a place that may be changed -/
def yMi (mods : List (Nat × Nat × Nat)) (p j : Nat) : Prop := ∃ q ∈ mods, q.1 = p ∧ q.2.1 ≤ j ∧ j < q.2.2
/-- rows of seven: which place is the pin's -/
def yGp : List yG := [(80, 136, 7, [(0, 0), (0, 0), (0, 0), (0, 0), (0, 0), (1, 1), (0, 0)])]
theorem yrsp {j : Nat} {p : Int × Int} (h : yrs j yGp = some p) : 80 ≤ j ∧ j < 136 ∧ (p.1 = 1 ↔ (j - 80) % 7 = 5) := by
  unfold yrs yGp at h
  simp only at h
  split at h
  · rename_i hc
    refine ⟨hc.1, hc.2, ?_⟩
    have hm : (j - 80) % 7 < 7 := Nat.mod_lt _ (by decide)
    generalize (j - 80) % 7 = q at h hm
    have : q = 0 ∨ q = 1 ∨ q = 2 ∨ q = 3 ∨ q = 4 ∨ q = 5 ∨ q = 6 := by omega
    rcases this with rfl | rfl | rfl | rfl | rfl | rfl | rfl <;> cases h <;> decide
  · cases h
/-- a place that is no pin -/
def ynp (F : zF) (i : zV) : Bool := match yri F i yGp with
  | some w => zeq w.1 0
  | none => false
theorem ynp_ok {r : List Int} {F : zF} {i : zV} {j : Nat} (hF : zFok r F) (hi : zd r i = some (j : Int)) (h : ynp F i = true) : 80 ≤ j ∧ j < 136 ∧ (j - 80) % 7 ≠ 5 := by
  unfold ynp at h
  split at h
  · rename_i w ew
    obtain ⟨a, b, c⟩ := yrsp (yri_ok hF hi ew)
    refine ⟨a, b, fun e => ?_⟩
    have e1 := c.mpr e
    have e2 := zeq_iff.mp h
    omega
  · cases h
def yHo (p : Nat) (mods : List (Nat × Nat × Nat)) : Bool := (List.range 56).all fun d => Nat.beq (Nat.mod d 7) 5 || mods.any fun q => Nat.beq q.1 p && Nat.ble q.2.1 (80 + d) && Nat.ble (81 + d) q.2.2
def yim1 (F : zF) (p : Nat) (i : zV) (mods : List (Nat × Nat × Nat)) : Bool := mods.any fun q => Nat.beq q.1 p && yge 2 F i q.2.1 && yle 2 F (zsh i 1) (zk q.2.2)
def yim (F : zF) (p : Nat) (i : zV) (mods : List (Nat × Nat × Nat)) : Bool := bif yim1 F p i mods then true else (ynp F i && yHo p mods)
theorem yim_ok {r : List Int} {F : zF} {p j : Nat} {i : zV} {mods : List (Nat × Nat × Nat)} (hF : zFok r F) (hi : zd r i = some (j : Int)) (h : yim F p i mods = true) : yMi mods p j := by
  unfold yim at h
  cases c : yim1 F p i mods with
  | true =>
    unfold yim1 at c
    rw [List.any_eq_true] at c
    obtain ⟨q, hq, h⟩ := c
    simp only [Bool.and_eq_true] at h
    have h1 := yge_ok hF 2 hi h.1.2
    have h2 := yle_ok hF 2 (zsh_d hi) (zk_d hF _) h.2
    exact ⟨q, hq, zbe.mp h.1.1, by omega, by omega⟩
  | false =>
    rw [c] at h
    simp only [cond_false, Bool.and_eq_true] at h
    obtain ⟨a, b, e⟩ := ynp_ok hF hi h.1
    have h2 := h.2
    unfold yHo at h2
    have h9 := List.all_eq_true.mp h2 (j - 80) (List.mem_range.mpr (by omega))
    simp only [Bool.or_eq_true, List.any_eq_true, Bool.and_eq_true, Nat.ble_eq, zbe] at h9
    rcases h9 with h9 | ⟨q, hq, ⟨q1, q2⟩, q3⟩
    · exact absurd h9 e
    · exact ⟨q, hq, q1, by omega, by omega⟩
