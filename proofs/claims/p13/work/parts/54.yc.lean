/-! what is written may leave it so: by what is known of the places -/
section
variable {gh : yGh}
theorem ych_pl {E : mEnv} {r : List Int} {m0 : mMem} : ∀ {es : List yE} {m : mMem}, ych E r m0 es m → ∀ e ∈ es, ∃ i : Nat, zd r e.2.1 = some (i : Int)
  | [], _, _, e, he => by cases he
  | e9 :: es, m, h, e, he => by
    obtain ⟨i, h1, h2⟩ := h
    rcases List.mem_cons.mp he with rfl | he
    · exact ⟨i, h1⟩
    · split at h2
      · exact ych_pl h2.1 e he
      · obtain ⟨m1, v, g1, -⟩ := h2
        exact ych_pl g1 e he
/-- an int that is known to stand at a place -/
def yk9 (F : zF) (es : List yE) (Y : zT yC 7) (N p : Nat) (i : zV) : Option zV :=
  bif Nat.ble (Nat.succ p) N && yin F i 0 (.ofNat (ztg 7 Y p).2.2.1 - 1) then (match yfi F p i es with
    | (0, a) => bif Nat.beq a.1 1 then some a else none
    | _ => none) else none
theorem yk9_ok {E : mEnv} {r : List Int} {F : zF} {es : List yE} {Y : zT yC 7} {K : List (Nat × yK)} {N p : Nat} {i a : zV} {z : Int} {m0 m : mMem} (hF : zFok r F) (hc : ych E r m0 es m) (hT : yTM Y K N m) (hi : zd r i = some z) (h : yk9 F es Y N p i = some a) :
    ∃ (j : Nat) (x : Int32), z = (j : Int) ∧ yva m p j = some (.int x) ∧ zd r a = some x.toInt := by
  unfold yk9 at h
  cases c : (Nat.ble (Nat.succ p) N && yin F i 0 (.ofNat (ztg 7 Y p).2.2.1 - 1)) with
  | false => rw [c] at h; cases h
  | true =>
    rw [c] at h
    simp only [cond_true] at h
    simp only [Bool.and_eq_true, Nat.ble_eq] at c
    obtain ⟨b1, b2⟩ := yin_ok hF hi c.2
    simp only [Int.ofNat_eq_natCast] at b2
    split at h
    · rename_i a' ea
      cases c2 : Nat.beq a'.1 1 with
      | false => rw [c2] at h; cases h
      | true =>
        rw [c2] at h
        cases h
        have hp : p < N := by omega
        have hz : zd r i = some ((z.toNat : Nat) : Int) := by rw [hi]; congr 1; omega
        obtain ⟨v, v1, -⟩ := yva_ex (j := z.toNat) hT hp (by omega)
        have hv := yfi_ok hF hz hc (by rw [yvx_va hT hp]; exact v1) ea
        obtain ⟨x, rfl, hx⟩ := zvm_i hv c2
        exact ⟨z.toNat, x, by omega, v1, hx⟩
    · cases h
theorem yk9_n {E : mEnv} {r : List Int} {F : zF} {es : List yE} {Y : zT yC 7} {K : List (Nat × yK)} {N p : Nat} {i a : zV} {j : Nat} {m0 m : mMem} (hF : zFok r F) (hc : ych E r m0 es m) (hT : yTM Y K N m) (hi : zd r i = some (j : Int)) (h : yk9 F es Y N p i = some a) :
    ∃ x : Int32, yva m p j = some (.int x) ∧ zd r a = some x.toInt := by
  obtain ⟨k, x, e, h1, h2⟩ := yk9_ok hF hc hT hi h
  have : j = k := by omega
  subst this
  exact ⟨x, h1, h2⟩
def ycE (F : zF) (es : List yE) (Y : zT yC 7) (N : Nat) : Bool := match yk9 F es Y N 61 (zk 7) with
  | some a => es.any fun e => Nat.beq e.1 62 && yle 2 F e.2.1 (zk 200) && yle 2 F a e.2.1 && (match yk9 F es Y N 62 e.2.1 with
    | some b => yin F b (-1) (-1)
    | none => false)
  | none => false
theorem ycE_ok {E : mEnv} {r : List Int} {F : zF} {es : List yE} {Y : zT yC 7} {K : List (Nat × yK)} {N : Nat} {m0 m : mMem} (hF : zFok r F) (hc : ych E r m0 es m) (hT : yTM Y K N m) (h : ycE F es Y N = true) (v : zV) : yPH gh r m (1, 0, 0, v) := by
  unfold ycE at h
  split at h
  · rename_i a ea
    rw [List.any_eq_true] at h
    obtain ⟨e, he, h⟩ := h
    simp only [Bool.and_eq_true] at h
    obtain ⟨⟨⟨h1, h2⟩, h3⟩, h4⟩ := h
    split at h4
    · rename_i b eb
      obtain ⟨i, hi⟩ := ych_pl hc e he
      obtain ⟨x, x1, x2⟩ := yk9_n (j := 7) hF hc hT (zk_d hF 7) ea
      obtain ⟨y, y1, y2⟩ := yk9_n hF hc hT hi eb
      obtain ⟨b1, b2⟩ := yin_ok hF y2 h4
      have hle := yle_ok hF 2 x2 hi h3
      have h200 := yle_ok hF 2 hi (zk_d hF _) h2
      have ey : y = -1 := Int32.toInt_inj.mp (by rw [show (-1 : Int32).toInt = -1 from rfl]; omega)
      rw [ey] at y1
      exact ⟨x, i, x1, hle, by omega, y1⟩
    · cases h4
  · cases h
def ycP (F : zF) (es : List yE) (Y : zT yC 7) (N A : Nat) : Bool := match yk9 F es Y N A (zk 4), yk9 F es Y N A (zk 5) with
  | some a, some b => (yin F a 0 0 && yin F b 0 0) || (yge 2 F a 1 && yge 2 F b 1)
  | _, _ => false
theorem ycP_ok {E : mEnv} {r : List Int} {F : zF} {es : List yE} {Y : zT yC 7} {K : List (Nat × yK)} {N A : Nat} {m0 m : mMem} (hF : zFok r F) (hc : ych E r m0 es m) (hT : yTM Y K N m) (h : ycP F es Y N A = true) (v : zV) (b : Nat) : yPH gh r m (6, A, b, v) := by
  unfold ycP at h
  split at h
  · rename_i a b ea eb
    obtain ⟨x, x1, x2⟩ := yk9_n (j := 4) hF hc hT (zk_d hF 4) ea
    obtain ⟨y, y1, y2⟩ := yk9_n (j := 5) hF hc hT (zk_d hF 5) eb
    refine ⟨x, y, x1, y1, ?_⟩
    simp only [Bool.or_eq_true, Bool.and_eq_true] at h
    rcases h with ⟨h1, h2⟩ | ⟨h1, h2⟩
    · have g1 := yin_ok hF x2 h1
      have g2 := yin_ok hF y2 h2
      left
      omega
    · have g1 := yge_ok hF 2 x2 h1
      have g2 := yge_ok hF 2 y2 h2
      right
      omega
  · cases h
def ycC (F : zF) (P : yP) (A : Nat) : Bool := P.any fun t => Nat.beq t.1 7 && Nat.beq t.2.1 A && yge 2 F t.2.2.2 969 && P.any fun u => Nat.beq u.1 6 && Nat.beq u.2.1 t.2.2.1
theorem ycC_ok {r : List Int} {F : zF} {P : yP} {A : Nat} {m : mMem} (hF : zFok r F) (hP : ∀ t ∈ P, yPH gh r m t) (h : ycC F P A = true) (v : zV) (b : Nat) : yPH gh r m (6, A, b, v) := by
  unfold ycC at h
  simp only [List.any_eq_true, Bool.and_eq_true, zbe] at h
  obtain ⟨t, ht, ⟨⟨h1, h2⟩, h3⟩, u, hu, h4, h5⟩ := h
  have p1 := hP t ht
  have p2 := hP u hu
  unfold yPH at p1 p2
  rw [h1] at p1
  rw [h4] at p2
  obtain ⟨i, i1, i2⟩ := p1
  obtain ⟨x, y, x1, y1, hxy⟩ := p2
  have hi := yge_ok hF 2 i1 h3
  rw [h5] at x1 y1
  rw [h2] at i2
  exact ⟨x, y, by rw [i2 4 (by omega)]; exact x1, by rw [i2 5 (by omega)]; exact y1, hxy⟩
/-- two arrays are equal below: one place more -/
def ycK (F : zF) (es : List yE) (Y : zT yC 7) (N : Nat) (t : yQp) : Bool := Nat.beq t.1 7 && !(Nat.beq t.2.1 t.2.2.1) && (es.all fun e => Nat.beq e.2.2.2 0 || !(Nat.beq e.1 t.2.1 || Nat.beq e.1 t.2.2.1) || (Nat.beq e.1 t.2.1 && zve e.2.1 t.2.2.2)) &&
  (match yk9 F es Y N t.2.1 t.2.2.2, yk9 F es Y N t.2.2.1 t.2.2.2 with
  | some a, some b => zve a b
  | _, _ => false)
theorem ycK_ok {E : mEnv} {r : List Int} {F : zF} {es : List yE} {Y : zT yC 7} {K : List (Nat × yK)} {N : Nat} {t : yQp} {m0 m : mMem} (hF : zFok r F) (hc : ych E r m0 es m) (hT : yTM Y K N m) (hp : yPH gh r m0 t) (h : ycK F es Y N t = true) : yPH gh r m (7, t.2.1, t.2.2.1, zsh t.2.2.2 1) := by
  unfold ycK at h
  simp only [Bool.and_eq_true, Bool.not_eq_true'] at h
  obtain ⟨⟨⟨h1, h2⟩, h3⟩, h4⟩ := h
  unfold yPH at hp
  rw [zbe.mp h1] at hp
  obtain ⟨i, i1, i2⟩ := hp
  split at h4
  · rename_i a b ea eb
    obtain ⟨k, x, e1, x1, x2⟩ := yk9_ok hF hc hT i1 ea
    obtain ⟨k', y, e2, y1, y2⟩ := yk9_ok hF hc hT i1 eb
    have : k = k' := by omega
    subst this
    have exy : x = y := by
      rw [zve_d h4, y2] at x2
      exact Int32.toInt_inj.mp (by simpa using x2.symm)
    subst exy
    refine ⟨i + 1, zsh_d i1, fun j hj => ?_⟩
    by_cases hji : j = k
    · subst hji
      rw [x1, y1]
    · have hd : ∀ p, p = t.2.1 ∨ p = t.2.2.1 → yva m p j = yva m0 p j := by
        intro p hp
        refine ych_same hc fun e he h0 ep n hn hnj => ?_
        have := List.all_eq_true.mp h3 e he
        simp only [Bool.or_eq_true, Bool.and_eq_true, zbe, Bool.not_eq_true', Bool.or_eq_false_iff] at this
        rcases this with (g | ⟨g1, g2⟩) | ⟨g1, g2⟩
        · exact h0 g
        · rcases hp with hp | hp
          · exact nbe g1 (ep.trans hp)
          · exact nbe g2 (ep.trans hp)
        · rw [zve_d g2, i1] at hn
          have : i = (n : Int) := by simpa using hn
          omega
      rw [hd _ (Or.inl rfl), hd _ (Or.inr rfl)]
      exact i2 j (by omega)
  · cases h4
def ycR (F : zF) (es : List yE) (Y : zT yC 7) (N X : Nat) : Bool := es.all fun e => Nat.beq e.2.2.2 0 || !(Nat.beq e.1 X || Nat.beq e.1 (X + 1)) || (match yk9 F es Y N X e.2.1, yk9 F es Y N (X + 1) e.2.1 with
  | some o, some v => yge 2 F o 2 || yle 2 F o (zk 0) || yin F v 0 9
  | _, _ => false)
theorem ycR_ok {E : mEnv} {r : List Int} {F : zF} {es : List yE} {Y : zT yC 7} {K : List (Nat × yK)} {N X : Nat} {b : Nat} {v : zV} {m0 m : mMem} (hF : zFok r F) (hc : ych E r m0 es m) (hT : yTM Y K N m) (hp : yPH gh r m0 (2, X, b, v)) (h : ycR F es Y N X = true) : yPH gh r m (2, X, b, v) := by
  intro j x y hx hy h1
  dsimp only at hx hy
  by_cases hw : ∃ e ∈ es, e.2.2.2 ≠ 0 ∧ (e.1 = X ∨ e.1 = X + 1) ∧ zd r e.2.1 = some (j : Int)
  · obtain ⟨e, he, h0, hX, hj⟩ := hw
    have := List.all_eq_true.mp h e he
    simp only [Bool.or_eq_true, zbe, Bool.not_eq_true', Bool.or_eq_false_iff] at this
    rcases this with (g | ⟨g1, g2⟩) | g
    · exact absurd g h0
    · rcases hX with e1 | e1
      · exact absurd e1 (nbe g1)
      · exact absurd e1 (nbe g2)
    · split at g
      · rename_i o w eo ew
        obtain ⟨x', x1, x2⟩ := yk9_n hF hc hT hj eo
        obtain ⟨y', y1, y2⟩ := yk9_n hF hc hT hj ew
        rw [hx] at x1
        rw [hy] at y1
        cases x1
        cases y1
        simp only [Bool.or_eq_true] at g
        rcases g with (g | g) | g
        · have := yge_ok hF 2 x2 g; omega
        · have := yle_ok hF 2 x2 (zk_d hF _) g; omega
        · exact yin_ok hF y2 g
      · cases g
  · have same : ∀ p, p = X ∨ p = X + 1 → yva m p j = yva m0 p j := fun p hp => ych_same hc fun e he h0 ep n hn hnj => hw ⟨e, he, h0, by rw [ep]; exact hp, by rw [hn, hnj]⟩
    rw [same X (Or.inl rfl)] at hx
    rw [same (X + 1) (Or.inr rfl)] at hy
    exact hp j x y hx hy h1
def yhs (P : yP) (k a b : Nat) : Bool := P.any fun t => Nat.beq t.1 k && Nat.beq t.2.1 a && Nat.beq t.2.2.1 b
def ycD (P : yP) (X : Nat) : Bool := [4, 34, 67].any fun Z => yhs P 8 X Z && yhs P 8 (X + 1) (Z + 1) && P.any fun t => Nat.beq t.1 2 && Nat.beq t.2.1 Z
theorem ycD_ok {r : List Int} {P : yP} {X b : Nat} {v : zV} {m : mMem} (hP : ∀ t ∈ P, yPH gh r m t) (h : ycD P X = true) : yPH gh r m (2, X, b, v) := by
  unfold ycD yhs at h
  simp only [List.any_eq_true, Bool.and_eq_true, zbe] at h
  obtain ⟨Z, -, ⟨⟨t, ht, ⟨t1, t2⟩, t3⟩, u, hu, ⟨u1, u2⟩, u3⟩, w, hw, w1, w2⟩ := h
  have p1 := hP t ht
  have p2 := hP u hu
  have p3 := hP w hw
  unfold yPH at p1 p2 p3
  rw [t1] at p1
  rw [u1] at p2
  rw [w1] at p3
  simp only at p1 p2 p3
  intro j x y hx hy h1
  dsimp only at hx hy
  rw [t2, t3] at p1
  rw [u2, u3] at p2
  rw [w2] at p3
  rw [p1 j] at hx
  rw [p2 j] at hy
  exact p3 j x y hx hy h1
/-! the records of a WORK -/
def yrx (F : zF) (i : zV) : Option zV := match i.2.1 with
  | 0 => none
  | s + 1 => match yfc F (Nat.succ s) F.2.2.2 with
    | some (x, n) => bif zeq n 5 && zle 0 i.2.2 && zle i.2.2 4 then some x else none
    | none => none
theorem yrx_ok {r : List Int} {F : zF} {i x : zV} {z : Int} (hF : zFok r F) (hi : zd r i = some z) (h : yrx F i = some x) : ∃ u, zd r x = some u ∧ r[i.2.1]? = some (u * 5) ∧ z = u * 5 + i.2.2 ∧ 0 ≤ i.2.2 ∧ i.2.2 ≤ 4 := by
  unfold yrx at h
  split at h
  · cases h
  · rename_i s es
    split at h
    · rename_i x' n e
      cases c : (zeq n 5 && zle 0 i.2.2 && zle i.2.2 4) with
      | false => rw [c] at h; cases h
      | true =>
        rw [c] at h
        cases h
        simp only [Bool.and_eq_true, zeq_iff, zle_iff] at c
        obtain ⟨⟨c1, c2⟩, c3⟩ := c
        subst c1
        obtain ⟨u, u1, u2, -⟩ := yfc_ok hF hF.2.2.2.2 e
        obtain ⟨w, w1, rfl⟩ := zd_some.mp hi
        have u2' : r[i.2.1]? = some (u * 5) := by rw [es]; exact u2
        rw [u2'] at w1
        cases w1
        exact ⟨u, u1, u2', rfl, c2, c3⟩
    · cases h
def yrk (F : zF) (es : List yE) (Y : zT yC 7) (N : Nat) (s : Nat) : Bool := match yk9 F es Y N 71 (1, s, 0) with
  | some kd => yge 2 F kd 3 || (match yk9 F es Y N 71 (1, s, 1), yk9 F es Y N 71 (1, s, 2) with
    | some a, some b => yle 2 F a (zk 7) && yle 2 F b (zk 7)
    | _, _ => false)
  | none => false
theorem yrk_ok {E : mEnv} {r : List Int} {F : zF} {es : List yE} {Y : zT yC 7} {K : List (Nat × yK)} {N s k : Nat} {m0 m : mMem} (hF : zFok r F) (hc : ych E r m0 es m) (hT : yTM Y K N m) (hs : r[s]? = some ((k : Int) * 5)) (h : yrk F es Y N s = true) : yrec m k := by
  have dk : ∀ o : Nat, zd r (1, s, (o : Int)) = some ((5 * k + o : Nat) : Int) := fun o => zd_some.mpr ⟨_, hs, by dsimp only; omega⟩
  unfold yrk at h
  split at h
  · rename_i kd ek
    obtain ⟨x, x1, x2⟩ := yk9_n (j := 5 * k + 0) hF hc hT (dk 0) ek
    intro x' hx hle
    rw [Nat.add_zero, hx] at x1
    cases x1
    simp only [Bool.or_eq_true] at h
    rcases h with h | h
    · have := yge_ok hF 2 x2 h; omega
    · split at h
      · rename_i a b ea eb
        simp only [Bool.and_eq_true] at h
        obtain ⟨y, y1, y2⟩ := yk9_n (j := 5 * k + 1) hF hc hT (dk 1) ea
        obtain ⟨w, w1, w2⟩ := yk9_n (j := 5 * k + 2) hF hc hT (dk 2) eb
        refine ⟨fun y' hy => ?_, fun w' hw => ?_⟩
        · rw [hy] at y1
          cases y1
          exact yle_ok hF 2 y2 (zk_d hF _) h.1
        · rw [hw] at w1
          cases w1
          exact yle_ok hF 2 w2 (zk_d hF _) h.2
      · cases h
  · cases h
/-- a record that nothing was written into -/
theorem yrec_same {E : mEnv} {r : List Int} {F : zF} {es : List yE} {m0 m : mMem} {k : Nat} (hF : zFok r F) (hc : ych E r m0 es m) (hx : ∀ e ∈ es, e.2.2.2 ≠ 0 → e.1 = 71 → ∃ x, yrx F e.2.1 = some x ∧ zd r x ≠ some (k : Int)) (h : yrec m0 k) : yrec m k := by
  have same : ∀ o, o < 5 → yva m 71 (5 * k + o) = yva m0 71 (5 * k + o) := fun o ho => ych_same hc fun e he h0 ep i hi hij => by
    obtain ⟨x, e1, e2⟩ := hx e he h0 ep
    obtain ⟨u, u1, -, u3, u4, u5⟩ := yrx_ok hF hi e1
    apply e2
    rw [u1]
    congr 1
    omega
  intro x hx9 hle
  rw [show 5 * k = 5 * k + 0 from rfl, same 0 (by omega)] at hx9
  obtain ⟨h1, h2⟩ := h x hx9 hle
  exact ⟨fun y hy => h1 y (by rw [← same 1 (by omega)]; exact hy), fun y hy => h2 y (by rw [← same 2 (by omega)]; exact hy)⟩
def ywe (e : yE) : Bool := Nat.beq e.2.2.2 0 || !(Nat.beq e.1 71)
theorem ywe_no {e : yE} (h : ywe e = true) (h0 : e.2.2.2 ≠ 0) (h1 : e.1 = 71) : False := by
  unfold ywe at h
  simp only [Bool.or_eq_true, zbe, Bool.not_eq_true'] at h
  rcases h with h | h
  · exact h0 h
  · exact nbe h h1
def ycW (F : zF) (es : List yE) (Y : zT yC 7) (N : Nat) (x : Option zV) : Bool := es.all fun e => ywe e || (match yrx F e.2.1 with
  | some x' => yrk F es Y N e.2.1.2.1 || (match x with
    | some x => zve x' x
    | none => false)
  | none => false)
theorem ycW_ok {E : mEnv} {r : List Int} {F : zF} {es : List yE} {Y : zT yC 7} {K : List (Nat × yK)} {N : Nat} {x : Option zV} {m0 m : mMem} (hF : zFok r F) (hc : ych E r m0 es m) (hT : yTM Y K N m) (hp : ∀ k : Nat, k < 100 → (∀ y, x = some y → zd r y ≠ some (k : Int)) → yrec m0 k) (h : ycW F es Y N x = true) (k : Nat) (hk : k < 100) (hx : ∀ y, x = some y → zd r y ≠ some (k : Int)) : yrec m k := by
  by_cases hw : ∃ e ∈ es, e.2.2.2 ≠ 0 ∧ e.1 = 71 ∧ ∃ x', yrx F e.2.1 = some x' ∧ zd r x' = some (k : Int)
  · obtain ⟨e, he, h0, h1, x', e1, e2⟩ := hw
    have := List.all_eq_true.mp h e he
    simp only [Bool.or_eq_true] at this
    rcases this with g | g
    · exact (ywe_no g h0 h1).elim
    · rw [e1] at g
      simp only [Bool.or_eq_true] at g
      obtain ⟨i, hi⟩ := ych_pl hc e he
      obtain ⟨u, u1, u2, -⟩ := yrx_ok hF hi e1
      rw [e2] at u1
      cases u1
      rcases g with g | g
      · exact yrk_ok hF hc hT u2 g
      · split at g
        · rename_i y
          exact absurd (by rw [← zve_d g]; exact e2) (hx y rfl)
        · cases g
  · refine yrec_same hF hc (fun e he h0 h1 => ?_) (hp k hk hx)
    have := List.all_eq_true.mp h e he
    simp only [Bool.or_eq_true] at this
    rcases this with g | g
    · exact (ywe_no g h0 h1).elim
    · split at g
      · rename_i x' ex
        exact ⟨x', ex, fun hz => hw ⟨e, he, h0, h1, x', ex, hz⟩⟩
      · cases g
/-- the record that was left out is in order -/
def ycV (F : zF) (es : List yE) (Y : zT yC 7) (N : Nat) (x : zV) : Bool := match zml F.2.2.2 3 x (zk 5) with
  | some z => (match yfc F z F.2.2.2 with
    | some (x', n) => zeq n 5 && zve x' x && yrk F es Y N z
    | none => false)
  | none => false
theorem ycV_ok {E : mEnv} {r : List Int} {F : zF} {es : List yE} {Y : zT yC 7} {K : List (Nat × yK)} {N : Nat} {x : zV} {m0 m : mMem} (hF : zFok r F) (hc : ych E r m0 es m) (hT : yTM Y K N m) {i : Int} (hi : zd r x = some i) (hp : ∀ k : Nat, k < 100 → (k : Int) ≠ i → yrec m k) (h : ycV F es Y N x = true) : ∀ k, k < 100 → yrec m k := by
  intro k hk
  by_cases e : (k : Int) = i
  · unfold ycV at h
    split at h
    · rename_i z ez
      split at h
      · rename_i x' n ex
        simp only [Bool.and_eq_true, zeq_iff] at h
        obtain ⟨⟨h1, h2⟩, h3⟩ := h
        obtain ⟨u, u1, u2, -⟩ := yfc_ok hF hF.2.2.2.2 ex
        rw [zve_d h2, hi] at u1
        cases u1
        subst h1
        exact yrk_ok hF hc hT (by rw [e]; exact u2) h3
      · cases h
    · cases h
  · exact hp k hk e
end
