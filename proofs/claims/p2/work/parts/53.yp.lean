/-! WHAT HOLDS of the memory beside its types. -/
/-- a record of a WORK: where it asks for a group and a page, there are such -/
def yrec (m : mMem) (k : Nat) : Prop := ∀ x : Int32, yva m 71 (5 * k) = some (.int x) → x.toInt ≤ 2 → (∀ y : Int32, yva m 71 (5 * k + 1) = some (.int y) → y.toInt ≤ 7) ∧ ∀ y : Int32, yva m 71 (5 * k + 2) = some (.int y) → y.toInt ≤ 7
def yPH (r : List Int) (m : mMem) (t : yQp) : Prop := match t.1 with
  | 1 => ∃ (a : Int32) (e : Nat), yva m 61 7 = some (.int a) ∧ a.toInt ≤ e ∧ e ≤ 200 ∧ yva m 62 e = some (.int (-1))
  | 2 => ∀ (j : Nat) (x y : Int32), yva m t.2.1 j = some (.int x) → yva m (t.2.1 + 1) j = some (.int y) → x.toInt = 1 → 0 ≤ y.toInt ∧ y.toInt ≤ 9
  | 3 => ∀ k, k < 100 → yrec m k
  | 4 => ∃ i, zd r t.2.2.2 = some i ∧ ∀ k : Nat, k < 100 → (k : Int) ≠ i → yrec m k
  | 5 => ∃ c o : Int32, yva m 70 3 = some (.int c) ∧ yva m 70 4 = some (.int o) ∧ ∀ i : Nat, (i : Int) < o.toInt → ∃ x : Int32, yva m 72 i = some (.int x) ∧ 0 ≤ x.toInt ∧ x.toInt < c.toInt ∧ yva m 71 (5 * x.toInt.toNat) = some (.int 5)
  | 6 => ∃ x y : Int32, yva m t.2.1 4 = some (.int x) ∧ yva m t.2.1 5 = some (.int y) ∧ ((x.toInt = 0 ∧ y.toInt = 0) ∨ (1 ≤ x.toInt ∧ 1 ≤ y.toInt))
  | 7 => ∃ i, zd r t.2.2.2 = some i ∧ ∀ j : Nat, (j : Int) < i → yva m t.2.1 j = yva m t.2.2.1 j
  | 8 => ∀ j, yva m t.2.1 j = yva m t.2.2.1 j
  | _ => True
/-- the places that it speaks of -/
def yIn (t : yQp) (p j : Nat) : Prop := match t.1 with
  | 1 => (p = 61 ∧ j = 7) ∨ p = 62
  | 2 => p = t.2.1 ∨ p = t.2.1 + 1
  | 3 => p = 71
  | 4 => p = 71
  | 5 => (p = 70 ∧ (j = 3 ∨ j = 4)) ∨ p = 71 ∨ p = 72
  | 6 => p = t.2.1 ∧ (j = 4 ∨ j = 5)
  | 7 => p = t.2.1 ∨ p = t.2.2.1
  | 8 => p = t.2.1 ∨ p = t.2.2.1
  | _ => False
theorem yrec_ag {m m' : mMem} {k : Nat} (h : ∀ j, yva m' 71 j = yva m 71 j) (hr : yrec m k) : yrec m' k := fun x hx hle => by
  rw [h] at hx
  obtain ⟨h1, h2⟩ := hr x hx hle
  exact ⟨fun y hy => h1 y (by rw [← h]; exact hy), fun y hy => h2 y (by rw [← h]; exact hy)⟩
theorem yPH_ag {r : List Int} {m m' : mMem} {t : yQp} (h : ∀ p j, yIn t p j → yva m' p j = yva m p j) (hp : yPH r m t) : yPH r m' t := by
  unfold yPH at hp ⊢
  unfold yIn at h
  split at hp
  · rename_i e
    simp only [e] at h
    obtain ⟨a, b, h1, h2, h3, h4⟩ := hp
    exact ⟨a, b, by rw [h 61 7 (Or.inl ⟨rfl, rfl⟩)]; exact h1, h2, h3, by rw [h 62 b (Or.inr rfl)]; exact h4⟩
  · rename_i e
    simp only [e] at h
    intro j x y hx hy
    rw [h _ j (Or.inl rfl)] at hx
    rw [h _ j (Or.inr rfl)] at hy
    exact hp j x y hx hy
  · rename_i e
    simp only [e] at h
    exact fun k hk => yrec_ag (fun j => h 71 j rfl) (hp k hk)
  · rename_i e
    simp only [e] at h
    obtain ⟨i, h1, h2⟩ := hp
    exact ⟨i, h1, fun k hk hn => yrec_ag (fun j => h 71 j rfl) (h2 k hk hn)⟩
  · rename_i e
    simp only [e] at h
    obtain ⟨c, o, h1, h2, h3⟩ := hp
    refine ⟨c, o, by rw [h 70 3 (Or.inl ⟨rfl, Or.inl rfl⟩)]; exact h1, by rw [h 70 4 (Or.inl ⟨rfl, Or.inr rfl⟩)]; exact h2, fun i hi => ?_⟩
    obtain ⟨x, x1, x2, x3, x4⟩ := h3 i hi
    exact ⟨x, by rw [h 72 i (Or.inr (Or.inr rfl))]; exact x1, x2, x3, by rw [h 71 _ (Or.inr (Or.inl rfl))]; exact x4⟩
  · rename_i e
    simp only [e] at h
    obtain ⟨x, y, h1, h2, h3⟩ := hp
    exact ⟨x, y, by rw [h _ 4 ⟨rfl, Or.inl rfl⟩]; exact h1, by rw [h _ 5 ⟨rfl, Or.inr rfl⟩]; exact h2, h3⟩
  · rename_i e
    simp only [e] at h
    obtain ⟨i, h1, h2⟩ := hp
    exact ⟨i, h1, fun j hj => by rw [h _ j (Or.inl rfl), h _ j (Or.inr rfl)]; exact h2 j hj⟩
  · rename_i e
    simp only [e] at h
    exact fun j => by rw [h _ j (Or.inl rfl), h _ j (Or.inr rfl)]; exact hp j
  · trivial
theorem yPH_X {r r' : List Int} {m : mMem} {t : yQp} (hx : zX r r') (h : yPH r m t) : yPH r' m t := by
  unfold yPH at h ⊢
  split at h
  · exact h
  · exact h
  · exact h
  · obtain ⟨i, h1, h2⟩ := h; exact ⟨i, hx.den h1, h2⟩
  · exact h
  · exact h
  · obtain ⟨i, h1, h2⟩ := h; exact ⟨i, hx.den h1, h2⟩
  · exact h
  · trivial
theorem yPH_v {r r' : List Int} {m : mMem} {t u : yQp} (he : yqe t u = true) (hv : ∀ x, zd r u.2.2.2 = some x → zd r' t.2.2.2 = some x) (h : yPH r m u) : yPH r' m t := by
  unfold yqe at he
  simp only [Bool.and_eq_true, zbe] at he
  obtain ⟨⟨e1, e2⟩, e3⟩ := he
  unfold yPH at h ⊢
  rw [e1, e2, e3]
  split at h
  · exact h
  · exact h
  · exact h
  · obtain ⟨i, h1, h2⟩ := h; exact ⟨i, hv i h1, h2⟩
  · exact h
  · exact h
  · obtain ⟨i, h1, h2⟩ := h; exact ⟨i, hv i h1, h2⟩
  · exact h
  · trivial
theorem yPH_q {r r' : List Int} {m : mMem} {t u : yQp} (hc : ycq t = true) (he : yqe t u = true) (h : yPH r m u) : yPH r' m t := by
  unfold ycq at hc
  unfold yqe at he
  simp only [Bool.and_eq_true, zbe, Bool.not_eq_true'] at he hc
  obtain ⟨⟨e1, e2⟩, e3⟩ := he
  obtain ⟨c1, c2⟩ := hc
  unfold yPH at h ⊢
  rw [e1] at c1 c2
  rw [e1, e2, e3]
  split at h
  · exact h
  · exact h
  · exact h
  · rename_i e; rw [e] at c1; cases c1
  · exact h
  · exact h
  · rename_i e; rw [e] at c2; cases c2
  · exact h
  · trivial
/-- a stretch of places that it doesn't speak of -/
def yno (t : yQp) (q : Nat × Nat × Nat) : Bool := match t.1 with
  | 1 => !(Nat.beq q.1 62) && (!(Nat.beq q.1 61) || Nat.ble q.2.2 7 || Nat.ble 8 q.2.1)
  | 2 => !(Nat.beq q.1 t.2.1) && !(Nat.beq q.1 (t.2.1 + 1))
  | 3 => !(Nat.beq q.1 71)
  | 4 => !(Nat.beq q.1 71)
  | 5 => !(Nat.beq q.1 71) && !(Nat.beq q.1 72) && (!(Nat.beq q.1 70) || Nat.ble q.2.2 3 || Nat.ble 5 q.2.1)
  | 6 => !(Nat.beq q.1 t.2.1) || Nat.ble q.2.2 4 || Nat.ble 6 q.2.1
  | 7 => !(Nat.beq q.1 t.2.1) && !(Nat.beq q.1 t.2.2.1)
  | 8 => !(Nat.beq q.1 t.2.1) && !(Nat.beq q.1 t.2.2.1)
  | _ => true
theorem nbe {a b : Nat} (h : Nat.beq a b = false) : a ≠ b := fun e => by rw [zbe.mpr e] at h; cases h
theorem yno_ok {t : yQp} {q : Nat × Nat × Nat} {p j : Nat} (h : yno t q = true) (hp : q.1 = p) (h1 : q.2.1 ≤ j) (h2 : j < q.2.2) : ¬ yIn t p j := by
  subst hp
  unfold yno at h
  unfold yIn
  split at h
  · simp only [Bool.and_eq_true, Bool.or_eq_true, Bool.not_eq_true', Nat.ble_eq] at h
    obtain ⟨a, b⟩ := h
    have := nbe a
    rintro (⟨e1, e2⟩ | e)
    · rcases b with (b | b) | b
      · exact nbe b e1
      · omega
      · omega
    · exact this e
  · simp only [Bool.and_eq_true, Bool.not_eq_true'] at h
    rintro (e | e)
    · exact nbe h.1 e
    · exact nbe h.2 e
  · simp only [Bool.not_eq_true'] at h
    exact fun e => nbe h e
  · simp only [Bool.not_eq_true'] at h
    exact fun e => nbe h e
  · simp only [Bool.and_eq_true, Bool.or_eq_true, Bool.not_eq_true', Nat.ble_eq] at h
    obtain ⟨⟨a, b⟩, c⟩ := h
    rintro (⟨e1, e2⟩ | e | e)
    · rcases c with (c | c) | c
      · exact nbe c e1
      · omega
      · omega
    · exact nbe a e
    · exact nbe b e
  · simp only [Bool.or_eq_true, Bool.not_eq_true', Nat.ble_eq] at h
    rintro ⟨e1, e2⟩
    rcases h with (h | h) | h
    · exact nbe h e1
    · omega
    · omega
  · simp only [Bool.and_eq_true, Bool.not_eq_true'] at h
    rintro (e | e)
    · exact nbe h.1 e
    · exact nbe h.2 e
  · simp only [Bool.and_eq_true, Bool.not_eq_true'] at h
    rintro (e | e)
    · exact nbe h.1 e
    · exact nbe h.2 e
  · exact fun e => e
def yfd (t : yQp) (mods : List (Nat × Nat × Nat)) : Bool := mods.all (yno t)
theorem yfd_ok {r : List Int} {m m' : mMem} {t : yQp} {mods : List (Nat × Nat × Nat)} (h : yfd t mods = true) (hf : yFr mods m m') (hp : yPH r m t) : yPH r m' t := by
  refine yPH_ag (fun p j hi => hf p j ?_) hp
  rintro ⟨q, hq, q1, q2, q3⟩
  exact yno_ok (List.all_eq_true.mp h q hq) q1 q2 q3 hi
/-! the sync: facts of the memory as it is -/
theorem ych_same {E : mEnv} {r : List Int} {m0 : mMem} {p j : Nat} : ∀ {es : List yE} {m : mMem}, ych E r m0 es m → (∀ e ∈ es, e.2.2.2 ≠ 0 → e.1 = p → ∀ i : Nat, zd r e.2.1 = some (i : Int) → i ≠ j) → yva m p j = yva m0 p j
  | [], _, h, _ => by rw [show _ = _ from h]
  | e :: es, m, h, hn => by
    obtain ⟨i, h1, h2⟩ := h
    have hn' : ∀ e ∈ es, e.2.2.2 ≠ 0 → e.1 = p → ∀ i : Nat, zd r e.2.1 = some (i : Int) → i ≠ j := fun e he => hn e (List.mem_cons_of_mem _ he)
    split at h2
    · exact ych_same h2.1 hn'
    · rename_i n0
      obtain ⟨m1, v, g1, g2, g3, g4⟩ := h2
      rw [g4 p j, if_neg, ych_same g1 hn']
      rintro ⟨e1, e2⟩
      exact hn e List.mem_cons_self n0 e1.symm i h1 e2.symm
def yfa (F : zF) : List yE → List yE → List yE
  | [], _ => []
  | e :: es, ws => bif ws.all fun w => !(Nat.beq w.1 e.1) || Nat.beq (yal F w.2.1 e.2.1) 1 then
      (e.1, e.2.1, e.2.2.1, 0) :: (bif Nat.beq e.2.2.2 0 then yfa F es ws else yfa F es (e :: ws))
    else (bif Nat.beq e.2.2.2 0 then yfa F es ws else yfa F es (e :: ws))
theorem yfa_ok {E : mEnv} {r : List Int} {F : zF} {m0 m : mMem} (hF : zFok r F) : ∀ {es ws : List yE} {m1 : mMem}, ych E r m0 es m1 → (∀ w ∈ ws, ∃ k : Nat, zd r w.2.1 = some (k : Int)) → (∀ p j : Nat, (∀ w ∈ ws, w.1 = p → zd r w.2.1 ≠ some (j : Int)) → yvx E m p j = yvx E m1 p j) → yFa E r m (yfa F es ws)
  | [], _, _, _, _, _ => fun e he => by cases he
  | e :: es, ws, m1, hc, hw, hd => by
    obtain ⟨i, h1, h2⟩ := hc
    have tail : yFa E r m (bif Nat.beq e.2.2.2 0 then yfa F es ws else yfa F es (e :: ws)) := by
      cases c : Nat.beq e.2.2.2 0 with
      | true =>
        rw [zbe.mp c] at h2
        exact yfa_ok hF h2.1 hw hd
      | false =>
        have n0 := nbe c
        split at h2
        · rename_i e0; exact absurd e0 n0
        · obtain ⟨m2, v, g1, g2, g3, g4⟩ := h2
          refine yfa_ok hF g1 (fun w hw9 => ?_) (fun p j hn => ?_)
          · rcases List.mem_cons.mp hw9 with rfl | hw9
            · exact ⟨i, h1⟩
            · exact hw w hw9
          · rw [hd p j (fun w hw9 => hn w (List.mem_cons_of_mem _ hw9)), yvx_wr g3 g4, if_neg]
            rintro ⟨e1, e2⟩
            exact hn e List.mem_cons_self e1.symm (by rw [h1, e2])
    unfold yfa
    cases c : (ws.all fun w => !(Nat.beq w.1 e.1) || Nat.beq (yal F w.2.1 e.2.1) 1) with
    | false => exact tail
    | true =>
      simp only [cond_true]
      intro e9 he9
      rcases List.mem_cons.mp he9 with rfl | he9
      · have hno : ∀ w ∈ ws, w.1 = e.1 → zd r w.2.1 ≠ some (i : Int) := by
          intro w hw9 e1 e2
          have := List.all_eq_true.mp c w hw9
          simp only [Bool.or_eq_true, Bool.not_eq_true'] at this
          rcases this with h | h
          · exact nbe h e1
          · exact (yal_ok hF e2 h1).2 (zbe.mp h) rfl
        have hval : ∃ v, yvx E m1 e.1 i = some v ∧ zvm r v e.2.2.1 := by
          split at h2
          · exact h2.2
          · obtain ⟨m2, v, g1, g2, g3, g4⟩ := h2
            exact ⟨v, by rw [yvx_wr g3 g4, if_pos ⟨rfl, rfl⟩], g2⟩
        obtain ⟨v, v1, v2⟩ := hval
        exact ⟨rfl, i, v, h1, by rw [hd _ _ hno]; exact v1, v2⟩
      · exact tail e9 he9
/-- what was written doesn't touch it -/
def yut (F : zF) (t : yQp) (e : yE) : Bool := Nat.beq e.2.2.2 0 || (match t.1 with
  | 1 => !(Nat.beq e.1 62) && (!(Nat.beq e.1 61) || yle 2 F (zsh e.2.1 1) (zk 7) || yge 2 F e.2.1 8)
  | 2 => !(Nat.beq e.1 t.2.1) && !(Nat.beq e.1 (t.2.1 + 1))
  | 3 => !(Nat.beq e.1 71)
  | 4 => !(Nat.beq e.1 71)
  | 5 => !(Nat.beq e.1 71) && !(Nat.beq e.1 72) && (!(Nat.beq e.1 70) || yle 2 F (zsh e.2.1 1) (zk 3) || yge 2 F e.2.1 5)
  | 6 => !(Nat.beq e.1 t.2.1) || yle 2 F (zsh e.2.1 1) (zk 4) || yge 2 F e.2.1 6
  | 7 => !(Nat.beq e.1 t.2.1) && !(Nat.beq e.1 t.2.2.1)
  | 8 => !(Nat.beq e.1 t.2.1) && !(Nat.beq e.1 t.2.2.1)
  | _ => true)
theorem yut_ok {r : List Int} {F : zF} {t : yQp} {e : yE} {i : Nat} (hF : zFok r F) (hi : zd r e.2.1 = some (i : Int)) (h : yut F t e = true) (h0 : e.2.2.2 ≠ 0) : ¬ yIn t e.1 i := by
  unfold yut at h
  simp only [Bool.or_eq_true, zbe] at h
  rcases h with h | h
  · exact absurd h h0
  · unfold yIn
    have lo : ∀ c, yle 2 F (zsh e.2.1 1) (zk c) = true → (i : Int) + 1 ≤ c := fun c h => yle_ok hF 2 (zsh_d hi) (zk_d hF _) h
    have hi9 : ∀ c, yge 2 F e.2.1 c = true → c ≤ (i : Int) := fun c h => yge_ok hF 2 hi h
    split at h
    · simp only [Bool.and_eq_true, Bool.or_eq_true, Bool.not_eq_true'] at h
      obtain ⟨a, b⟩ := h
      rintro (⟨e1, e2⟩ | e9)
      · rcases b with (b | b) | b
        · exact nbe b e1
        · have := lo _ b; omega
        · have := hi9 _ b; omega
      · exact nbe a e9
    · simp only [Bool.and_eq_true, Bool.not_eq_true'] at h
      rintro (e9 | e9)
      · exact nbe h.1 e9
      · exact nbe h.2 e9
    · simp only [Bool.not_eq_true'] at h
      exact fun e9 => nbe h e9
    · simp only [Bool.not_eq_true'] at h
      exact fun e9 => nbe h e9
    · simp only [Bool.and_eq_true, Bool.or_eq_true, Bool.not_eq_true'] at h
      obtain ⟨⟨a, b⟩, c⟩ := h
      rintro (⟨e1, e2⟩ | e9 | e9)
      · rcases c with (c | c) | c
        · exact nbe c e1
        · have := lo _ c; omega
        · have := hi9 _ c; omega
      · exact nbe a e9
      · exact nbe b e9
    · simp only [Bool.or_eq_true, Bool.not_eq_true'] at h
      rintro ⟨e1, e2⟩
      rcases h with (h | h) | h
      · exact nbe h e1
      · have := lo _ h; omega
      · have := hi9 _ h; omega
    · simp only [Bool.and_eq_true, Bool.not_eq_true'] at h
      rintro (e9 | e9)
      · exact nbe h.1 e9
      · exact nbe h.2 e9
    · simp only [Bool.and_eq_true, Bool.not_eq_true'] at h
      rintro (e9 | e9)
      · exact nbe h.1 e9
      · exact nbe h.2 e9
    · exact fun e9 => e9
theorem yut_all {E : mEnv} {r : List Int} {F : zF} {m0 m : mMem} {es : List yE} {t : yQp} (hF : zFok r F) (hc : ych E r m0 es m) (h : es.all (yut F t) = true) (hp : yPH r m0 t) : yPH r m t := by
  refine yPH_ag (fun p j hi => ych_same hc fun e he h0 ep i hz hij => ?_) hp
  subst ep
  subst hij
  exact yut_ok hF hz (List.all_eq_true.mp h e he) h0 hi
