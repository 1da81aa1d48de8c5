/-! A METHOD, by its cut points: the contract of it. -/
/-- a cut point: where; locals; symbols; facts; preds; where the symbols come from; a measure; 2 s_i ≤ s_j -/
abbrev yTp : Type := Nat × zL × zF × List yE × yP × List ySr × List (Bool × Nat × Int) × List (Nat × Nat)
theorem zld_mem {i : Nat} {a : zV} : ∀ {l : zL}, zld l i = some a → (i, a) ∈ l
  | [], h => by cases h
  | q :: l, h => by
    unfold zld at h
    cases c : Nat.beq q.1 i with
    | true =>
      rw [c] at h
      have e : q.2 = a := Option.some.inj h
      rw [← zbe.mp c, ← e]
      exact List.mem_cons_self
    | false =>
      rw [c] at h
      exact List.mem_cons_of_mem _ (zld_mem h)
def yln (r : List Int) (L : List (Nat × Nat)) : Prop := ∀ p ∈ L, ∃ u v, r[p.1]? = some u ∧ r[p.2]? = some v ∧ 2 * u ≤ v
def ylo (F : zF) (L : List (Nat × Nat)) (c a : zV) : Bool := (match zlh F c with
    | some p => yge 2 F a (2 * p.2)
    | none => false) || L.any fun q => (yle 2 F c (1, q.1, 0) && yle 2 F (1, q.2, 0) a) || (yle 2 F c (1, q.1, 1) && yle 2 F (1, q.2, 2) a) || (yle 2 F c (1, q.1, 2) && yle 2 F (1, q.2, 4) a)
theorem ylo_ok {r : List Int} {F : zF} {L : List (Nat × Nat)} {c a : zV} {x y : Int} (hF : zFok r F) (hL : yln r L) (hx : zd r c = some x) (hy : zd r a = some y) (h : ylo F L c a = true) : 2 * x ≤ y := by
  unfold ylo at h
  simp only [Bool.or_eq_true, List.any_eq_true, Bool.and_eq_true] at h
  rcases h with h | ⟨q, hq, h⟩
  · split at h
    · rename_i p ep
      have h1 := yge_ok hF 2 hy h
      have h2 := (zlh_ok (l := p.1) (h := p.2) hF ep hx).2
      omega
    · cases h
  · obtain ⟨u, v, u1, v1, uv⟩ := hL q hq
    have du : ∀ k, zd r (1, q.1, k) = some (u + k) := fun k => zd_some.mpr ⟨u, u1, rfl⟩
    have dv : ∀ k, zd r (1, q.2, k) = some (v + k) := fun k => zd_some.mpr ⟨v, v1, rfl⟩
    rcases h with (h | h) | h
    · have h1 := yle_ok hF 2 hx (du 0) h.1
      have h2 := yle_ok hF 2 (dv 0) hy h.2
      omega
    · have h1 := yle_ok hF 2 hx (du 1) h.1
      have h2 := yle_ok hF 2 (dv 2) hy h.2
      omega
    · have h1 := yle_ok hF 2 hx (du 2) h.1
      have h2 := yle_ok hF 2 (dv 4) hy h.2
      omega
/-! measures: lists of bounded numbers -/
def yfl : List Nat → Nat → Nat
  | [], a => a
  | c :: l, a => yfl l (a * 17179869184 + c)
theorem yfl_lt : ∀ {l l' : List Nat} {a b : Nat}, l.length = l'.length → (∀ c ∈ l, c < 17179869184) → a < b → yfl l a < yfl l' b
  | [], [], _, _, _, _, h => h
  | [], _ :: _, _, _, hl, _, _ => by cases hl
  | _ :: _, [], _, _, hl, _, _ => by cases hl
  | c :: l, c' :: l', a, b, hl, hc, h => by
    have h0 := hc c List.mem_cons_self
    show yfl l (a * 17179869184 + c) < yfl l' (b * 17179869184 + c')
    exact yfl_lt (by simpa using hl) (fun d hd => hc d (List.mem_cons_of_mem _ hd)) (by omega)
def ylx : List Nat → List Nat → Prop
  | c :: l, c' :: l' => c < c' ∨ (c ≤ c' ∧ ylx l l')
  | _, _ => False
theorem ylx_lt : ∀ {l l' : List Nat} {a : Nat}, l.length = l'.length → (∀ c ∈ l, c < 17179869184) → ylx l l' → yfl l a < yfl l' a
  | [], _, _, _, _, h => by cases h
  | _ :: _, [], _, _, _, h => by cases h
  | c :: l, c' :: l', a, hl, hc, h => by
    have hl' : l.length = l'.length := by simpa using hl
    have hc' : ∀ d ∈ l, d < 17179869184 := fun d hd => hc d (List.mem_cons_of_mem _ hd)
    show yfl l (a * 17179869184 + c) < yfl l' (a * 17179869184 + c')
    rcases h with h | ⟨h1, h2⟩
    · exact yfl_lt hl' hc' (by omega)
    · rcases Nat.lt_or_ge c c' with h | h
      · exact yfl_lt hl' hc' (by omega)
      · have : c = c' := by omega
        subst this
        exact ylx_lt hl' hc' h2
def yco (θ : List Int) (q : Bool × Nat × Int) : Nat := ((if q.1 then -(θ.getD q.2.1 0 + q.2.2) else θ.getD q.2.1 0 + q.2.2) + 8589934592).toNat
def ymu (θ : List Int) (m : List (Bool × Nat × Int)) : Nat := yfl (m.map (yco θ)) 0
/-- a measure's numbers are bounded -/
def ymb (T : yTp) : Bool := T.2.2.2.2.2.2.1.all fun q => Nat.ble (Nat.succ q.2.1) T.2.2.1.1 && yin T.2.2.1 (1, q.2.1, q.2.2) (-4294967296) 4294967296
/-- it falls: new ones by th, old ones as they stand -/
def yml (F : zF) (f : zV → zV) : List (Bool × Nat × Int) → List (Bool × Nat × Int) → Bool
  | p :: l, q :: l' => (p.1 == q.1) && (bif p.1 then yle 2 F (zsh (1, q.2.1, q.2.2) 1) (f (1, p.2.1, p.2.2)) || (yle 2 F (1, q.2.1, q.2.2) (f (1, p.2.1, p.2.2)) && yml F f l l')
      else yle 2 F (zsh (f (1, p.2.1, p.2.2)) 1) (1, q.2.1, q.2.2) || (yle 2 F (f (1, p.2.1, p.2.2)) (1, q.2.1, q.2.2) && yml F f l l'))
  | _, _ => false
theorem yml_ok {r θ θ0 : List Int} {F : zF} {f : zV → zV} (hF : zFok r F) : ∀ {l l' : List (Bool × Nat × Int)}, (∀ p ∈ l, ∃ x, θ[p.2.1]? = some x ∧ zd r (f (1, p.2.1, p.2.2)) = some (x + p.2.2) ∧ -4294967296 ≤ x + p.2.2 ∧ x + p.2.2 ≤ 4294967296) →
    (∀ q ∈ l', ∃ x, θ0[q.2.1]? = some x ∧ r[q.2.1]? = some x ∧ -4294967296 ≤ x + q.2.2 ∧ x + q.2.2 ≤ 4294967296) → yml F f l l' = true → ylx (l.map (yco θ)) (l'.map (yco θ0))
  | [], _, _, _, h => by cases h
  | _ :: _, [], _, _, h => by cases h
  | p :: l, q :: l', hp, hq, h => by
    obtain ⟨x, x1, x2, x3, x4⟩ := hp p List.mem_cons_self
    obtain ⟨y, y1, y2, y3, y4⟩ := hq q List.mem_cons_self
    have dq : zd r (1, q.2.1, q.2.2) = some (y + q.2.2) := zd_some.mpr ⟨y, y2, rfl⟩
    have ih := yml_ok hF (l := l) (l' := l') (fun a ha => hp a (List.mem_cons_of_mem _ ha)) (fun a ha => hq a (List.mem_cons_of_mem _ ha))
    have gx : θ.getD p.2.1 0 = x := by rw [List.getD_eq_getElem?_getD, x1]; rfl
    have gy : θ0.getD q.2.1 0 = y := by rw [List.getD_eq_getElem?_getD, y1]; rfl
    unfold yml at h
    simp only [Bool.and_eq_true, beq_iff_eq] at h
    obtain ⟨h1, h2⟩ := h
    show yco θ p < yco θ0 q ∨ (yco θ p ≤ yco θ0 q ∧ ylx _ _)
    unfold yco
    rw [gx, gy, ← h1]
    cases c : p.1 with
    | true =>
      rw [c] at h2
      simp only [cond_true, Bool.or_eq_true, Bool.and_eq_true] at h2
      simp only [if_true]
      rcases h2 with h2 | ⟨h2, h3⟩
      · left
        have := yle_ok hF 2 (zsh_d dq) x2 h2
        omega
      · right
        have := yle_ok hF 2 dq x2 h2
        exact ⟨by omega, ih h3⟩
    | false =>
      rw [c] at h2
      simp only [cond_false, Bool.or_eq_true, Bool.and_eq_true] at h2
      simp only [Bool.false_eq_true, if_false]
      rcases h2 with h2 | ⟨h2, h3⟩
      · left
        have := yle_ok hF 2 (zsh_d x2) dq h2
        omega
      · right
        have := yle_ok hF 2 x2 dq h2
        exact ⟨by omega, ih h3⟩
/-- an arrival fits a cut point -/
def yaf (F : zF) (ls : zL) (n : Nat) (th : List zV) (q : Nat × zV) : Bool := match zld ls q.1 with
  | some b => (Nat.beq q.2.1 1 && Nat.beq b.1 1 && Nat.ble (Nat.succ q.2.2.1) n && zve b (ymv 0 n th q.2)) || (Nat.beq q.2.1 2 && Nat.beq b.1 2 && Nat.beq b.2.1 q.2.2.1) || (Nat.beq q.2.1 4 && Nat.ble 3 b.1)
  | none => false
def ym9 (F : zF) (f : zV → zV) (m : List (Bool × Nat × Int)) : Option yTp → Bool
  | none => true
  | some T => Nat.beq m.length T.2.2.2.2.2.2.1.length && yml F f m T.2.2.2.2.2.2.1
def yax (Y : zT yC 7) (K : List (Nat × yK)) (N : Nat) (sy : ySyn) (np : Nat) (L0 : List (Nat × Nat)) (T0 : Option yTp) (s : yS) (T : yTp) : Bool :=
  Nat.beq s.1 T.1 && s.2.2.1.isEmpty && Nat.beq s.2.2.2.2.2.2 0 && (match ygm Y K N sy np s.2.1 (0, 0, 0) s.2.2.2.1 s.2.2.2.2.1 s.2.2.2.2.2.1 T.2.2.2.2.2.1 T.2.2.1 T.2.2.2.1 T.2.2.2.2.1 with
    | some (th, F1) => T.2.1.all (yaf F1 s.2.1 T.2.2.1.1 th) && (T.2.2.2.2.2.2.2.all fun q => Nat.ble (Nat.succ q.1) T.2.2.1.1 && Nat.ble (Nat.succ q.2) T.2.2.1.1 && ylo F1 L0 (ymv 0 T.2.2.1.1 th (1, q.1, 0)) (ymv 0 T.2.2.1.1 th (1, q.2, 0))) &&
        ym9 F1 (ymv 0 T.2.2.1.1 th) T.2.2.2.2.2.2.1 T0
    | none => false)
/-- an end fits one that is told -/
def yen (Y : zT yC 7) (K : List (Nat × yK)) (N : Nat) (sy : ySyn) (np : Nat) (o : yU) (w : yU × List ySr) : Bool :=
  Nat.beq o.1 w.1.1 && Nat.ble o.2.2.2.2.2 w.1.2.2.2.2.2 && (match ygm Y K N sy np [] (bif Nat.beq o.1 1 then o.2.1 else (0, 0, 0)) o.2.2.1 o.2.2.2.1 o.2.2.2.2.1 w.2 w.1.2.2.1 w.1.2.2.2.1 w.1.2.2.2.2.1 with
    | some (th, _) => (match o.1 with
      | 0 => true
      | 1 => (Nat.beq o.2.1.1 1 && Nat.beq w.1.2.1.1 1 && Nat.ble (Nat.succ w.1.2.1.2.1) w.1.2.2.1.1 && zve o.2.1 (ymv 0 w.1.2.2.1.1 th w.1.2.1)) || (Nat.ble 3 o.2.1.1 && Nat.beq w.1.2.1.1 4)
      | _ => Nat.beq o.2.1.2.1 w.1.2.1.2.1)
    | none => false)
/-- ends, cut points that are run on from, cut points that are left to others -/
def ygoX (Y : zT yC 7) (K : List (Nat × yK)) (N : Nat) (sy : ySyn) (np : Nat) (outs : List (yU × List ySr)) (cuts ex : List yTp) (L0 : List (Nat × Nat)) (T0 : Option yTp) : (yU ⊕ yS) → Bool
  | .inl o => outs.any (yen Y K N sy np o)
  | .inr s => cuts.any (yax Y K N sy np L0 T0 s) || ex.any (yax Y K N sy np L0 none s)
/-- all that is checked of a method: from its start -/
def yckS (E : mEnv) (ro : yQ) (Y : zT yC 7) (K : List (Nat × yK)) (N : Nat) (con : Nat → yCo) (hk : List (Nat × Nat) → yHk) (prm : yPm) (inl : Nat → List zV → zF → List yE → Bool) (sy : ySyn) (fuel d mi : Nat) (M : mMeth) (stop : Nat → Nat → Bool) (c : yKt) (outs : List (yU × List ySr)) (cuts ex : List yTp) : Bool :=
  match yrn E (ykF c).1 ro Y K N c.2.2.2.1 (con (ykF c).1) (hk []) prm inl fuel d stop mi M M.2.2.2.2.1 false 0 (zarg 0 (yka c.1 1)) [] (ykF c) (ykE c) c.2.2.1 0 with
    | some L => L.all (ygoX Y K N sy (ykF c).1 outs cuts ex [] none)
    | none => false
/-- from its cut points -/
def yckL (E : mEnv) (ro : yQ) (Y : zT yC 7) (K : List (Nat × yK)) (N : Nat) (con : Nat → yCo) (hk : List (Nat × Nat) → yHk) (prm : yPm) (inl : Nat → List zV → zF → List yE → Bool) (sy : ySyn) (fuel d mi : Nat) (M : mMeth) (stop : Nat → Nat → Bool) (c : yKt) (outs : List (yU × List ySr)) (cuts ex : List yTp) : Bool :=
  cuts.all fun T => ymb T && (match yrn E T.2.2.1.1 ro Y K N c.2.2.2.1 (con T.2.2.1.1) (hk T.2.2.2.2.2.2.2) prm inl fuel d stop mi M M.2.2.2.2.1 true T.1 T.2.1 [] T.2.2.1 T.2.2.2.1 T.2.2.2.2.1 0 with
    | some L => L.all (ygoX Y K N sy (ykF c).1 outs cuts ex T.2.2.2.2.2.2.2 (some T))
    | none => false)
def yck (E : mEnv) (ro : yQ) (Y : zT yC 7) (K : List (Nat × yK)) (N : Nat) (con : Nat → yCo) (hk : List (Nat × Nat) → yHk) (prm : yPm) (inl : Nat → List zV → zF → List yE → Bool) (sy : ySyn) (fuel d mi : Nat) (M : mMeth) (stop : Nat → Nat → Bool) (c : yKt) (outs : List (yU × List ySr)) (cuts : List yTp) : Bool :=
  yckS E ro Y K N con hk prm inl sy fuel d mi M stop c outs cuts [] && yckL E ro Y K N con hk prm inl sy fuel d mi M stop c outs cuts []
