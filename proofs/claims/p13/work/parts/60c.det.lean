/-! a method's check with exits, and what is the same of two runs -/
theorem yckL_env {f : Nat → Option (Nat × Nat × (Nat → Value))} {ro : yQ} {Y : zT yC 7} {K : List (Nat × yK)} {N : Nat} {con : Nat → yCo} {hk : List (Nat × Nat) → yHk} {prm : yPm} {inl : Nat → List zV → zF → List yE → Bool} {sy : ySyn} {fuel d mi : Nat} {M : mMeth} {stop : Nat → Nat → Bool} {c : yKt} {outs : List (yU × List ySr)} {cuts ex : List yTp}
    (h : yckL yE0 ro Y K N con hk prm inl sy fuel d mi M stop c outs cuts ex = true) : yckL (yEx f) ro Y K N con hk prm inl sy fuel d mi M stop c outs cuts ex = true := by
  unfold yckL at h ⊢
  unfold yE0 at h
  unfold yEx
  have e : ∀ k0 mods con9 hk9, yrn (zmt, zft_, f, zxn) k0 ro Y K N mods con9 hk9 prm inl fuel = yrn (zmt, zft_, fun _ => none, zxn) k0 ro Y K N mods con9 hk9 prm inl fuel := fun k0 mods con9 hk9 => yrn_env fuel
  simp only [e]
  exact h
theorem yckS_env {f : Nat → Option (Nat × Nat × (Nat → Value))} {ro : yQ} {Y : zT yC 7} {K : List (Nat × yK)} {N : Nat} {con : Nat → yCo} {hk : List (Nat × Nat) → yHk} {prm : yPm} {inl : Nat → List zV → zF → List yE → Bool} {sy : ySyn} {fuel d mi : Nat} {M : mMeth} {stop : Nat → Nat → Bool} {c : yKt} {outs : List (yU × List ySr)} {cuts ex : List yTp}
    (h : yckS yE0 ro Y K N con hk prm inl sy fuel d mi M stop c outs cuts ex = true) : yckS (yEx f) ro Y K N con hk prm inl sy fuel d mi M stop c outs cuts ex = true := by
  unfold yckS at h ⊢
  unfold yE0 at h
  unfold yEx
  have e : ∀ k0 mods con9 hk9, yrn (zmt, zft_, f, zxn) k0 ro Y K N mods con9 hk9 prm inl fuel = yrn (zmt, zft_, fun _ => none, zxn) k0 ro Y K N mods con9 hk9 prm inl fuel := fun k0 mods con9 hk9 => yrn_env fuel
  simp only [e]
  exact h
def yckcS (K : List (Nat × yK)) (T : List yKq) (ht : List (Nat × Nat × yHt)) (il : List Nat) (stop : Nat → Nat → Bool) (M : mMeth) (c : yKq) (outs : List (yU × List ySr)) (cuts ex : List yTp) : Bool :=
  yckS yE0 yroT yY K yNn (fun k0 => yktc k0 yY K yNn c.2.1.2.2.2.1 T) (yhk yY K yNn (yht ht) c.2.2.2) (yprm yroT yY K yNn c.2.1.2.2.2.1) (yin9 il 172 55) (ysy yY yNn) 100000 c.2.1.2.2.2.2.2.2 c.1 M stop c.2.1 outs cuts ex
def yckcL (K : List (Nat × yK)) (T : List yKq) (ht : List (Nat × Nat × yHt)) (il : List Nat) (stop : Nat → Nat → Bool) (M : mMeth) (c : yKq) (outs : List (yU × List ySr)) (cuts ex : List yTp) : Bool :=
  yckL yE0 yroT yY K yNn (fun k0 => yktc k0 yY K yNn c.2.1.2.2.2.1 T) (yhk yY K yNn (yht ht) c.2.2.2) (yprm yroT yY K yNn c.2.1.2.2.2.1) (yin9 il 172 55) (ysy yY yNn) 100000 c.2.1.2.2.2.2.2.2 c.1 M stop c.2.1 outs cuts ex
theorem yckcX_ok {f : Nat → Option (Nat × Nat × (Nat → Value))} (hf : yFf f) {K : List (Nat × yK)} {T : List yKq} {ht : List (Nat × Nat × yHt)} {il : List Nat} {stop : Nat → Nat → Bool} {M : mMeth} {c : yKq} {outs : List (yU × List ySr)} {cuts ex : List yTp} (gh : yGh)
    (hT : yAl9 f K T) (hM : zmt c.1 = some M) (hnz : znz (yka c.2.1.1 1) = true) (houts : c.2.1.2.2.2.2.1 = outs.map (·.1)) (h2 : yckcL K T ht il stop M c outs cuts ex = true)
    {θ0 : List Int} {vs : List Value} {mem : mMem} {nc ns : Nat} (hQ : yQd c.2.2.2 θ0) (hF0 : zFok θ0 (ykF c.2.1))
    (hX : ∀ T ∈ ex, ∀ θ ls mem' nc' ns', yAt (yEx f) yY K yNn (yPH gh) c.2.1 θ0 mem nc ns T θ ls mem' nc' ns' → mGd (yEx f) (yPf (yEx f) yY K yNn (yPH gh) c.2.1 θ0 mem nc ns) c.2.1.2.2.2.2.2.2 c.1 T.1 ls [] mem' nc' ns') :
    (∀ T ∈ cuts, ∀ θ ls mem' nc' ns', yAt (yEx f) yY K yNn (yPH gh) c.2.1 θ0 mem nc ns T θ ls mem' nc' ns' → mGd (yEx f) (yPf (yEx f) yY K yNn (yPH gh) c.2.1 θ0 mem nc ns) c.2.1.2.2.2.2.2.2 c.1 T.1 ls [] mem' nc' ns') ∧
    (yckcS K T ht il stop M c outs cuts ex = true → zlm θ0 vs (yka c.2.1.1 1) → ych (yEx f) θ0 mem (ykE c.2.1) mem → yTM yY K yNn mem → (∀ t ∈ c.2.1.2.2.1, yPH gh θ0 mem t) → mGd (yEx f) (yPf (yEx f) yY K yNn (yPH gh) c.2.1 θ0 mem nc ns) c.2.1.2.2.2.2.2.2 c.1 0 (lv_args 0 vs) [] mem nc ns) := by
  have h9 := yckX_ok (E := yEx f) (mem := mem) (nc := nc) (ns := ns) (vs := vs) (ex := ex) (θ0 := θ0) (PH := yPH gh) (kx := 0) (RI := fun r => r[0]? = some 0 ∧ yQd c.2.2.2 r) (fun r r' m t hx hp => yPH_X hx hp) (fun r r' m t u h1 h2 h3 => yPH_q h1 h2 h3) (fun r r' m t u h1 h2 h3 => yPH_v h1 h2 h3) ysy_ok (fun r hr => hf r hr.1) (fun r r' hx hr => ⟨hx.get hr.1, hr.2.ex hx⟩)
    (fun k0 => yktc_ok fun q hq => ⟨yQd q.2.2.2, by rw [Nat.zero_add]; exact yAl9_ok hT q hq gh, fun r r1 θ F1 th _ _ hF1 hg hθ => yge2_ok hF1 (by simp only [Bool.and_eq_true] at hg; exact hg.2) hθ⟩)
    (fun L => yhk_ok (fun r hr => hr.2) L) (yprm_ok (fun r hr => hf r hr.1) _) (fun mi M hM => zmt_sr9 hM) hM hnz houts (yckL_env h2) ⟨hF0.2.1, hQ⟩ hF0
    (fun T hT θ ls mem' nc' ns' ha => by rw [Nat.zero_add]; exact hX T hT θ ls mem' nc' ns' ha)
  rw [Nat.zero_add] at h9
  exact ⟨h9.1, fun h => h9.2 (yckS_env h)⟩
theorem mrun_det {E : mEnv} {n1 n2 d mi pc : Nat} {ls : mLs} {st : List Value} {mem : mMem} {nc ns : Nat} {r1 r2 : mRes} (h1 : mrun E n1 d mi pc ls st mem nc ns = some r1) (h2 : mrun E n2 d mi pc ls st mem nc ns = some r2) : r1 = r2 := by
  have a := mrun_mono E n1 n2 d mi pc ls st mem nc ns r1 h1
  have b := mrun_mono E n2 n1 d mi pc ls st mem nc ns r2 h2
  rw [Nat.add_comm] at b
  rw [a] at b
  exact Option.some.inj b
/-- preds that speak of the memory alone -/
def ygfr (t : yQp) : Bool := Nat.beq t.1 1 || Nat.beq t.1 2 || Nat.beq t.1 3 || Nat.beq t.1 5 || Nat.beq t.1 6 || Nat.beq t.1 8 || Nat.beq t.1 9 || Nat.beq t.1 18 || Nat.beq t.1 19
theorem yPH_g {gh gh' : yGh} {r r' : List Int} {m : mMem} {t : yQp} (h : ygfr t = true) (hp : yPH gh r m t) : yPH gh' r' m t := by
  obtain ⟨k, a, b, v⟩ := t
  unfold ygfr at h
  simp only [Bool.or_eq_true, zbe] at h
  rcases h with (((((((h | h) | h) | h) | h) | h) | h) | h) | h <;> subst h <;> exact hp
theorem yPH_gs {gh gh' : yGh} {r r' : List Int} {m : mMem} {P : yP} (h : P.all ygfr = true) (hp : ∀ t ∈ P, yPH gh r m t) : ∀ t ∈ P, yPH gh' r' m t := fun t ht => yPH_g (List.all_eq_true.mp h t ht) (hp t ht)
/-! what the types say of some places -/
theorem yty {m : mMem} (hT : yTM yY yKk yNn m) {p j : Nat} {l h : Int} (hp : p < yNn) (hj : j < (ztg 7 yY p).2.2.1) (hq : zba (ykk yKk (ztg 7 yY p).2.2.2).1 j = some (1, l, h)) : ∃ x : Int32, yva m p j = some (.int x) ∧ l ≤ x.toInt ∧ x.toInt ≤ h := by
  obtain ⟨v, v1, ⟨q, q1, q2⟩, -⟩ := yva_ex hT hp hj
  rw [hq] at q1
  cases q1
  obtain ⟨x, rfl, x1, x2⟩ := q2
  exact ⟨x, v1, x1, x2⟩
theorem yty7 {m : mMem} (hT : yTM yY yKk yNn m) {p j : Nat} {l h : Int} (hp : p < yNn) (hj : j < (ztg 7 yY p).2.2.1) (hq : yrs j (ykk yKk (ztg 7 yY p).2.2.2).2 = some (l, h)) : ∃ x : Int32, yva m p j = some (.int x) ∧ l ≤ x.toInt ∧ x.toInt ≤ h := by
  obtain ⟨v, v1, -, v2⟩ := yva_ex hT hp hj
  obtain ⟨x, rfl, x1, x2⟩ := v2 _ hq
  exact ⟨x, v1, x1, x2⟩
theorem y77n {m : mMem} (hT : yTM yY yKk yNn m) : ∃ x : Int32, yva m 77 4 = some (.int x) ∧ 0 ≤ x.toInt ∧ x.toInt ≤ 16 := yty hT (by decide +kernel) (by decide +kernel) (by decide +kernel)
theorem y77g {m : mMem} (hT : yTM yY yKk yNn m) : ∃ x : Int32, yva m 77 42 = some (.int x) ∧ 0 ≤ x.toInt ∧ x.toInt ≤ 7 := yty hT (by decide +kernel) (by decide +kernel) (by decide +kernel)
theorem y77s {m : mMem} (hT : yTM yY yKk yNn m) : ∃ x : Int32, yva m 77 58 = some (.int x) ∧ 0 ≤ x.toInt ∧ x.toInt ≤ 7 := yty hT (by decide +kernel) (by decide +kernel) (by decide +kernel)
theorem y75g {m : mMem} (hT : yTM yY yKk yNn m) : ∃ x : Int32, yva m 75 5 = some (.int x) ∧ 1 ≤ x.toInt ∧ x.toInt ≤ 8 := yty hT (by decide +kernel) (by decide +kernel) (by decide +kernel)
theorem y77w {m : mMem} (hT : yTM yY yKk yNn m) {g : Nat} (hg : g < 8) : ∃ x : Int32, yva m 77 (81 + 7 * g) = some (.int x) ∧ 0 ≤ x.toInt ∧ x.toInt ≤ 255 := by
  have : g = 0 ∨ g = 1 ∨ g = 2 ∨ g = 3 ∨ g = 4 ∨ g = 5 ∨ g = 6 ∨ g = 7 := by omega
  rcases this with rfl | rfl | rfl | rfl | rfl | rfl | rfl | rfl <;> exact yty7 hT (by decide +kernel) (by decide +kernel) (by decide +kernel)
theorem ybt_or {m : mMem} (hT : yTM yY yKk yNn m) {q : Nat} (hq : q < 64) : ybt (ygq q) m 0 ∨ ybt (ygq q) m 1 := by
  obtain ⟨x, x1, x2, -⟩ := y77w hT (g := q / 8) (by omega)
  cases h : x.toInt.toNat.testBit (q % 8) with
  | false => exact Or.inl ⟨x, x1, x2, h⟩
  | true => exact Or.inr ⟨x, x1, x2, h⟩
theorem yswb_0 {m : mMem} {q : Nat} (h : ybt (ygq q) m 0) : yswb m q = false := by
  obtain ⟨x, x1, x2, x3⟩ := h
  unfold yswb
  rw [show yva m 77 (81 + 7 * (q / 8)) = some (.int x) from x1]
  exact x3
theorem yswb_1 {m : mMem} {q : Nat} (h : ybt (ygq q) m 1) : yswb m q = true := by
  obtain ⟨x, x1, x2, x3⟩ := h
  unfold yswb
  rw [show yva m 77 (81 + 7 * (q / 8)) = some (.int x) from x1]
  exact x3
theorem ycp_le {p q : Nat → Bool} : ∀ {l : List Nat}, (∀ a ∈ l, p a = true → q a = true) → l.countP p ≤ l.countP q
  | [], _ => Nat.le_refl _
  | a :: l, h => by
    have ih := ycp_le (l := l) (fun b hb => h b (List.mem_cons_of_mem _ hb))
    have ha := h a List.mem_cons_self
    rw [List.countP_cons, List.countP_cons]
    cases hp : p a with
    | false =>
      simp only [Bool.false_eq_true, if_false]
      omega
    | true =>
      rw [ha hp]
      simp only [if_true]
      omega
theorem ycp_lt {p q : Nat → Bool} : ∀ {l : List Nat}, (∀ a ∈ l, p a = true → q a = true) → (∃ a ∈ l, p a = false ∧ q a = true) → l.countP p < l.countP q
  | [], _, ⟨a, ha, _⟩ => by cases ha
  | a :: l, h, ⟨b, hb, b1, b2⟩ => by
    have ha := h a List.mem_cons_self
    have hl := fun c hc => h c (List.mem_cons_of_mem a hc)
    rw [List.countP_cons, List.countP_cons]
    rcases List.mem_cons.mp hb with rfl | hb
    · have ih := ycp_le hl
      rw [b1, b2]
      simp only [Bool.false_eq_true, if_false, if_true]
      omega
    · have ih := ycp_lt hl ⟨b, hb, b1, b2⟩
      cases hp : p a with
      | false =>
        simp only [Bool.false_eq_true, if_false]
        omega
      | true =>
        rw [ha hp]
        simp only [if_true]
        omega
theorem ysc_lt {m m' : mMem} (h : ∀ q, q < 64 → yswb m' q = true → yswb m q = true) {q : Nat} (hq : q < 64) (h1 : yswb m' q = false) (h2 : yswb m q = true) : ysc m' + 1 ≤ ysc m :=
  ycp_lt (fun a ha => h a (List.mem_range.mp ha)) ⟨q, List.mem_range.mpr hq, h1, h2⟩
theorem ysc_64 (m : mMem) : ysc m ≤ 64 := by
  have := List.countP_le_length (p := yswb m) (l := List.range 64)
  rw [List.length_range] at this
  exact this
