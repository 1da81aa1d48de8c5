/-! FLUSHES ends: how many are SWAPPED falls in each round but the first -/
def yCOm : List (Nat × Nat × Nat) := [(77, 1, 2), (77, 4, 7), (77, 42, 74)]
/-- all that is SWAPPED is ordered: there is none, or one is at least -/
def yCO : yKq := (203, ([(2, 75, 0, 0)], [(77, 4, 1, 0, 0)], (16, 0, 0, (1, 0, 0)) :: yALW, yCOm, [(0, (0, 0, 0), (3, [(2, 0, 0)], [], []), [(77, (1, 0, 4), (1, 2, 0), 0)], (15, 0, 0, (1, 0, 0)) :: yALW, 0), (0, (0, 0, 0), (3, [(2, 1, 16)], [], []), [(77, (1, 0, 4), (1, 2, 0), 0)], (17, 0, 0, (1, 0, 0)) :: yALW, 0)], 2, 13), [], [])
theorem yfa_get {E : mEnv} {r : List Int} {m0 m : mMem} {p : Nat} {i v : zV} {es : List yE} {j : Nat} (hp : p < 1000) (hi : zd r i = some (j : Int)) (hc : ych E r m0 ((p, i, v, 0) :: es) m) (hv : v.1 = 1) : ∃ x : Int32, yva m p j = some (.int x) ∧ zd r v = some x.toInt := by
  obtain ⟨k, k1, k2, w, w1, w2⟩ := hc
  dsimp only at k1 w1 w2
  rw [hi] at k1
  have hjk : j = k := by
    have : (j : Int) = k := by simpa using k1
    omega
  subst hjk
  obtain ⟨x, rfl, hx⟩ := zvm_i w2 (zbe.mpr hv)
  unfold yvx at w1
  rw [if_pos hp] at w1
  exact ⟨x, w1, hx⟩
/-- what one run of a callee has brought, told of the memory alone -/
def ybas (gh : yGh) (θ : List Int) (mods : List (Nat × Nat × Nat)) (mem : mMem) (nc ns : Nat) (res : mRes) : Prop := yFr mods mem res.2.1 ∧ yTM yY yKk yNn res.2.1 ∧ (∀ t ∈ yALW, yPH gh θ res.2.1 t) ∧ res.2.2.1 ≤ nc ∧ res.2.2.2 ≤ ns ∧ res.1 = .inr none
theorem yCOm_fr {m m' : mMem} (h : yFr yCOm m m') {g : Nat} (hg : g < 8) : yva m' 77 (81 + 7 * g) = yva m 77 (81 + 7 * g) := by
  refine h _ _ ?_
  rintro ⟨q, hq, q1, q2, q3⟩
  unfold yCOm at hq
  simp only [List.mem_cons, List.not_mem_nil, or_false] at hq
  rcases hq with rfl | rfl | rfl <;> dsimp only at q2 q3 <;> omega
theorem yCOm_75 {m m' : mMem} (h : yFr yCOm m m') {j : Nat} : yva m' 75 j = yva m 75 j := by
  refine h _ _ ?_
  rintro ⟨q, hq, q1, q2, q3⟩
  unfold yCOm at hq
  simp only [List.mem_cons, List.not_mem_nil, or_false] at hq
  rcases hq with rfl | rfl | rfl <;> cases q1
theorem yCO_ok {f : Nat → Option (Nat × Nat × (Nat → Value))} (hf : yFf f) : yA f yKk yCO := by
  intro gh θ vs mem nc ns hQ hF hs hc hT hP
  have hlen : θ.length = 2 := hF.1
  have h0 : θ[0]? = some 0 := hF.2.1
  have hc1 : ych (yEx f) θ mem [(77, (1, 0, 4), (1, 1, 0), 0)] mem := hc
  obtain ⟨n0, n1, n2⟩ := yfa_get (j := 4) (by omega) (zd_some.mpr ⟨0, h0, rfl⟩) hc1 rfl
  have n3 : n0.toInt = 0 := by
    obtain ⟨v, v1, v2, v3⟩ := hF.2.2.1 (1, 0, 0) (List.mem_cons_self)
    obtain ⟨w, w1, w2⟩ := zd_some.mp n2
    dsimp only at v1 v2 v3 w1 w2
    rw [v1] at w1
    cases w1
    omega
  have alw : ∀ t ∈ yALW, yPH gh θ mem t := fun t ht => hP t (List.mem_cons_of_mem _ ht)
  have pre : ∀ q, q < 64 → ∀ b, ybt (ygq q) mem b → ∀ t ∈ (11, 0, b, (1, 0, 0)) :: yALW, yPH (ygq q) θ mem t := by
    intro q hq b hb t ht
    rcases List.mem_cons.mp ht with rfl | ht
    · refine ⟨by unfold ygq; omega, by unfold ygq; dsimp only; omega, hb, n0, n1, by omega, by omega, ?_⟩
      intro k hk
      omega
    · exact yPH_gs (by decide) alw t ht
  -- one that isn't SWAPPED
  have s0 : ∀ q, q < 64 → ybt (ygq q) mem 0 → ∃ n res, mrun (yEx f) n 13 203 0 (lv_args 0 vs) [] mem nc ns = some res ∧ ybas gh θ yCOm mem nc ns res ∧ ycb (ygq q) res.2.1 (-1) 0 0 := by
    intro q hq hb
    obtain ⟨n, res, run, fr, o, ho, θ', hx, ⟨a1, a2, a3, a4⟩, a5, a6, a7⟩ := yC345_ok hf (ygq q) θ vs mem nc ns hQ hF hs hc hT (pre q hq 0 hb)
    rcases List.mem_singleton.mp ho with rfl
    refine ⟨n, res, run, ⟨fr, a3, yPH_gs (by decide) (fun t ht => a4 t (List.mem_cons_of_mem _ ht)), a5, a6, a7⟩, ?_⟩
    exact a4 _ List.mem_cons_self
  have s1 : ∀ q, q < 64 → ybt (ygq q) mem 1 → ∃ n res, mrun (yEx f) n 13 203 0 (lv_args 0 vs) [] mem nc ns = some res ∧ ybas gh θ yCOm mem nc ns res ∧ (ycb (ygq q) res.2.1 (-1) 0 1 ∨ ycb (ygq q) res.2.1 (-1) 1 1) := by
    intro q hq hb
    obtain ⟨n, res, run, fr, o, ho, θ', hx, ⟨a1, a2, a3, a4⟩, a5, a6, a7⟩ := yC346_ok hf (ygq q) θ vs mem nc ns hQ hF hs hc hT (pre q hq 1 hb)
    rcases List.mem_cons.mp ho with rfl | ho
    · exact ⟨n, res, run, ⟨fr, a3, yPH_gs (by decide) (fun t ht => a4 t (List.mem_cons_of_mem _ ht)), a5, a6, a7⟩, Or.inl (a4 _ List.mem_cons_self)⟩
    · rcases List.mem_singleton.mp ho with rfl
      exact ⟨n, res, run, ⟨fr, a3, yPH_gs (by decide) (fun t ht => a4 t (List.mem_cons_of_mem _ ht)), a5, a6, a7⟩, Or.inr (a4 _ List.mem_cons_self)⟩
  have s2 : ∀ q, q < 64 → ybt (ygq q) mem 1 → yPH (ygq q) θ mem (13, 0, 0, (1, 0, 0)) → ∃ n res, mrun (yEx f) n 13 203 0 (lv_args 0 vs) [] mem nc ns = some res ∧ ∃ x : Int32, yva res.2.1 77 4 = some (.int x) ∧ 1 ≤ x.toInt := by
    intro q hq hb h13
    obtain ⟨n, res, run, fr, o, ho, θ', hx, ⟨a1, a2, a3, a4⟩, a5, a6, a7⟩ := yC347_ok hf (ygq q) θ vs mem nc ns hQ hF hs hc hT (fun t ht => by
      rcases List.mem_cons.mp ht with rfl | ht
      · exact pre q hq 1 hb _ List.mem_cons_self
      · rcases List.mem_cons.mp ht with rfl | ht
        · exact h13
        · exact pre q hq 1 hb _ (List.mem_cons_of_mem _ ht))
    have fin : ∀ F : zF, zFok θ' F → F.2.1 = [(2, 1, 16)] → ych (yEx f) θ' res.2.1 [(77, (1, 0, 4), (1, 2, 0), 0)] res.2.1 → ∃ x : Int32, yva res.2.1 77 4 = some (.int x) ∧ 1 ≤ x.toInt := by
      intro F hF9 eF hc9
      obtain ⟨x, x1, x2⟩ := yfa_get (j := 4) (by omega) (zd_some.mpr ⟨0, hF9.2.1, rfl⟩) hc9 rfl
      obtain ⟨v, v1, v2, v3⟩ := hF9.2.2.1 (2, 1, 16) (by rw [eF]; exact List.mem_cons_self)
      obtain ⟨w, w1, w2⟩ := zd_some.mp x2
      dsimp only at v1 v2 v3 w1 w2
      rw [v1] at w1
      cases w1
      exact ⟨x, x1, by omega⟩
    rcases List.mem_cons.mp ho with rfl | ho
    · exact ⟨n, res, run, fin _ a1 rfl a2⟩
    · rcases List.mem_singleton.mp ho with rfl
      exact ⟨n, res, run, fin _ a1 rfl a2⟩
  obtain ⟨n, res, run, base⟩ : ∃ n res, mrun (yEx f) n 13 203 0 (lv_args 0 vs) [] mem nc ns = some res ∧ ybas gh θ yCOm mem nc ns res := by
    rcases ybt_or hT (q := 0) (by omega) with h | h
    · obtain ⟨n, res, a, b, -⟩ := s0 0 (by omega) h
      exact ⟨n, res, a, b⟩
    · obtain ⟨n, res, a, b, -⟩ := s1 0 (by omega) h
      exact ⟨n, res, a, b⟩
  have t0 : ∀ q, q < 64 → ybt (ygq q) mem 0 → ycb (ygq q) res.2.1 (-1) 0 0 := fun q hq hb => by
    obtain ⟨n', res', a, -, c⟩ := s0 q hq hb
    rw [mrun_det run a]
    exact c
  have t1 : ∀ q, q < 64 → ybt (ygq q) mem 1 → (ycb (ygq q) res.2.1 (-1) 0 1 ∨ ycb (ygq q) res.2.1 (-1) 1 1) := fun q hq hb => by
    obtain ⟨n', res', a, -, c⟩ := s1 q hq hb
    rw [mrun_det run a]
    exact c
  obtain ⟨fr, hT', alw', b1, b2, b3⟩ := base
  obtain ⟨x, x1, x2, x3⟩ := y77n hT'
  have hsw : ∀ g, g < 8 → yva res.2.1 77 (81 + 7 * g) = yva mem 77 (81 + 7 * g) := fun g hg => yCOm_fr fr hg
  have hbt : ∀ q b, q < 64 → (ybt (ygq q) res.2.1 b ↔ ybt (ygq q) mem b) := fun q b hq => by
    unfold ybt ygq
    dsimp only
    rw [hsw _ (by omega)]
  have hx9 : zX θ (θ ++ [x.toInt]) := ⟨[x.toInt], rfl⟩
  have hg2 : (θ ++ [x.toInt])[2]? = some x.toInt := by rw [List.getElem?_append_right (by omega), hlen]; rfl
  have mkF : ∀ l h : Int, l ≤ x.toInt → x.toInt ≤ h → zFok (θ ++ [x.toInt]) (3, [(2, l, h)], [], []) := fun l h h1 h2 => by
    refine ⟨by rw [List.length_append, hlen]; rfl, hx9.get h0, fun e he => ?_, fun e he => (by cases he), fun e he => (by cases he)⟩
    rcases List.mem_singleton.mp he with rfl
    exact ⟨_, hg2, h1, h2⟩
  have mkc : ych (yEx f) (θ ++ [x.toInt]) res.2.1 [(77, (1, 0, 4), (1, 2, 0), 0)] res.2.1 := by
    refine ⟨4, zd_some.mpr ⟨0, hx9.get h0, rfl⟩, rfl, .int x, ?_, zvm_int rfl (zd_some.mpr ⟨_, hg2, by simp⟩)⟩
    unfold yvx
    rw [if_pos (show 77 < 1000 by omega)]
    exact x1
  refine ⟨n, res, run, fr, ?_⟩
  by_cases hn : x.toInt = 0
  · refine ⟨_, List.mem_cons_self, θ ++ [x.toInt], hx9, ⟨mkF 0 0 (by omega) (by omega), mkc, hT', fun t ht => ?_⟩, b1, b2, b3⟩
    rcases List.mem_cons.mp ht with rfl | ht
    · -- nothing is SWAPPED
      obtain ⟨G, G1, G2, G3⟩ := y75g hT'
      refine ⟨G, G1, fun g hg hgG z hz => ?_⟩
      obtain ⟨sg, e1, e2, e3, e4⟩ : ysw res.2.1 77 := alw' (9, 77, 0, (1, 0, 0)) (by simp [yALW])
      have hl := (e4 _ z hz).2 (ylm_21 (by omega) (by omega) (by omega))
      obtain ⟨z', z1, z2, z3⟩ := y77w hT' hg
      rw [z1] at hz
      cases hz
      by_cases hz0 : z.toInt = 0
      · exact hz0
      · exfalso
        obtain ⟨b, hb⟩ : ∃ b, z.toInt.toNat.testBit b = true := Nat.exists_testBit_of_ne_zero (by omega)
        have hlt : z.toInt.toNat < 2 ^ sg.toInt.toNat := by
          have : ((2 ^ sg.toInt.toNat : Nat) : Int) = (2 : Int) ^ sg.toInt.toNat := by simp
          omega
        have hbs : b < sg.toInt.toNat := by
          rcases Nat.lt_or_ge b sg.toInt.toNat with h | h
          · exact h
          · have h2 : z.toInt.toNat < 2 ^ b := Nat.lt_of_lt_of_le hlt (Nat.pow_le_pow_right (by omega) h)
            rw [Nat.testBit_lt_two_pow h2] at hb
            cases hb
        have hq : 8 * g + b < 64 := by omega
        have e8 : ygq (8 * g + b) = (g, b) := by unfold ygq; congr 1 <;> omega
        have hbit : ybt (ygq (8 * g + b)) mem 1 := (hbt _ 1 hq).mp ⟨z, by rw [e8]; exact z1, z2, by rw [e8]; exact hb⟩
        obtain ⟨n', res', a, y, y1, y2⟩ := s2 _ hq hbit ⟨G, sg, by rw [← yCOm_75 fr]; exact G1, by rw [← yCOm_75 fr]; exact e1, by rw [e8]; exact hgG, by rw [e8]; show (b : Int) < _; omega⟩
        rw [← mrun_det run a, x1] at y1
        cases y1
        omega
    · exact yPH_gs (by decide) alw' t ht
  · refine ⟨_, List.mem_cons_of_mem _ List.mem_cons_self, θ ++ [x.toInt], hx9, ⟨mkF 1 16 (by omega) (by omega), mkc, hT', fun t ht => ?_⟩, b1, b2, b3⟩
    rcases List.mem_cons.mp ht with rfl | ht
    · have hsc : ysc res.2.1 = ysc mem := by
        unfold ysc
        refine List.countP_congr fun q hq => ?_
        have := List.mem_range.mp hq
        unfold yswb
        rw [hsw _ (by omega)]
      have h16 : ysc mem + 0 ≤ gh.1 := hP _ List.mem_cons_self
      refine ⟨by omega, fun q hq hb => t0 q hq ((hbt q 0 hq).mp hb), ?_⟩
      obtain ⟨g, g1, g2, g3⟩ := y77g hT'
      obtain ⟨s, s1', s2', s3⟩ := y77s hT'
      have hq : 8 * g.toInt.toNat + s.toInt.toNat < 64 := by omega
      have e8 : ygq (8 * g.toInt.toNat + s.toInt.toNat) = (g.toInt.toNat, s.toInt.toNat) := by unfold ygq; congr 1 <;> omega
      have hit : yhit (ygq (8 * g.toInt.toNat + s.toInt.toNat)) res.2.1 0 := ⟨g, s, g1, s1', by rw [e8]; show g.toInt = (g.toInt.toNat : Int); omega, by rw [e8]; show s.toInt = (s.toInt.toNat : Int); omega⟩
      have no : ∀ b, ¬ ycb (ygq (8 * g.toInt.toNat + s.toInt.toNat)) res.2.1 (-1) 0 b := by
        rintro b ⟨-, -, -, n9, y1, y2, y3, y4⟩
        rw [x1] at y1
        cases y1
        exact y4 0 (by omega) (by omega) hit
      refine ⟨_, hq, ?_⟩
      rcases ybt_or hT hq with h | h
      · exact (no _ (t0 _ hq h)).elim
      · rcases t1 _ hq h with h | h
        · exact (no _ h).elim
        · exact h
    · exact yPH_gs (by decide) alw' t ht
/-- what is ordered runs out: one less is SWAPPED -/
def yCR : yKq := (207, ([(2, 75, 0, 0)], [], (17, 0, 0, (1, 0, 0)) :: yALW, [(77, 0, 3), (77, 4, 8), (77, 42, 57), (77, 58, 73), (77, 74, 76), (77, 80, 85), (77, 86, 92), (77, 93, 99), (77, 100, 106), (77, 107, 113), (77, 114, 120), (77, 121, 127), (77, 128, 134), (77, 135, 136), (77, 192, 712)], [(0, (0, 0, 0), (3, [(1, 0, 0), (2, 0, 0)], [], []), [(77, (1, 0, 5), (1, 2, 0), 0), (77, (1, 0, 4), (1, 1, 0), 0)], (16, 1, 0, (1, 0, 0)) :: yALW, 0)], 1, 14), [], [])
theorem yCR_ok {f : Nat → Option (Nat × Nat × (Nat → Value))} (hf : yFf f) : yA f yKk yCR := by
  intro gh θ vs mem nc ns hQ hF hs hc hT hP
  have alw : ∀ t ∈ yALW, yPH gh θ mem t := fun t ht => hP t (List.mem_cons_of_mem _ ht)
  obtain ⟨h1, h2, q0, hq0, h3⟩ : ysc mem ≤ gh.1 ∧ yone mem := hP _ List.mem_cons_self
  obtain ⟨n, res, run, fr, o, ho, θ', hx, ⟨a1, a2, a3, a4⟩, a5, a6, a7⟩ := yC343_ok hf (ygq q0) θ vs mem nc ns hQ hF hs hc hT (fun t ht => by
    rcases List.mem_cons.mp ht with rfl | ht
    · exact h3
    · exact yPH_gs (by decide) alw t ht)
  rcases List.mem_singleton.mp ho with rfl
  refine ⟨n, res, run, fr, _, List.mem_cons_self, θ', hx, ⟨a1, a2, a3, fun t ht => ?_⟩, a5, a6, a7⟩
  rcases List.mem_cons.mp ht with rfl | ht
  · have e0 : ycb (ygq q0) res.2.1 (-1) 0 0 := a4 _ List.mem_cons_self
    have t0 : ∀ q, q < 64 → ybt (ygq q) mem 0 → ybt (ygq q) res.2.1 0 := fun q hq hb => by
      obtain ⟨n', res', run', fr', o', ho', θ2, hx', ⟨c1, c2, c3, c4⟩, c5, c6, c7⟩ := yC342_ok hf (ygq q) θ vs mem nc ns hQ hF hs hc hT (fun t ht => by
        rcases List.mem_cons.mp ht with rfl | ht
        · exact h2 q hq hb
        · exact yPH_gs (by decide) alw t ht)
      rcases List.mem_singleton.mp ho' with rfl
      rw [mrun_det run run']
      have : ycb (ygq q) res'.2.1 (-1) 0 0 := c4 _ List.mem_cons_self
      exact this.2.2.1
    show ysc res.2.1 + 1 ≤ gh.1
    have := ysc_lt (m := mem) (m' := res.2.1) (fun q hq hb => by
      rcases ybt_or hT hq with h | h
      · rw [yswb_0 (t0 q hq h)] at hb; cases hb
      · exact yswb_1 h) hq0 (yswb_0 e0.2.2.1) (yswb_1 h3.2.2.1)
    omega
  · exact yPH_gs (by decide) (fun t ht => a4 t (List.mem_cons_of_mem _ ht)) t ht
/-- with no ORDER nothing happens -/
def yQR0 : List (yU × List ySr) := [((0, (0, 0, 0), (2, [], [], []), [], yALW, 0), [])]
def yCR0 : yKq := (207, ([(2, 75, 0, 0)], [(77, 4, 1, 0, 0)], yALW, [], [(0, (0, 0, 0), (2, [], [], []), [], yALW, 0)], 2, 14), [], [])
theorem yCR0_ok {f : Nat → Option (Nat × Nat × (Nat → Value))} (hf : yFf f) : yA f yKk yCR0 :=
  yckc_ok hf (T := []) (ht := [(207, 0, 6, 0, 0, [])]) (il := [185]) (stop := fun _ _ => false) (M := zm_207) (c := yCR0) (outs := yQR0) (cuts := []) (by decide +kernel) trivial rfl rfl rfl
