/-! what is SWAPPED, ordered, remembered stays below the SEGMENTS -/
section
variable {gh : yGh}
def yx7 (F : zF) (e : yE) : Bool := Nat.beq e.2.2.2 0 || !(Nat.beq e.1 75) || yle 2 F (zsh e.2.1 1) (zk 7) || yge 2 F e.2.1 8
/-- what stood at a place of the same kind -/
def yxc (F : zF) (p : Nat) (c : Option Int) (i v : zV) (es : List yE) : Bool := es.any fun e => Nat.beq e.1 p && zve e.2.2.1 v && Nat.beq e.2.2.1.1 1 && ((match c with
  | some d => yx0 (ycl9 F e.2.1) d
  | none => false) || (zve e.2.1 (zsh i (-4)) && yge 2 F e.2.1 713 && yle 2 F i (zk 968)))
/-- below the SEGMENTS, if these are known -/
def yxs (F : zF) (go : Option zV) (v : zV) : Bool := match go with
  | some g => yle 2 F (zsh v 1) g
  | none => false
theorem yxs_ok {r : List Int} {F : zF} {go : Option zV} {v : zV} {s x : Int} (hF : zFok r F) (hg : ∀ g, go = some g → zd r g = some s) (hx : zd r v = some x) (h : yxs F go v = true) : x + 1 ≤ s := by
  unfold yxs at h
  split at h
  · rename_i g
    exact yle_ok hF 2 (zsh_d hx) (hg g rfl) h
  · cases h
/-- a bit is turned -/
def yxx (F : zF) (p : Nat) (g : Option zV) (v : zV) (es : List yE) : Bool := zeq v.2.2 0 && F.2.2.2.any fun q => Nat.beq q.1 6 && Nat.beq q.2.2.2 v.2.1 && yge 2 F q.2.1 0 && (es.any fun e => Nat.beq e.1 p && zve e.2.2.1 q.2.1 && Nat.beq e.2.2.1.1 1 && yx0 (ycl9 F e.2.1) 2) && F.2.2.2.any fun w => Nat.beq w.1 7 && zve (1, w.2.2.2, 0) q.2.2.1 && zve w.2.1 (zk 1) && yge 2 F w.2.2.1 0 && yxs F g w.2.2.1
def yxw (F : zF) (p : Nat) (g : Option zV) (e : yE) (es : List yE) : Bool := yx0 (ycl9 F e.2.1) 0 || (Nat.beq e.2.2.1.1 1 && (zve e.2.2.1 (zk 0) || yxs F g e.2.2.1 || yxc F p (ycl9 F e.2.1) e.2.1 e.2.2.1 es || (yx0 (ycl9 F e.2.1) 2 && yxx F p g e.2.2.1 es)))
def yxk (F : zF) (p : Nat) (g : Option zV) : List yE → Bool
  | [] => true
  | e :: es => yxk F p g es && yx7 F e && (Nat.beq e.2.2.2 0 || !(Nat.beq e.1 p) || yxw F p g e es)
theorem y2p {s : Int} (h1 : 1 ≤ s) (h2 : s ≤ 8) : s < 2 ^ s.toNat := by
  have : s = 1 ∨ s = 2 ∨ s = 3 ∨ s = 4 ∨ s = 5 ∨ s = 6 ∨ s = 7 ∨ s = 8 := by omega
  rcases this with rfl | rfl | rfl | rfl | rfl | rfl | rfl | rfl <;> decide
theorem yshl1 {y : Int32} (h1 : 0 ≤ y.toInt) (h2 : y.toInt ≤ 7) : ((1 : Int32) <<< (y &&& 31)).toInt = ((2 ^ y.toInt.toNat : Nat) : Int) := by
  have : y.toInt = 0 ∨ y.toInt = 1 ∨ y.toInt = 2 ∨ y.toInt = 3 ∨ y.toInt = 4 ∨ y.toInt = 5 ∨ y.toInt = 6 ∨ y.toInt = 7 := by omega
  have key : ∀ k : Int, y.toInt = k → y = Int32.ofInt k := fun k e => by rw [← e, Int32.ofInt_toInt]
  rcases this with e | e | e | e | e | e | e | e <;> rw [key _ e] <;> decide
theorem yxor1 {x y : Int32} (hx : 0 ≤ x.toInt) (hy : 0 ≤ y.toInt) : (x ^^^ y).toInt = ((x.toInt.toNat ^^^ y.toInt.toNat : Nat) : Int) := by
  obtain ⟨e1, l1⟩ := yn0 hx
  obtain ⟨e2, l2⟩ := yn0 hy
  have e3 : (x ^^^ y).toBitVec.toNat = x.toBitVec.toNat ^^^ y.toBitVec.toNat := by rw [Int32.toBitVec_xor, BitVec.toNat_xor]
  have a1 : x.toBitVec.toNat ^^^ y.toBitVec.toNat < 2 ^ 31 := Nat.xor_lt_two_pow (by omega) (by omega)
  rw [yn1 (x := x ^^^ y) (by rw [e3]; omega), e3, show x.toInt.toNat = x.toBitVec.toNat from by omega, show y.toInt.toNat = y.toBitVec.toNat from by omega]
theorem yxor2 {a b s : Nat} (h1 : a < 2 ^ s) (h2 : b < s) : a ^^^ 2 ^ b < 2 ^ s := Nat.xor_lt_two_pow h1 (Nat.pow_lt_pow_right (by decide) h2)
theorem yx7_ok {E : mEnv} {r : List Int} {F : zF} {m0 m : mMem} {es : List yE} (hF : zFok r F) (hc : ych E r m0 es m) (h : ∀ e ∈ es, yx7 F e = true) : yva m 75 7 = yva m0 75 7 := by
  refine ych_same hc fun e he h0 e1 i hi => ?_
  have := h e he
  unfold yx7 at this
  simp only [Bool.or_eq_true, zbe, Bool.not_eq_true'] at this
  rcases this with ((g | g) | g) | g
  · exact absurd g h0
  · exact absurd e1 (nbe g)
  · have := yle_ok hF 2 (zsh_d hi) (zk_d hF _) g
    omega
  · have := yge_ok hF 2 hi g
    omega
theorem yxk_7 {F : zF} {p : Nat} {g : Option zV} : ∀ {es : List yE}, yxk F p g es = true → ∀ e ∈ es, yx7 F e = true
  | [], _, e, he => by cases he
  | e9 :: es, h, e, he => by
    unfold yxk at h
    simp only [Bool.and_eq_true] at h
    rcases List.mem_cons.mp he with rfl | he
    · exact h.1.2
    · exact yxk_7 h.1.1 e he
theorem yli_e {s : Int} {i j : Nat} {x : Int} (h : ylm i = ylm j) (hl : yli s j x) : yli s i x := by
  unfold yli at hl ⊢
  rw [h]
  exact hl
theorem yxk_ok {E : mEnv} {r : List Int} {F : zF} {p : Nat} {g : Option zV} {s : Int32} {m0 : mMem} (hF : zFok r F) (hp : p < 1000) (hg : ∀ g', g = some g' → zd r g' = some s.toInt) (hs1 : 1 ≤ s.toInt) (hs8 : s.toInt ≤ 8) (h0 : ∀ (j : Nat) (x : Int32), yva m0 p j = some (.int x) → yli s.toInt j x.toInt) :
    ∀ {es : List yE} {m : mMem}, ych E r m0 es m → yxk F p g es = true → (∀ (j : Nat) (x : Int32), yva m p j = some (.int x) → yli s.toInt j x.toInt) ∧ ∀ e ∈ es, e.1 = p → ∃ (i : Nat) (w : Value), zd r e.2.1 = some (i : Int) ∧ zvm r w e.2.2.1 ∧ ∀ x : Int32, w = .int x → yli s.toInt i x.toInt
  | [], m, hc, _ => ⟨fun j x hx => h0 j x (by rw [← show m = m0 from hc]; exact hx), fun e he => by cases he⟩
  | e :: es, m, hc, h => by
    obtain ⟨i, h1, h2⟩ := hc
    unfold yxk at h
    simp only [Bool.and_eq_true] at h
    obtain ⟨⟨k1, -⟩, k3⟩ := h
    split at h2
    · obtain ⟨g1, v, g2, g3⟩ := h2
      obtain ⟨q1, q2⟩ := yxk_ok hF hp hg hs1 hs8 h0 g1 k1
      refine ⟨q1, fun e' he' ep => ?_⟩
      rcases List.mem_cons.mp he' with rfl | he'
      · refine ⟨i, v, h1, g3, fun x ex => q1 i x ?_⟩
        unfold yvx at g2
        rw [ep, if_pos hp] at g2
        rw [g2, ex]
      · exact q2 e' he' ep
    · rename_i n0
      obtain ⟨m1, v, g1, g2, g3, g4⟩ := h2
      obtain ⟨q1, q2⟩ := yxk_ok hF hp hg hs1 hs8 h0 g1 k1
      have hv : e.1 = p → ∀ x : Int32, v = .int x → yli s.toInt i x.toInt := by
        intro ep x ex
        simp only [Bool.or_eq_true, zbe, Bool.not_eq_true'] at k3
        rcases k3 with (k3 | k3) | k3
        · exact absurd k3 n0
        · exact absurd ep (nbe k3)
        · unfold yxw at k3
          simp only [Bool.or_eq_true, Bool.and_eq_true] at k3
          rcases k3 with k3 | ⟨k4, k3⟩
          · have := ycl9_ok hF h1 (yx0_ok k3)
            exact ⟨fun z => by omega, fun z => by omega⟩
          · obtain ⟨x', ev, hx⟩ := zvm_i g2 k4
            rw [ex] at ev
            cases ev
            rcases k3 with ((k3 | k3) | k3) | ⟨k5, k3⟩
            · rw [zve_d k3, zk_d hF 0] at hx
              have e0 : x.toInt = 0 := by simpa using hx.symm
              have := y2p hs1 hs8
              exact ⟨fun _ => by omega, fun _ => by omega⟩
            · have := yxs_ok hF hg hx k3
              have := y2p hs1 hs8
              exact ⟨fun _ => by omega, fun _ => by omega⟩
            · unfold yxc at k3
              rw [List.any_eq_true] at k3
              obtain ⟨e', he', k3⟩ := k3
              simp only [Bool.and_eq_true, Bool.or_eq_true] at k3
              obtain ⟨⟨⟨a1, a2⟩, a3⟩, a4⟩ := k3
              obtain ⟨i', w, w1, w2, w3⟩ := q2 e' he' (zbe.mp a1)
              obtain ⟨y, rfl, hy⟩ := zvm_i w2 a3
              rw [zve_d a2, hx] at hy
              have exy : y = x := Int32.toInt_inj.mp (by simpa using hy.symm)
              subst exy
              have hl := w3 y rfl
              rcases a4 with a4 | ⟨⟨a4, a5⟩, a6⟩
              · split at a4
                · rename_i d ed
                  exact yli_e ((ycl9_ok hF h1 ed).trans (ycl9_ok hF w1 (yx0_ok a4)).symm) hl
                · cases a4
              · rw [zve_d a4, zsh_d (n := -4) h1] at w1
                have hi' : (i' : Int) = i + -4 := by simpa using w1.symm
                have w1' : zd r e'.2.1 = some (i' : Int) := by rw [zve_d a4, zsh_d (n := -4) h1, hi']
                have b1 := yge_ok hF 2 w1' a5
                have b2 := yle_ok hF 2 h1 (zk_d hF _) a6
                have : i = i' + 4 := by omega
                rw [this]
                exact yli_e (ylm_4 (by omega) (by omega)) hl
            · unfold yxx at k3
              simp only [Bool.and_eq_true, zeq_iff, List.any_eq_true] at k3
              obtain ⟨z0, q, hq, ⟨⟨⟨b1, b2⟩, b3⟩, e', he', ⟨⟨b4, b5⟩, b6⟩, b7⟩, w, hw, ⟨⟨⟨c1, c2⟩, c3⟩, c4⟩, c5⟩ := k3
              obtain ⟨xa, xb, xz, d1, d2, d3, d4⟩ := hF.2.2.2.2 q hq
              obtain ⟨ya, yb, yz, f1, f2, f3, f4⟩ := hF.2.2.2.2 w hw
              rw [zbe.mp b1] at d3
              rw [zbe.mp c1] at f3
              cases d3
              cases f3
              -- what is shifted is 1
              rw [zve_d c3, zk_d hF 1] at f1
              have hya : ya = 1 := Int32.toInt_inj.mp (by rw [show (1 : Int32).toInt = 1 from rfl]; simpa using f1.symm)
              subst hya
              have y0 := yge_ok hF 2 f2 c4
              have y1 := yxs_ok hF hg f2 c5
              have hsh := yshl1 y0 (by omega)
              -- the shifted is xb
              have hb : zd r (1, w.2.2.2, 0) = some ((1 : Int32) <<< (yb &&& 31)).toInt := zd_some.mpr ⟨_, f4, by simp⟩
              rw [zve_d c2, d2] at hb
              have exb : xb = (1 : Int32) <<< (yb &&& 31) := Int32.toInt_inj.mp (by simpa using hb)
              -- the turned is x
              have hz : zd r e.2.2.1 = some (xa ^^^ xb).toInt := zd_some.mpr ⟨_, by rw [← zbe.mp b2]; exact d4, by rw [z0]; simp⟩
              rw [hx] at hz
              have exz : x = xa ^^^ xb := Int32.toInt_inj.mp (by simpa using hz)
              have a0 := yge_ok hF 2 d1 b3
              obtain ⟨i', u, u1, u2, u3⟩ := q2 e' he' (zbe.mp b4)
              obtain ⟨y', rfl, hy'⟩ := zvm_i u2 b6
              rw [zve_d b5, d1] at hy'
              have ey' : y' = xa := Int32.toInt_inj.mp (by simpa using hy'.symm)
              subst ey'
              have hl := (u3 y' rfl).2 (ycl9_ok hF u1 (yx0_ok b7))
              have hxb : 0 ≤ xb.toInt := by rw [exb, hsh]; exact Int.natCast_nonneg _
              have hn : y'.toInt.toNat < 2 ^ s.toInt.toNat := by
                have : ((2 ^ s.toInt.toNat : Nat) : Int) = (2 : Int) ^ s.toInt.toNat := by simp
                omega
              have hlt := yxor2 hn (show yb.toInt.toNat < s.toInt.toNat by omega)
              have hc2 := ycl9_ok hF h1 (yx0_ok k5)
              refine ⟨fun z => by omega, fun _ => ?_⟩
              rw [exz, yxor1 a0 hxb, exb, hsh, Int.toNat_natCast]
              have : ((2 ^ s.toInt.toNat : Nat) : Int) = (2 : Int) ^ s.toInt.toNat := by simp
              omega
      refine ⟨fun j x hx => ?_, fun e' he' ep => ?_⟩
      · rw [g4 p j] at hx
        split at hx
        · rename_i hc9
          rw [hc9.2]
          exact hv hc9.1.symm x (Option.some.inj hx)
        · exact q1 j x hx
      · rcases List.mem_cons.mp he' with rfl | he'
        · exact ⟨i, v, h1, g2, hv ep⟩
        · exact q2 e' he' ep
def yxS (F : zF) (es : List yE) (Y : zT yC 7) (N X : Nat) : Bool := yxk F X (yk9 F es Y N 75 (zk 7)) es
theorem yxS_ok {E : mEnv} {r : List Int} {F : zF} {es : List yE} {Y : zT yC 7} {K : List (Nat × yK)} {N X b : Nat} {v : zV} {m0 m : mMem} (hF : zFok r F) (hc : ych E r m0 es m) (hT : yTM Y K N m) (hX : X < 1000) (hp : yPH gh r m0 (9, X, b, v)) (h : yxS F es Y N X = true) : yPH gh r m (9, X, b, v) := by
  obtain ⟨s, s1, s2, s3, s4⟩ := hp
  unfold yxS at h
  have h7 := yx7_ok hF hc (yxk_7 h)
  refine ⟨s, by rw [h7]; exact s1, s2, s3, (yxk_ok hF hX (fun g eg => ?_) s2 s3 s4 hc h).1⟩
  obtain ⟨x, x1, x2⟩ := yk9_n (j := 7) hF hc hT (zk_d hF 7) eg
  rw [h7, s1] at x1
  cases x1
  exact x2
def ycC9 (F : zF) (P : yP) (X : Nat) : Bool := P.any fun t => Nat.beq t.2.1 X && yge 2 F t.2.2.2 969 && (Nat.beq t.1 10 || (Nat.beq t.1 7 && P.any fun u => Nat.beq u.1 9 && Nat.beq u.2.1 t.2.2.1))
theorem ycC9_ok {r : List Int} {F : zF} {P : yP} {X b : Nat} {v : zV} {m : mMem} (hF : zFok r F) (hP : ∀ t ∈ P, yPH gh r m t) (h : ycC9 F P X = true) : yPH gh r m (9, X, b, v) := by
  unfold ycC9 at h
  simp only [List.any_eq_true, Bool.and_eq_true, Bool.or_eq_true, zbe] at h
  obtain ⟨t, ht, ⟨h1, h2⟩, h3⟩ := h
  have p1 := hP t ht
  unfold yPH at p1
  rcases h3 with h3 | ⟨h3, u, hu, h4, h5⟩
  · rw [h3] at p1
    obtain ⟨i, i1, ⟨s, s1, s2, s3⟩, i2⟩ := p1
    have hi := yge_ok hF 2 i1 h2
    refine ⟨s, s1, s2, s3, fun j x hx => ?_⟩
    by_cases hl : ylm j = 0
    · exact ⟨fun z => by omega, fun z => by omega⟩
    · have hj := ylm_rng hl
      dsimp only at hx
      rw [← h1, i2 j (by omega) (by omega)] at hx
      cases hx
      have := y2p s2 s3
      have e0 : (0 : Int32).toInt = 0 := rfl
      exact ⟨fun _ => by omega, fun _ => by omega⟩
  · rw [h3] at p1
    have p2 := hP u hu
    unfold yPH at p2
    rw [h4] at p2
    obtain ⟨i, i1, i2⟩ := p1
    obtain ⟨s, s1, s2, s3, s4⟩ := p2
    have hi := yge_ok hF 2 i1 h2
    refine ⟨s, s1, s2, s3, fun j x hx => ?_⟩
    by_cases hl : ylm j = 0
    · exact ⟨fun z => by omega, fun z => by omega⟩
    · have hj := ylm_rng hl
      dsimp only at hx
      rw [← h1, i2 j (by omega), ← h5] at hx
      exact s4 j x hx
/-- settings, out of a copy -/
def ycC18 (F : zF) (P : yP) (X : Nat) : Bool := P.any fun t => Nat.beq t.1 7 && Nat.beq t.2.1 X && yge 2 F t.2.2.2 969 && P.any fun u => Nat.beq u.1 18 && Nat.beq u.2.1 t.2.2.1
theorem ycC18_ok {r : List Int} {F : zF} {P : yP} {X b : Nat} {v : zV} {m : mMem} (hF : zFok r F) (hP : ∀ t ∈ P, yPH gh r m t) (h : ycC18 F P X = true) : yPH gh r m (18, X, b, v) := by
  unfold ycC18 at h
  simp only [List.any_eq_true, Bool.and_eq_true, zbe] at h
  obtain ⟨t, ht, ⟨⟨h3, h1⟩, h2⟩, u, hu, h4, h5⟩ := h
  have p1 := hP t ht
  unfold yPH at p1
  rw [h3] at p1
  have p2 := hP u hu
  unfold yPH at p2
  rw [h4] at p2
  obtain ⟨i, i1, i2⟩ := p1
  have hi := yge_ok hF 2 i1 h2
  intro k hk
  dsimp only
  rw [← h1, i2 (20 + k) (by omega), ← h5]
  exact p2 k hk
/-- pins, out of a copy -/
def ycC19 (F : zF) (P : yP) (X : Nat) : Bool := P.any fun t => Nat.beq t.1 7 && Nat.beq t.2.1 X && yge 2 F t.2.2.2 969 && P.any fun u => Nat.beq u.1 19 && Nat.beq u.2.1 t.2.2.1
theorem ycC19_ok {r : List Int} {F : zF} {P : yP} {X b : Nat} {v : zV} {m : mMem} (hF : zFok r F) (hP : ∀ t ∈ P, yPH gh r m t) (h : ycC19 F P X = true) : yPH gh r m (19, X, b, v) := by
  unfold ycC19 at h
  simp only [List.any_eq_true, Bool.and_eq_true, zbe] at h
  obtain ⟨t, ht, ⟨⟨h3, h1⟩, h2⟩, u, hu, h4, h5⟩ := h
  have p1 := hP t ht
  unfold yPH at p1
  rw [h3] at p1
  have p2 := hP u hu
  unfold yPH at p2
  rw [h4] at p2
  obtain ⟨i, i1, i2⟩ := p1
  have hi := yge_ok hF 2 i1 h2
  intro k hk
  dsimp only
  rw [← h1, i2 (85 + 7 * k) (by omega), ← h5]
  exact p2 k hk
/-- one place more is 0 -/
def ycL (F : zF) (es : List yE) (Y : zT yC 7) (N : Nat) (t : yQp) : Bool := Nat.beq t.1 10 && (es.all fun e => yx7 F e && (Nat.beq e.2.2.2 0 || !(Nat.beq e.1 t.2.1) || yle 2 F (zsh e.2.1 1) (zk 27) || zve e.2.1 t.2.2.2)) && (match yk9 F es Y N t.2.1 t.2.2.2 with
  | some a => yin F a 0 0
  | none => false)
theorem ycL_ok {E : mEnv} {r : List Int} {F : zF} {es : List yE} {Y : zT yC 7} {K : List (Nat × yK)} {N : Nat} {t : yQp} {m0 m : mMem} (hF : zFok r F) (hc : ych E r m0 es m) (hT : yTM Y K N m) (hp : yPH gh r m0 t) (h : ycL F es Y N t = true) : yPH gh r m (10, t.2.1, 0, zsh t.2.2.2 1) := by
  unfold ycL at h
  simp only [Bool.and_eq_true] at h
  obtain ⟨⟨h1, h2⟩, h3⟩ := h
  unfold yPH at hp
  rw [zbe.mp h1] at hp
  obtain ⟨i, i1, ⟨s, s1, s2, s3⟩, i2⟩ := hp
  have h7 := yx7_ok hF hc fun e he => by have := List.all_eq_true.mp h2 e he; simp only [Bool.and_eq_true] at this; exact this.1
  split at h3
  · rename_i a ea
    obtain ⟨k, x, e1, x1, x2⟩ := yk9_ok hF hc hT i1 ea
    have g := yin_ok hF x2 h3
    have ex : x = 0 := Int32.toInt_inj.mp (by rw [show (0 : Int32).toInt = 0 from rfl]; omega)
    subst ex
    refine ⟨i + 1, zsh_d i1, ⟨s, by rw [h7]; exact s1, s2, s3⟩, fun j h27 hj => ?_⟩
    by_cases hji : j = k
    · subst hji
      exact x1
    · dsimp only
      rw [ych_same hc (p := t.2.1) (j := j) fun e he h0 ep n hn hnj => ?_]
      · exact i2 j h27 (by omega)
      · have := List.all_eq_true.mp h2 e he
        simp only [Bool.and_eq_true, Bool.or_eq_true, zbe, Bool.not_eq_true'] at this
        rcases this.2 with ((g | g) | g) | g
        · exact h0 g
        · exact nbe g ep
        · have := yle_ok hF 2 (zsh_d hn) (zk_d hF _) g
          omega
        · rw [zve_d g, i1] at hn
          have : i = (n : Int) := by simpa using hn
          omega
  · cases h3
end
