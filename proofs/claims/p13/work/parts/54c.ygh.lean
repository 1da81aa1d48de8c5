/-! the ghost's ORDER, and whether it is SWAPPED -/
section
variable {gh : yGh}
/-- an int that stood at a place at the last sync -/
def ye1 (F : zF) (p : Nat) (i : zV) : List yE → Option zV
  | [] => none
  | e :: es => match ye1 F p i es with
    | some a => some a
    | none => bif Nat.beq e.1 p && Nat.beq e.2.2.2 0 && (es.all fun w => Nat.beq w.2.2.2 0 || !(Nat.beq w.1 p) || Nat.beq (yal F i w.2.1) 1) && Nat.beq (yal F i e.2.1) 0 && Nat.beq e.2.2.1.1 1 then some e.2.2.1 else none
theorem ye1_ok {E : mEnv} {r : List Int} {F : zF} {p j : Nat} {i : zV} {m0 : mMem} (hF : zFok r F) (hp : p < 1000) (hi : zd r i = some (j : Int)) : ∀ {es : List yE} {m : mMem} {a : zV}, ych E r m0 es m → ye1 F p i es = some a → ∃ x : Int32, yva m0 p j = some (.int x) ∧ zd r a = some x.toInt
  | [], _, _, _, h => by cases h
  | e :: es, m, a, hc, h => by
    obtain ⟨k, h1, h2⟩ := hc
    have tl : ∃ m1, ych E r m0 es m1 := by
      split at h2
      · exact ⟨m, h2.1⟩
      · obtain ⟨m1, v, g1, -⟩ := h2
        exact ⟨m1, g1⟩
    unfold ye1 at h
    split at h
    · rename_i a' e'
      cases h
      obtain ⟨m1, g⟩ := tl
      exact ye1_ok hF hp hi g e'
    · cases c : (Nat.beq e.1 p && Nat.beq e.2.2.2 0 && (es.all fun w => Nat.beq w.2.2.2 0 || !(Nat.beq w.1 p) || Nat.beq (yal F i w.2.1) 1) && Nat.beq (yal F i e.2.1) 0 && Nat.beq e.2.2.1.1 1) with
      | false => rw [c] at h; cases h
      | true =>
        rw [c] at h
        cases h
        simp only [Bool.and_eq_true, zbe] at c
        obtain ⟨⟨⟨⟨c1, c2⟩, c3⟩, c4⟩, c5⟩ := c
        rw [c2] at h2
        obtain ⟨g1, v, g2, g3⟩ := h2
        have hjk := (yal_ok hF hi h1).1 c4
        have : j = k := by omega
        subst this
        obtain ⟨x, rfl, hx⟩ := zvm_i g3 (zbe.mpr c5)
        have hs : yva m p j = yva m0 p j := ych_same g1 fun e' he' h0 ep n hn hnj => by
          have := List.all_eq_true.mp c3 e' he'
          simp only [Bool.or_eq_true, zbe, Bool.not_eq_true'] at this
          rcases this with (g | g) | g
          · exact h0 g
          · exact nbe g ep
          · exact (yal_ok hF hi hn).2 g (by omega)
        refine ⟨x, ?_, hx⟩
        rw [← hs]
        unfold yvx at g2
        rw [c1, if_pos hp] at g2
        exact g2
/-- the writes that count -/
def yrel (F : zF) (es : List yE) : List yE := es.filter fun e => !(Nat.beq e.2.2.2 0) && Nat.beq e.1 77 && !(yfr9 F e.2.1)
theorem yrel_same {E : mEnv} {r : List Int} {F : zF} {m0 m : mMem} {es : List yE} {j : Nat} (hF : zFok r F) (hc : ych E r m0 es m) (hj : yro9 j) (h : ∀ e ∈ yrel F es, zd r e.2.1 ≠ some (j : Int)) : yva m 77 j = yva m0 77 j := by
  refine ych_same hc fun e he h0 ep n hn hnj => ?_
  subst hnj
  cases c : yfr9 F e.2.1 with
  | true => exact yfr9_ok hF hn c hj
  | false =>
    refine h e (List.mem_filter.mpr ⟨he, ?_⟩) hn
    simp only [c, Bool.and_eq_true, Bool.not_eq_true', Bool.not_false, and_true]
    refine ⟨?_, zbe.mpr ep⟩
    rw [← Bool.not_eq_true, zbe]
    exact h0
def yg14 (P : yP) (k : Nat) (v : zV) : Bool := P.any fun t => Nat.beq t.1 14 && Nat.beq t.2.1 k && zve t.2.2.2 v
theorem yg14_ok {r : List Int} {P : yP} {k : Nat} {v : zV} {m : mMem} {x : Int} (hP : ∀ t ∈ P, yPH gh r m t) (h : yg14 P k v = true) (hx : zd r v = some x) : ygc gh k x := by
  unfold yg14 at h
  simp only [List.any_eq_true, Bool.and_eq_true, zbe] at h
  obtain ⟨t, ht, ⟨h1, h2⟩, h3⟩ := h
  have p := hP t ht
  unfold yPH at p
  rw [h1] at p
  obtain ⟨y, y1, y2⟩ := p
  rw [zve_d h3, hx] at y1
  cases y1
  rw [← h2]
  exact y2
def ygne (P : yP) (g s : zV) : Bool := yg14 P 0 g || yg14 P 2 g || yg14 P 3 s || yg14 P 5 s
def ygeq (P : yP) (g s : zV) : Bool := yg14 P 1 g && yg14 P 4 s
theorem ygne_ok {r : List Int} {P : yP} {g s : zV} {m : mMem} {x y : Int} (hP : ∀ t ∈ P, yPH gh r m t) (h : ygne P g s = true) (hx : zd r g = some x) (hy : zd r s = some y) : ¬ (x = (gh.1 : Int) ∧ y = (gh.2 : Int)) := by
  unfold ygne at h
  simp only [Bool.or_eq_true] at h
  rcases h with ((h | h) | h) | h
  · have := yg14_ok hP h hx; unfold ygc at this; simp only at this; omega
  · have := yg14_ok hP h hx; unfold ygc at this; simp only at this; omega
  · have := yg14_ok hP h hy; unfold ygc at this; simp only at this; omega
  · have := yg14_ok hP h hy; unfold ygc at this; simp only at this; omega
theorem ygeq_ok {r : List Int} {P : yP} {g s : zV} {m : mMem} {x y : Int} (hP : ∀ t ∈ P, yPH gh r m t) (h : ygeq P g s = true) (hx : zd r g = some x) (hy : zd r s = some y) : x = (gh.1 : Int) ∧ y = (gh.2 : Int) := by
  unfold ygeq at h
  simp only [Bool.and_eq_true] at h
  have h1 := yg14_ok hP h.1 hx
  have h2 := yg14_ok hP h.2 hy
  exact ⟨h1, h2⟩
/-! a bit is turned: the first ORDER's -/
def yrx1 (F : zF) (v a s : zV) : Bool := zeq v.2.2 0 && F.2.2.2.any fun q => Nat.beq q.1 6 && Nat.beq q.2.2.2 v.2.1 && zve q.2.1 a && F.2.2.2.any fun w => Nat.beq w.1 7 && zve (1, w.2.2.2, 0) q.2.2.1 && zve w.2.1 (zk 1) && zve w.2.2.1 s
theorem yrx1_ok {r : List Int} {F : zF} {v a s : zV} {x y z : Int32} (hF : zFok r F) (h : yrx1 F v a s = true) (hv : zd r v = some z.toInt) (ha : zd r a = some x.toInt) (hs : zd r s = some y.toInt) (h0 : 0 ≤ y.toInt) (h7 : y.toInt ≤ 7) (hx : 0 ≤ x.toInt) : z.toInt = ((x.toInt.toNat ^^^ 2 ^ y.toInt.toNat : Nat) : Int) := by
  unfold yrx1 at h
  simp only [Bool.and_eq_true, zeq_iff, List.any_eq_true] at h
  obtain ⟨z0, q, hq, ⟨⟨b1, b2⟩, b3⟩, w, hw, ⟨⟨c1, c2⟩, c3⟩, c5⟩ := h
  obtain ⟨xa, xb, xz, d1, d2, d3, d4⟩ := hF.2.2.2.2 q hq
  obtain ⟨ya, yb, yz, f1, f2, f3, f4⟩ := hF.2.2.2.2 w hw
  rw [zbe.mp b1] at d3
  rw [zbe.mp c1] at f3
  cases d3
  cases f3
  rw [zve_d c3, zk_d hF 1] at f1
  have hya : ya = 1 := Int32.toInt_inj.mp (by rw [show (1 : Int32).toInt = 1 from rfl]; simpa using f1.symm)
  subst hya
  rw [zve_d c5, hs] at f2
  have hyb : yb = y := Int32.toInt_inj.mp (by simpa using f2.symm)
  subst hyb
  have hsh := yshl1 h0 h7
  have hb : zd r (1, w.2.2.2, 0) = some ((1 : Int32) <<< (yb &&& 31)).toInt := zd_some.mpr ⟨_, f4, by simp⟩
  rw [zve_d c2, d2] at hb
  have exb : xb = (1 : Int32) <<< (yb &&& 31) := Int32.toInt_inj.mp (by simpa using hb)
  have hz : zd r v = some (xa ^^^ xb).toInt := zd_some.mpr ⟨_, by rw [← zbe.mp b2]; exact d4, by rw [z0]; simp⟩
  rw [hv] at hz
  have exz : z = xa ^^^ xb := Int32.toInt_inj.mp (by simpa using hz)
  rw [zve_d b3, ha] at d1
  have exa : xa = x := Int32.toInt_inj.mp (by simpa using d1.symm)
  subst exa
  have hxb : 0 ≤ xb.toInt := by rw [exb, hsh]; exact Int.natCast_nonneg _
  rw [exz, yxor1 hx hxb, exb, hsh, Int.toNat_natCast]
def yRX1 (P : yP) (c b : Nat) (g s : zV) : Option yQp := bif ygne P g s then some (12, c, b, zk 1) else bif ygeq P g s && ((Nat.beq c 1 && Nat.beq b 1) || Nat.beq c 0) then some (12, 0, 0, zk 1) else none
def yRX (F : zF) (es : List yE) (Y : zT yC 7) (N : Nat) (P : yP) (t : yQp) : Option yQp := match yrel F es with
  | [e] => (match ye1 F 77 (zk 4) es, ye1 F 77 (zk 42) es, ye1 F 77 (zk 58) es, ye1 F 77 e.2.1 es, yfc F e.2.1.2.1 F.2.2.2, yk9 F es Y N 77 e.2.1 with
    | some n, some g, some s, some a, some (x, k), some v => bif Nat.beq t.1 11 && zeq k 7 && zeq e.2.1.2.2 81 && zve x g && yge 2 F n 1 && yge 2 F a 0 && yin F s 0 7 && yge 2 F g 0 && yrx1 F v a s then yRX1 P t.2.1 t.2.2.1 g s else none
    | _, _, _, _, _, _ => none)
  | _ => none
theorem yRX_ok {E : mEnv} {r : List Int} {F : zF} {es : List yE} {Y : zT yC 7} {K : List (Nat × yK)} {N : Nat} {P : yP} {t u : yQp} {m0 m : mMem} (hF : zFok r F) (hc : ych E r m0 es m) (hT : yTM Y K N m) (hP : ∀ t ∈ P, yPH gh r m0 t) (ht : t ∈ P) (h : yRX F es Y N P t = some u) : yPH gh r m u := by
  have hp := hP t ht
  unfold yRX at h
  split at h
  · rename_i e er
    split at h
    · rename_i n g s a x k v e1 e2 e3 e4 e5 e6
      cases cc : (Nat.beq t.1 11 && zeq k 7 && zeq e.2.1.2.2 81 && zve x g && yge 2 F n 1 && yge 2 F a 0 && yin F s 0 7 && yge 2 F g 0 && yrx1 F v a s) with
      | false => rw [cc] at h; cases h
      | true =>
        rw [cc] at h
        simp only [cond_true] at h
        simp only [Bool.and_eq_true, zeq_iff] at cc
        obtain ⟨⟨⟨⟨⟨⟨⟨⟨c1, c2⟩, c3⟩, c4⟩, c5⟩, c6⟩, c7⟩, c8⟩, c9⟩ := cc
        unfold yPH at hp
        rw [zbe.mp c1] at hp
        have hmem : e ∈ es := by
          have : e ∈ yrel F es := by rw [er]; exact List.mem_singleton.mpr rfl
          exact (List.mem_filter.mp this).1
        obtain ⟨je, hje⟩ := ych_pl hc e hmem
        obtain ⟨nv, n1, n2⟩ := ye1_ok (j := 4) hF (by omega) (zk_d hF 4) hc e1
        obtain ⟨gv, g1, g2⟩ := ye1_ok (j := 42) hF (by omega) (zk_d hF 42) hc e2
        obtain ⟨sv, s1, s2⟩ := ye1_ok (j := 58) hF (by omega) (zk_d hF 58) hc e3
        obtain ⟨av, a1, a2⟩ := ye1_ok hF (by omega) hje hc e4
        obtain ⟨zv, z1, z2⟩ := yk9_n hF hc hT hje e6
        obtain ⟨w, w1, w2, -⟩ := yfc_ok hF hF.2.2.2.2 e5
        have b0 := yge_ok hF 2 a2 c6
        have s07 := yin_ok hF s2 c7
        have g0 := yge_ok hF 2 g2 c8
        have n1' := yge_ok hF 2 n2 c5
        have hz := yrx1_ok hF c9 z2 a2 s2 s07.1 s07.2 b0
        rw [zve_d c4, g2] at w1
        cases w1
        have hj : (je : Int) = gv.toInt * 7 + 81 := by
          obtain ⟨q, q1, q2⟩ := zd_some.mp hje
          rw [w2] at q1
          cases q1
          rw [q2, c2, c3]
        have same : ∀ j, yro9 j → j ≠ je → yva m 77 j = yva m0 77 j := fun j hr hne => yrel_same hF hc hr fun e' he' => by
          rw [er] at he'
          rcases List.mem_singleton.mp he' with rfl
          rw [hje]
          intro z
          have : (je : Int) = j := by simpa using z
          omega
        obtain ⟨h8, h9, ⟨bx, bx1, bx2, bx3⟩, n', n'1, n'2, n'3, n'4⟩ := hp
        rw [n1] at n'1
        cases n'1
        have hrow : ∀ k, k < nv.toInt.toNat → (yhit gh m k ↔ yhit gh m0 k) := fun k hk => yhit_ag (same _ (Or.inr (Or.inl ⟨by omega, by omega⟩)) (by omega)) (same _ (Or.inr (Or.inl ⟨by omega, by omega⟩)) (by omega))
        have hn : yva m 77 4 = some (.int nv) := by rw [same 4 (Or.inl rfl) (by omega)]; exact n1
        have h0 : yhit gh m0 0 ↔ gv.toInt = gh.1 ∧ sv.toInt = gh.2 := by
          constructor
          · rintro ⟨p, q, p1, p2, p3, p4⟩
            rw [Nat.add_zero, g1] at p1
            rw [Nat.add_zero, s1] at p2
            cases p1
            cases p2
            exact ⟨p3, p4⟩
          · rintro ⟨p3, p4⟩
            exact ⟨gv, sv, g1, s1, p3, p4⟩
        unfold yRX1 at h
        cases d1 : ygne P g s with
        | true =>
          rw [d1] at h
          cases h
          have hne := ygne_ok hP d1 g2 s2
          have hn0 : ¬ yhit gh m0 0 := fun z => hne (h0.mp z)
          refine ⟨1, zk_d hF 1, h8, h9, ?_, nv, hn, n'2, n'3, ?_⟩
          · by_cases hg : gv.toInt = gh.1
            · have ej : je = 81 + 7 * gh.1 := by omega
              subst ej
              rw [a1] at bx1
              cases bx1
              refine ⟨zv, z1, by rw [hz]; exact Int.natCast_nonneg _, ?_⟩
              rw [hz, Int.toNat_natCast, Nat.testBit_xor, Nat.testBit_two_pow, bx3]
              have : ¬ sv.toInt.toNat = gh.2 := fun z => hne ⟨hg, by omega⟩
              rw [decide_eq_false this, Bool.xor_false]
            · exact ⟨bx, by rw [same _ (Or.inr (Or.inr ⟨by omega, by omega, by omega⟩)) (by omega)]; exact bx1, bx2, bx3⟩
          · show ycnt gh m _ (1 - 1) t.2.1
            generalize t.2.1 = c at n'4
            cases c with
            | zero => exact fun k hk hk0 hh => n'4 k hk (by omega) ((hrow k hk).mp hh)
            | succ c =>
              obtain ⟨p, p1, p2, p3, p4⟩ := n'4
              have hp0 : p ≠ 0 := fun z => hn0 (by rw [z] at p3; exact p3)
              exact ⟨p, p1, by omega, (hrow p p1).mpr p3, fun k hk hk0 hh => p4 k hk (by omega) ((hrow k hk).mp hh)⟩
        | false =>
          rw [d1] at h
          simp only [cond_false] at h
          cases d2 : (ygeq P g s && ((Nat.beq t.2.1 1 && Nat.beq t.2.2.1 1) || Nat.beq t.2.1 0)) with
          | false => rw [d2] at h; cases h
          | true =>
            rw [d2] at h
            cases h
            simp only [Bool.and_eq_true, Bool.or_eq_true, zbe] at d2
            obtain ⟨d3, d4⟩ := d2
            obtain ⟨hg, hs⟩ := ygeq_ok hP d3 g2 s2
            have hh0 : yhit gh m0 0 := h0.mpr ⟨hg, hs⟩
            rcases d4 with ⟨d4, d5⟩ | d4
            · rw [d4] at n'4
              rw [d5] at bx3
              obtain ⟨p, p1, p2, p3, p4⟩ := n'4
              have hp0 : 0 = p := p4 0 (by omega) (by omega) hh0
              have ej : je = 81 + 7 * gh.1 := by omega
              subst ej
              rw [a1] at bx1
              cases bx1
              refine ⟨1, zk_d hF 1, h8, h9, ⟨zv, z1, by rw [hz]; exact Int.natCast_nonneg _, ?_⟩, nv, hn, n'2, n'3, fun k hk hk0 hh => ?_⟩
              · rw [hz, Int.toNat_natCast, Nat.testBit_xor, Nat.testBit_two_pow, bx3]
                have : sv.toInt.toNat = gh.2 := by omega
                rw [this, decide_eq_true rfl]
                rfl
              · have := p4 k hk (by omega) ((hrow k hk).mp hh)
                omega
            · rw [d4] at n'4
              exact (n'4 0 (by omega) (by omega) hh0).elim
    · cases h
  · cases h
/-- the same number, by all that is known -/
def yev (F : zF) (a b : zV) : Bool := yle 2 F a b && yle 2 F b a
theorem yev_ok {r : List Int} {F : zF} {a b : zV} {x y : Int} (hF : zFok r F) (hx : zd r a = some x) (hy : zd r b = some y) (h : yev F a b = true) : x = y := by
  unfold yev at h
  simp only [Bool.and_eq_true] at h
  have h1 := yle_ok hF 2 hx hy h.1
  have h2 := yle_ok hF 2 hy hx h.2
  omega
theorem yrel_in {F : zF} {es : List yE} {e : yE} (h : e ∈ yrel F es) : e ∈ es := (List.mem_filter.mp h).1
/-! the row moves up by one place -/
def yRS (F : zF) (es : List yE) (Y : zT yC 7) (N : Nat) (t : yQp) : Option yQp := match yrel F es with
  | [e2, e1] => (match ye1 F 77 (zk 4) es, ye1 F 77 (zsh t.2.2.2 42) es, ye1 F 77 (zsh t.2.2.2 58) es, yk9 F es Y N 77 e1.2.1, yk9 F es Y N 77 e2.2.1 with
    | some n, some g, some s, some v1, some v2 => bif Nat.beq t.1 12 && yev F e1.2.1 (zsh t.2.2.2 41) && yev F e2.2.1 (zsh t.2.2.2 57) && yev F v1 g && yev F v2 s && yge 2 F t.2.2.2 1 && yle 2 F (zsh t.2.2.2 1) n then some (12, t.2.1, t.2.2.1, zsh t.2.2.2 1) else none
    | _, _, _, _, _ => none)
  | _ => none
theorem yRS_ok {E : mEnv} {r : List Int} {F : zF} {es : List yE} {Y : zT yC 7} {K : List (Nat × yK)} {N : Nat} {t u : yQp} {m0 m : mMem} (hF : zFok r F) (hc : ych E r m0 es m) (hT : yTM Y K N m) (hp : yPH gh r m0 t) (h : yRS F es Y N t = some u) : yPH gh r m u := by
  unfold yRS at h
  split at h
  · rename_i x2 x1 er
    split at h
    · rename_i n g s v1 v2 e1 e2 e3 e4 e5
      cases cc : (Nat.beq t.1 12 && yev F x1.2.1 (zsh t.2.2.2 41) && yev F x2.2.1 (zsh t.2.2.2 57) && yev F v1 g && yev F v2 s && yge 2 F t.2.2.2 1 && yle 2 F (zsh t.2.2.2 1) n) with
      | false => rw [cc] at h; cases h
      | true =>
        rw [cc] at h
        cases h
        simp only [Bool.and_eq_true] at cc
        obtain ⟨⟨⟨⟨⟨⟨c1, c2⟩, c3⟩, c4⟩, c5⟩, c6⟩, c7⟩ := cc
        unfold yPH at hp
        rw [zbe.mp c1] at hp
        obtain ⟨nv, n1, n2⟩ := ye1_ok (j := 4) hF (by omega) (zk_d hF 4) hc e1
        obtain ⟨i, i1, h8, h9, ⟨bx, bx1, bx2, bx3⟩, n', n'1, n'2, n'3, n'4⟩ := hp
        rw [n1] at n'1
        cases n'1
        have i0 := yge_ok hF 2 i1 c6
        have i2 := yle_ok hF 2 (zsh_d i1) n2 c7
        obtain ⟨q, hq⟩ : ∃ q : Nat, i = (q : Int) + 1 := ⟨(i - 1).toNat, by omega⟩
        subst hq
        obtain ⟨j1, hj1⟩ := ych_pl hc x1 (yrel_in (by rw [er]; simp))
        obtain ⟨j2, hj2⟩ := ych_pl hc x2 (yrel_in (by rw [er]; simp))
        have k1 := yev_ok hF hj1 (zsh_d (n := 41) i1) c2
        have k2 := yev_ok hF hj2 (zsh_d (n := 57) i1) c3
        have d1 : zd r x1.2.1 = some ((42 + q : Nat) : Int) := by rw [hj1]; congr 1; omega
        have d2 : zd r x2.2.1 = some ((58 + q : Nat) : Int) := by rw [hj2]; congr 1; omega
        obtain ⟨gv, g1, g2⟩ := ye1_ok (j := 42 + (q + 1)) hF (by omega) (by rw [zsh_d i1]; congr 1; omega) hc e2
        obtain ⟨sv, s1, s2⟩ := ye1_ok (j := 58 + (q + 1)) hF (by omega) (by rw [zsh_d i1]; congr 1; omega) hc e3
        obtain ⟨z1, y1, y2⟩ := yk9_n hF hc hT d1 e4
        obtain ⟨z2, w1, w2⟩ := yk9_n hF hc hT d2 e5
        have ez1 : z1 = gv := Int32.toInt_inj.mp (yev_ok hF y2 g2 c4)
        have ez2 : z2 = sv := Int32.toInt_inj.mp (yev_ok hF w2 s2 c5)
        subst ez1
        subst ez2
        have same : ∀ j, yro9 j → j ≠ 42 + q → j ≠ 58 + q → yva m 77 j = yva m0 77 j := fun j hr hne1 hne2 => yrel_same hF hc hr fun e' he' => by
          rw [er] at he'
          simp only [List.mem_cons, List.not_mem_nil, or_false] at he'
          rcases he' with rfl | rfl
          · rw [d2]; intro z; have : ((58 + q : Nat) : Int) = j := by simpa using z
            omega
          · rw [d1]; intro z; have : ((42 + q : Nat) : Int) = j := by simpa using z
            omega
        have hk : ∀ k, k < nv.toInt.toNat → k ≠ q → (yhit gh m k ↔ yhit gh m0 k) := fun k hk hne => yhit_ag (same _ (Or.inr (Or.inl ⟨by omega, by omega⟩)) (by omega) (by omega)) (same _ (Or.inr (Or.inl ⟨by omega, by omega⟩)) (by omega) (by omega))
        have hq : yhit gh m q ↔ yhit gh m0 (q + 1) := by
          unfold yhit
          rw [y1, w1, g1, s1]
        refine ⟨(q : Int) + 1 + 1, by rw [zsh_d i1], h8, h9, ⟨bx, by rw [same _ (Or.inr (Or.inr ⟨by omega, by omega, by omega⟩)) (by omega) (by omega)]; exact bx1, bx2, bx3⟩, nv, by rw [same 4 (Or.inl rfl) (by omega) (by omega)]; exact n1, n'2, n'3, ?_⟩
        show ycnt gh m _ _ t.2.1
        generalize t.2.1 = c at n'4
        cases c with
        | zero =>
          intro k hkn hne hh
          by_cases hkq : k = q
          · subst hkq
            exact n'4 (k + 1) (by omega) (by omega) (hq.mp hh)
          · exact n'4 k hkn (by omega) ((hk k hkn hkq).mp hh)
        | succ c =>
          obtain ⟨p, p1, p2, p3, p4⟩ := n'4
          by_cases hpq : p = q + 1
          · subst hpq
            refine ⟨q, by omega, by omega, hq.mpr p3, fun k hkn hne hh => ?_⟩
            by_cases hkq : k = q
            · exact hkq
            · have := p4 k hkn (by omega) ((hk k hkn hkq).mp hh)
              omega
          · refine ⟨p, p1, by omega, (hk p p1 (by omega)).mpr p3, fun k hkn hne hh => ?_⟩
            by_cases hkq : k = q
            · subst hkq
              have := p4 (k + 1) (by omega) (by omega) (hq.mp hh)
              omega
            · exact p4 k hkn (by omega) ((hk k hkn hkq).mp hh)
    · cases h
  · cases h
/-! the last place of the row is gone -/
def yRE (F : zF) (es : List yE) (Y : zT yC 7) (N : Nat) (t : yQp) : Option yQp := match yrel F es with
  | [e] => (match ye1 F 77 (zk 4) es, yk9 F es Y N 77 (zk 4) with
    | some n, some v => bif Nat.beq t.1 12 && yin F e.2.1 4 4 && yev F v (zsh n (-1)) && yle 2 F t.2.2.2 n && yle 2 F n t.2.2.2 && yge 2 F n 1 then some (11, t.2.1, t.2.2.1, zk 0) else none
    | _, _ => none)
  | _ => none
theorem yRE_ok {E : mEnv} {r : List Int} {F : zF} {es : List yE} {Y : zT yC 7} {K : List (Nat × yK)} {N : Nat} {t u : yQp} {m0 m : mMem} (hF : zFok r F) (hc : ych E r m0 es m) (hT : yTM Y K N m) (hp : yPH gh r m0 t) (h : yRE F es Y N t = some u) : yPH gh r m u := by
  unfold yRE at h
  split at h
  · rename_i e er
    split at h
    · rename_i n v e1 e2
      cases cc : (Nat.beq t.1 12 && yin F e.2.1 4 4 && yev F v (zsh n (-1)) && yle 2 F t.2.2.2 n && yle 2 F n t.2.2.2 && yge 2 F n 1) with
      | false => rw [cc] at h; cases h
      | true =>
        rw [cc] at h
        cases h
        simp only [Bool.and_eq_true] at cc
        obtain ⟨⟨⟨⟨⟨c1, c2⟩, c3⟩, c4⟩, c5⟩, c6⟩ := cc
        unfold yPH at hp
        rw [zbe.mp c1] at hp
        obtain ⟨nv, n1, n2⟩ := ye1_ok (j := 4) hF (by omega) (zk_d hF 4) hc e1
        obtain ⟨i, i1, h8, h9, ⟨bx, bx1, bx2, bx3⟩, n', n'1, n'2, n'3, n'4⟩ := hp
        rw [n1] at n'1
        cases n'1
        obtain ⟨z, z1, z2⟩ := yk9_n (j := 4) hF hc hT (zk_d hF 4) e2
        have ez : z.toInt = nv.toInt + -1 := yev_ok hF z2 (zsh_d (n := -1) n2) c3
        have a1 := yle_ok hF 2 i1 n2 c4
        have a2 := yle_ok hF 2 n2 i1 c5
        have a3 := yge_ok hF 2 n2 c6
        have hmem : e ∈ es := by
          have : e ∈ yrel F es := by rw [er]; exact List.mem_singleton.mpr rfl
          exact (List.mem_filter.mp this).1
        obtain ⟨je, hje⟩ := ych_pl hc e hmem
        have hj4 := yin_ok hF hje c2
        have same : ∀ j, yro9 j → j ≠ 4 → yva m 77 j = yva m0 77 j := fun j hr hne => yrel_same hF hc hr fun e' he' => by
          rw [er] at he'
          rcases List.mem_singleton.mp he' with rfl
          rw [hje]
          intro z
          have : (je : Int) = j := by simpa using z
          omega
        have hk : ∀ k, k < nv.toInt.toNat → (yhit gh m k ↔ yhit gh m0 k) := fun k hk => yhit_ag (same _ (Or.inr (Or.inl ⟨by omega, by omega⟩)) (by omega)) (same _ (Or.inr (Or.inl ⟨by omega, by omega⟩)) (by omega))
        refine ⟨h8, h9, ⟨bx, by rw [same _ (Or.inr (Or.inr ⟨by omega, by omega, by omega⟩)) (by omega)]; exact bx1, bx2, bx3⟩, z, z1, by omega, by omega, ?_⟩
        show ycnt gh m _ _ t.2.1
        generalize t.2.1 = c at n'4
        cases c with
        | zero => exact fun k hkn hne hh => n'4 k (by omega) (by omega) ((hk k (by omega)).mp hh)
        | succ c =>
          obtain ⟨p, p1, p2, p3, p4⟩ := n'4
          exact ⟨p, by omega, by omega, (hk p p1).mpr p3, fun k hkn hne hh => p4 k (by omega) (by omega) ((hk k (by omega)).mp hh)⟩
    · cases h
  · cases h
/-! one more at the end of the row -/
def yRA (F : zF) (es : List yE) (Y : zT yC 7) (N : Nat) (P : yP) (t : yQp) : Option yQp := match yrel F es with
  | [e3, e2, e1] => (match ye1 F 77 (zk 4) es, yk9 F es Y N 77 (zk 4), yk9 F es Y N 77 e1.2.1, yk9 F es Y N 77 e2.2.1 with
    | some n, some v, some g, some s => bif Nat.beq t.1 11 && yev F e3.2.1 (zk 4) && yev F e2.2.1 (zsh n 58) && yev F e1.2.1 (zsh n 42) && yev F v (zsh n 1) && yle 2 F n (zk 15) then
        (bif ygne P g s then some (11, t.2.1, t.2.2.1, zk 0) else bif ygeq P g s && Nat.beq t.2.1 0 then some (11, 1, t.2.2.1, zk 0) else none) else none
    | _, _, _, _ => none)
  | _ => none
theorem yRA_ok {E : mEnv} {r : List Int} {F : zF} {es : List yE} {Y : zT yC 7} {K : List (Nat × yK)} {N : Nat} {P : yP} {t u : yQp} {m0 m : mMem} (hF : zFok r F) (hc : ych E r m0 es m) (hT : yTM Y K N m) (hP : ∀ t ∈ P, yPH gh r m0 t) (ht : t ∈ P) (h : yRA F es Y N P t = some u) : yPH gh r m u := by
  have hp := hP t ht
  unfold yRA at h
  split at h
  · rename_i x3 x2 x1 er
    split at h
    · rename_i n v g s e1 e2 e3 e4
      cases cc : (Nat.beq t.1 11 && yev F x3.2.1 (zk 4) && yev F x2.2.1 (zsh n 58) && yev F x1.2.1 (zsh n 42) && yev F v (zsh n 1) && yle 2 F n (zk 15)) with
      | false => rw [cc] at h; cases h
      | true =>
        rw [cc] at h
        simp only [cond_true] at h
        simp only [Bool.and_eq_true] at cc
        obtain ⟨⟨⟨⟨⟨c1, c2⟩, c3⟩, c4⟩, c5⟩, c6⟩ := cc
        unfold yPH at hp
        rw [zbe.mp c1] at hp
        obtain ⟨nv, n1, n2⟩ := ye1_ok (j := 4) hF (by omega) (zk_d hF 4) hc e1
        obtain ⟨h8, h9, ⟨bx, bx1, bx2, bx3⟩, n', n'1, n'2, n'3, n'4⟩ := hp
        rw [n1] at n'1
        cases n'1
        have a15 := yle_ok hF 2 n2 (zk_d hF _) c6
        obtain ⟨z, z1, z2⟩ := yk9_n (j := 4) hF hc hT (zk_d hF 4) e2
        have ez : z.toInt = nv.toInt + 1 := yev_ok hF z2 (zsh_d (n := 1) n2) c5
        obtain ⟨q, hq⟩ : ∃ q : Nat, nv.toInt = (q : Int) := ⟨nv.toInt.toNat, by omega⟩
        obtain ⟨j1, hj1⟩ := ych_pl hc x1 (yrel_in (by rw [er]; simp))
        obtain ⟨j2, hj2⟩ := ych_pl hc x2 (yrel_in (by rw [er]; simp))
        obtain ⟨j3, hj3⟩ := ych_pl hc x3 (yrel_in (by rw [er]; simp))
        have k1 := yev_ok hF hj1 (zsh_d (n := 42) n2) c4
        have k2 := yev_ok hF hj2 (zsh_d (n := 58) n2) c3
        have k3 := yev_ok hF hj3 (zk_d hF 4) c2
        have d1 : zd r x1.2.1 = some ((42 + q : Nat) : Int) := by rw [hj1]; congr 1; omega
        have d2 : zd r x2.2.1 = some ((58 + q : Nat) : Int) := by rw [hj2]; congr 1; omega
        have d3 : zd r x3.2.1 = some ((4 : Nat) : Int) := by rw [hj3]; congr 1
        obtain ⟨gv, g1, g2⟩ := yk9_n hF hc hT d1 e3
        obtain ⟨sv, s1, s2⟩ := yk9_n hF hc hT d2 e4
        have same : ∀ j, yro9 j → j ≠ 4 → j ≠ 42 + q → j ≠ 58 + q → yva m 77 j = yva m0 77 j := fun j hr hne0 hne1 hne2 => yrel_same hF hc hr fun e' he' => by
          rw [er] at he'
          simp only [List.mem_cons, List.not_mem_nil, or_false] at he'
          rcases he' with rfl | rfl | rfl
          · rw [d3]; intro z; have : ((4 : Nat) : Int) = j := by simpa using z
            omega
          · rw [d2]; intro z; have : ((58 + q : Nat) : Int) = j := by simpa using z
            omega
          · rw [d1]; intro z; have : ((42 + q : Nat) : Int) = j := by simpa using z
            omega
        have hk : ∀ k, k < q → (yhit gh m k ↔ yhit gh m0 k) := fun k hk => yhit_ag (same _ (Or.inr (Or.inl ⟨by omega, by omega⟩)) (by omega) (by omega) (by omega)) (same _ (Or.inr (Or.inl ⟨by omega, by omega⟩)) (by omega) (by omega) (by omega))
        have hbt : ybt gh m t.2.2.1 := ⟨bx, by rw [same _ (Or.inr (Or.inr ⟨by omega, by omega, by omega⟩)) (by omega) (by omega) (by omega)]; exact bx1, bx2, bx3⟩
        have hq9 : yhit gh m q ↔ gv.toInt = gh.1 ∧ sv.toInt = gh.2 := by
          constructor
          · rintro ⟨p, w, p1, p2, p3, p4⟩
            rw [g1] at p1
            rw [s1] at p2
            cases p1
            cases p2
            exact ⟨p3, p4⟩
          · rintro ⟨p3, p4⟩
            exact ⟨gv, sv, g1, s1, p3, p4⟩
        have hzn : z.toInt.toNat = q + 1 := by omega
        have hnn : nv.toInt.toNat = q := by omega
        rw [hnn] at n'4
        cases w1 : ygne P g s with
        | true =>
          rw [w1] at h
          cases h
          have hne : ¬ yhit gh m q := fun hh => ygne_ok hP w1 g2 s2 (hq9.mp hh)
          refine ⟨h8, h9, hbt, z, z1, by omega, by omega, ?_⟩
          rw [hzn]
          show ycnt gh m _ _ t.2.1
          generalize t.2.1 = c at n'4
          cases c with
          | zero =>
            intro k hkn hne1 hh
            by_cases hkq : k = q
            · exact hne (by rw [← hkq]; exact hh)
            · exact n'4 k (by omega) (by omega) ((hk k (by omega)).mp hh)
          | succ c =>
            obtain ⟨p, p1, p2, p3, p4⟩ := n'4
            refine ⟨p, by omega, by omega, (hk p p1).mpr p3, fun k hkn hne1 hh => ?_⟩
            by_cases hkq : k = q
            · exact (hne (by rw [← hkq]; exact hh)).elim
            · exact p4 k (by omega) (by omega) ((hk k (by omega)).mp hh)
        | false =>
          rw [w1] at h
          simp only [cond_false] at h
          cases w2 : (ygeq P g s && Nat.beq t.2.1 0) with
          | false => rw [w2] at h; cases h
          | true =>
            rw [w2] at h
            cases h
            simp only [Bool.and_eq_true, zbe] at w2
            obtain ⟨w3, w4⟩ := w2
            rw [w4] at n'4
            refine ⟨h8, h9, hbt, z, z1, by omega, by omega, ?_⟩
            rw [hzn]
            refine ⟨q, by omega, by omega, hq9.mpr (ygeq_ok hP w3 g2 s2), fun k hkn hne1 hh => ?_⟩
            by_cases hkq : k = q
            · exact hkq
            · exact (n'4 k (by omega) (by omega) ((hk k (by omega)).mp hh)).elim
    · cases h
  · cases h
def yRg (F : zF) (es : List yE) (Y : zT yC 7) (N : Nat) (P : yP) (t : yQp) : Option yQp := bif Nat.beq t.1 11 || Nat.beq t.1 12 then (match yRX F es Y N P t with
  | some u => some u
  | none => match yRS F es Y N t with
    | some u => some u
    | none => match yRE F es Y N t with
      | some u => some u
      | none => yRA F es Y N P t) else none
theorem yRg_ok {E : mEnv} {r : List Int} {F : zF} {es : List yE} {Y : zT yC 7} {K : List (Nat × yK)} {N : Nat} {P : yP} {t u : yQp} {m0 m : mMem} (hF : zFok r F) (hc : ych E r m0 es m) (hT : yTM Y K N m) (hP : ∀ t ∈ P, yPH gh r m0 t) (ht : t ∈ P) (h : yRg F es Y N P t = some u) : yPH gh r m u := by
  unfold yRg at h
  cases c : (Nat.beq t.1 11 || Nat.beq t.1 12) with
  | false => rw [c] at h; cases h
  | true =>
    rw [c] at h
    simp only [cond_true] at h
    split at h
    · rename_i e; cases h; exact yRX_ok hF hc hT hP ht e
    · split at h
      · rename_i e; cases h; exact yRS_ok hF hc hT (hP t ht) e
      · split at h
        · rename_i e; cases h; exact yRE_ok hF hc hT (hP t ht) e
        · exact yRA_ok hF hc hT hP ht h
end
