/-! the open AGAINs of a WORK; the sync -/
section
variable {gh : yGh}
def yhw (p : Nat) (es : List yE) : Bool := es.any fun e => !(Nat.beq e.2.2.2 0) && Nat.beq e.1 p
/-- what was known at the last sync -/
def ye0 (F : zF) (p : Nat) (i : zV) : List yE → Option zV
  | [] => none
  | e :: es => match ye0 F p i es with
    | some a => some a
    | none => bif Nat.beq e.1 p && Nat.beq e.2.2.2 0 && !(yhw p es) && Nat.beq (yal F i e.2.1) 0 && Nat.beq e.2.2.1.1 1 then some e.2.2.1 else none
theorem ye0_ok {E : mEnv} {r : List Int} {F : zF} {p j : Nat} {i : zV} {m0 : mMem} (hF : zFok r F) (hp : p < 1000) (hi : zd r i = some (j : Int)) : ∀ {es : List yE} {m : mMem} {a : zV}, ych E r m0 es m → ye0 F p i es = some a → ∃ x : Int32, yva m0 p j = some (.int x) ∧ zd r a = some x.toInt
  | [], _, _, _, h => by cases h
  | e :: es, m, a, hc, h => by
    obtain ⟨k, h1, h2⟩ := hc
    have tl : ∃ m1, ych E r m0 es m1 := by
      split at h2
      · exact ⟨m, h2.1⟩
      · obtain ⟨m1, v, g1, -⟩ := h2
        exact ⟨m1, g1⟩
    unfold ye0 at h
    split at h
    · rename_i a' e'
      cases h
      obtain ⟨m1, g⟩ := tl
      exact ye0_ok hF hp hi g e'
    · cases c : (Nat.beq e.1 p && Nat.beq e.2.2.2 0 && !(yhw p es) && Nat.beq (yal F i e.2.1) 0 && Nat.beq e.2.2.1.1 1) with
      | false => rw [c] at h; cases h
      | true =>
        rw [c] at h
        cases h
        simp only [Bool.and_eq_true, Bool.not_eq_true', zbe] at c
        obtain ⟨⟨⟨⟨c1, c2⟩, c3⟩, c4⟩, c5⟩ := c
        rw [c2] at h2
        obtain ⟨g1, v, g2, g3⟩ := h2
        have hjk := (yal_ok hF hi h1).1 c4
        have : j = k := by omega
        subst this
        obtain ⟨x, rfl, hx⟩ := zvm_i g3 (zbe.mpr c5)
        have hs : yva m p j = yva m0 p j := ych_same g1 fun e' he' h0 ep => by
          exfalso
          have : yhw p es = true := List.any_eq_true.mpr ⟨e', he', by simp only [Bool.and_eq_true, Bool.not_eq_true', zbe]; exact ⟨by rw [← Bool.not_eq_true, zbe]; exact h0, ep⟩⟩
          rw [this] at c3
          cases c3
        refine ⟨x, ?_, hx⟩
        rw [← hs]
        unfold yvx at g2
        rw [c1, if_pos hp] at g2
        exact g2
def yc50 (F : zF) (es : List yE) (Y : zT yC 7) (N : Nat) : Bool := match yk9 F es Y N 70 (zk 4), yk9 F es Y N 70 (zk 3) with
  | some o, some _ => yle 2 F o (zk 0)
  | _, _ => false
theorem yc50_ok {E : mEnv} {r : List Int} {F : zF} {es : List yE} {Y : zT yC 7} {K : List (Nat × yK)} {N : Nat} {m0 m : mMem} (hF : zFok r F) (hc : ych E r m0 es m) (hT : yTM Y K N m) (h : yc50 F es Y N = true) (v : zV) : yPH gh r m (5, 0, 0, v) := by
  unfold yc50 at h
  split at h
  · rename_i o c eo ec
    obtain ⟨x, x1, x2⟩ := yk9_n (j := 4) hF hc hT (zk_d hF 4) eo
    obtain ⟨y, y1, y2⟩ := yk9_n (j := 3) hF hc hT (zk_d hF 3) ec
    have := yle_ok hF 2 x2 (zk_d hF _) h
    exact ⟨y, x, y1, x1, fun i hi => by omega⟩
  · cases h
/-- a write leaves what was open open -/
def yc51 (F : zF) (c0 o0 : zV) (e : yE) : Bool := Nat.beq e.2.2.2 0 || (match e.1 with
  | 71 => (match yrx F e.2.1 with
    | some x => yge 2 F e.2.1 0 && (!(zeq e.2.1.2.2 0) || yle 2 F c0 x)
    | none => false)
  | 72 => yle 2 F o0 e.2.1
  | _ => true)
/-- the one that is open now -/
def yc52 (F : zF) (es : List yE) (Y : zT yC 7) (N : Nat) (o0 c : zV) : Bool := match yk9 F es Y N 72 o0 with
  | some x => yge 2 F x 0 && yle 2 F (zsh x 1) c && (match zml F.2.2.2 3 x (zk 5) with
    | some z => (match yfc F z F.2.2.2 with
      | some (x', n) => zeq n 5 && zve x' x && (match yk9 F es Y N 71 (1, z, 0) with
        | some k => yin F k 5 5
        | none => false)
      | none => false)
    | none => false)
  | none => false
def yc53 (F : zF) (es : List yE) (Y : zT yC 7) (N : Nat) : Bool := match ye0 F 70 (zk 3) es, ye0 F 70 (zk 4) es, yk9 F es Y N 70 (zk 3), yk9 F es Y N 70 (zk 4) with
  | some c0, some o0, some c, some o => yle 2 F c0 c && (es.all (yc51 F c0 o0)) && (yle 2 F o o0 || (yle 2 F o (zsh o0 1) && yc52 F es Y N o0 c))
  | _, _, _, _ => false
theorem yc53_ok {E : mEnv} {r : List Int} {F : zF} {es : List yE} {Y : zT yC 7} {K : List (Nat × yK)} {N : Nat} {m0 m : mMem} {v : zV} (hF : zFok r F) (hc : ych E r m0 es m) (hT : yTM Y K N m) (hp : yPH gh r m0 (5, 0, 0, v)) (h : yc53 F es Y N = true) : yPH gh r m (5, 0, 0, v) := by
  unfold yc53 at h
  split at h
  · rename_i c0 o0 c o e1 e2 e3 e4
    simp only [Bool.and_eq_true, Bool.or_eq_true] at h
    obtain ⟨⟨h1, h2⟩, h3⟩ := h
    obtain ⟨a, a1, a2⟩ := ye0_ok (j := 3) hF (by omega) (zk_d hF 3) hc e1
    obtain ⟨b, b1, b2⟩ := ye0_ok (j := 4) hF (by omega) (zk_d hF 4) hc e2
    obtain ⟨a', a3, a4⟩ := yk9_n (j := 3) hF hc hT (zk_d hF 3) e3
    obtain ⟨b', b3, b4⟩ := yk9_n (j := 4) hF hc hT (zk_d hF 4) e4
    have hcc := yle_ok hF 2 a2 a4 h1
    obtain ⟨ca, oa, p1, p2, p3⟩ := hp
    rw [a1] at p1
    rw [b1] at p2
    cases p1
    cases p2
    have hw : ∀ e ∈ es, e.2.2.2 ≠ 0 → yc51 F c0 o0 e = true := fun e he _ => List.all_eq_true.mp h2 e he
    have old : ∀ i : Nat, (i : Int) < b.toInt → ∃ x : Int32, yva m 72 i = some (.int x) ∧ 0 ≤ x.toInt ∧ x.toInt < a'.toInt ∧ yva m 71 (5 * x.toInt.toNat) = some (.int 5) := by
      intro i hi
      obtain ⟨x, x1, x2, x3, x4⟩ := p3 i hi
      refine ⟨x, ?_, x2, by omega, ?_⟩
      · rw [ych_same hc, x1]
        intro e he h0 ep n hn hni
        have := hw e he h0
        unfold yc51 at this
        simp only [ep, Bool.or_eq_true, zbe] at this
        rcases this with g | g
        · exact h0 g
        · have := yle_ok hF 2 b2 hn g
          omega
      · rw [ych_same hc, x4]
        intro e he h0 ep n hn hni
        have := hw e he h0
        unfold yc51 at this
        simp only [ep, Bool.or_eq_true, zbe] at this
        rcases this with g | g
        · exact h0 g
        · split at g
          · rename_i y ey
            simp only [Bool.and_eq_true, Bool.or_eq_true, Bool.not_eq_true'] at g
            obtain ⟨u, u1, u2, u3, u4, u5⟩ := yrx_ok hF hn ey
            rcases g.2 with g | g
            · have : e.2.1.2.2 ≠ 0 := fun h => by rw [zeq_iff.mpr h] at g; cases g
              omega
            · have := yle_ok hF 2 a2 u1 g
              omega
          · cases g
    refine ⟨a', b', a3, b3, fun i hi => ?_⟩
    rcases h3 with h3 | ⟨h3, h4⟩
    · have := yle_ok hF 2 b4 b2 h3
      exact old i (by omega)
    · have hle := yle_ok hF 2 b4 (zsh_d b2) h3
      by_cases hib : (i : Int) < b.toInt
      · exact old i hib
      · have ei : b.toInt = (i : Int) := by omega
        unfold yc52 at h4
        split at h4
        · rename_i x ex
          simp only [Bool.and_eq_true] at h4
          obtain ⟨⟨g1, g2⟩, g3⟩ := h4
          obtain ⟨x9, y1, y2⟩ := yk9_n (j := i) hF hc hT (by rw [b2, ei]) ex
          have k1 := yge_ok hF 2 y2 g1
          have k2 := yle_ok hF 2 (zsh_d y2) a4 g2
          split at g3
          · rename_i z ez
            split at g3
            · rename_i x' n en
              simp only [Bool.and_eq_true, zeq_iff] at g3
              obtain ⟨⟨q1, q2⟩, q3⟩ := g3
              subst q1
              obtain ⟨u, u1, u2, -⟩ := yfc_ok hF hF.2.2.2.2 en
              rw [zve_d q2, y2] at u1
              cases u1
              split at q3
              · rename_i k ek
                obtain ⟨w, w1, w2⟩ := yk9_n (j := 5 * x9.toInt.toNat) hF hc hT (zd_some.mpr ⟨_, u2, by dsimp only; omega⟩) ek
                obtain ⟨d1, d2⟩ := yin_ok hF w2 q3
                have ew : w = 5 := Int32.toInt_inj.mp (by rw [show (5 : Int32).toInt = 5 from rfl]; omega)
                rw [ew] at w1
                exact ⟨x9, y1, k1, by omega, w1⟩
              · cases q3
            · cases g3
          · cases g3
        · cases h4
  · cases h
/-- what holds behind what was written -/
def yh1 (P : yP) (k a : Nat) : Bool := P.any fun t => Nat.beq t.1 k && Nat.beq t.2.1 a
def yhp (P : yP) (k : Nat) : Bool := P.any fun t => Nat.beq t.1 k
def ybw (es : List yE) (p : Nat) : Bool := es.any fun e => !(Nat.beq e.2.2.2 0) && Nat.beq e.1 p
def yif (b : Bool) (t : yQp) : yP := bif b then [t] else []
def ybx (F : zF) (es : List yE) (Y : zT yC 7) (N : Nat) : Option zV := match es.find? fun e => !(ywe e) && !(yrk F es Y N e.2.1.2.1) with
  | some e => yrx F e.2.1
  | none => none
/-- the preds that stand on their own -/
def ys1 (F : zF) (es : List yE) (Y : zT yC 7) (N : Nat) (P P1 : yP) : yP :=
  yif (!(yhp P1 1) && (ybw es 61 || ybw es 62) && ycE F es Y N) (1, 0, 0, zk 0) ++
  yif (!(yh1 P1 6 77) && (((ybw es 77 || !(yh1 P 6 77)) && ycP F es Y N 77) || (yhp P 7 && ycC F P1 77))) (6, 77, 0, zk 0) ++
  yif (!(yh1 P1 6 78) && yhp P 7 && ycC F P1 78) (6, 78, 0, zk 0) ++
  yif (!(yh1 P1 6 79) && yhp P 7 && ycC F P1 79) (6, 79, 0, zk 0) ++
  ((P.filter (ycK F es Y N)).map fun t => (7, t.2.1, t.2.2.1, zsh t.2.2.2 1)) ++
  yif (!(yh1 P1 2 4) && ((yh1 P 2 4 && ycR F es Y N 4) || ycD P1 4)) (2, 4, 0, zk 0) ++
  yif (!(yh1 P1 2 34) && ((yh1 P 2 34 && ycR F es Y N 34) || ycD P1 34)) (2, 34, 0, zk 0) ++
  yif (!(yh1 P1 2 67) && ((yh1 P 2 67 && ycR F es Y N 67) || ycD P1 67)) (2, 67, 0, zk 0) ++
  yif (!(yhp P1 5) && ybw es 70 && (yc50 F es Y N || (yhp P 5 && yc53 F es Y N))) (5, 0, 0, zk 0) ++
  yif (!(yhp P1 5) && !(ybw es 70) && (ybw es 71 || ybw es 72) && yhp P 5 && yc53 F es Y N) (5, 0, 0, zk 0)
def ys2 (F : zF) (es : List yE) (Y : zT yC 7) (N : Nat) (P P1 : yP) : yP := bif yhp P1 3 then [] else
  bif yhp P 3 && ycW F es Y N none then [(3, 0, 0, zk 0)] else
  (match ybx F es Y N with
  | some x => yif (yhp P 3 && ycW F es Y N (some x)) (4, 0, 0, x)
  | none => []) ++ P.filter fun t => Nat.beq t.1 4 && !(P1.any fun u => Nat.beq u.1 4) && ycW F es Y N (some t.2.2.2)
def ys3 (F : zF) (es : List yE) (Y : zT yC 7) (N : Nat) (P2 : yP) : yP := bif yhp P2 3 then [] else
  yif (P2.any fun t => Nat.beq t.1 4 && ycV F es Y N t.2.2.2) (3, 0, 0, zk 0)
def ysyo (Y : zT yC 7) (N : Nat) : ySyn := fun F es P =>
  let P1 := P.filter fun t => es.all (yut F t)
  let P2 := ys2 F es Y N P P1 ++ P1
  (yfa F es [], ys3 F es Y N P2 ++ (ys1 F es Y N P P1 ++ P2))
theorem yif_ok {b : Bool} {t u : yQp} (h : u ∈ yif b t) : b = true ∧ u = t := by
  unfold yif at h
  cases b with
  | true => exact ⟨rfl, List.mem_singleton.mp h⟩
  | false => cases h
theorem yhp_get {P : yP} {k : Nat} (h : yhp P k = true) : ∃ t ∈ P, t.1 = k := by
  unfold yhp at h
  simp only [List.any_eq_true, zbe] at h
  exact h
theorem yh1_get {P : yP} {k a : Nat} (h : yh1 P k a = true) : ∃ t ∈ P, t.1 = k ∧ t.2.1 = a := by
  unfold yh1 at h
  simp only [List.any_eq_true, Bool.and_eq_true, zbe] at h
  exact h
theorem ysyo_ok {E : mEnv} {Y : zT yC 7} {K : List (Nat × yK)} {N : Nat} : ySy E Y K N (yPH gh) (ysyo Y N) := by
  intro r m0 m F es P hok
  obtain ⟨hF, hc, hT, hP⟩ := hok
  have hP1 : ∀ t ∈ P.filter (fun t => es.all (yut F t)), yPH gh r m t := fun t ht => by
    obtain ⟨h1, h2⟩ := List.mem_filter.mp ht
    exact yut_all hF hc h2 (hP t h1)
  have held : ∀ k a, (∃ t ∈ P, t.1 = k ∧ t.2.1 = a) → k ≠ 4 → k ≤ 6 → yPH gh r m0 (k, a, 0, zk 0) := by
    rintro k a ⟨t, ht, h1, h2⟩ n4 n7
    have := hP t ht
    unfold yPH at this ⊢
    rw [h1, h2] at this
    split at this
    · exact this
    · exact this
    · exact this
    · exact absurd rfl n4
    · exact this
    · exact this
    all_goals first | exact absurd n7 (by decide) | trivial
  have hP2 : ∀ t ∈ ys2 F es Y N P (P.filter fun t => es.all (yut F t)) ++ P.filter (fun t => es.all (yut F t)), yPH gh r m t := by
    intro t ht
    rcases List.mem_append.mp ht with ht | ht
    · unfold ys2 at ht
      cases c1 : yhp (P.filter fun t => es.all (yut F t)) 3 with
      | true => rw [c1] at ht; cases ht
      | false =>
        rw [c1] at ht
        simp only [cond_false] at ht
        cases c2 : (yhp P 3 && ycW F es Y N none) with
        | true =>
          rw [c2] at ht
          simp only [cond_true] at ht
          rcases List.mem_singleton.mp ht with rfl
          simp only [Bool.and_eq_true] at c2
          obtain ⟨u, hu, u1⟩ := yhp_get c2.1
          have h3 := hP u hu
          unfold yPH at h3
          rw [u1] at h3
          exact fun k hk => ycW_ok hF hc hT (fun k hk _ => h3 k hk) c2.2 k hk (fun y e => by cases e)
        | false =>
          rw [c2] at ht
          simp only [cond_false] at ht
          rcases List.mem_append.mp ht with ht | ht
          · split at ht
            · rename_i x ex
              obtain ⟨c3, rfl⟩ := yif_ok ht
              simp only [Bool.and_eq_true] at c3
              obtain ⟨u, hu, u1⟩ := yhp_get c3.1
              have h3 := hP u hu
              unfold yPH at h3
              rw [u1] at h3
              unfold ybx at ex
              split at ex
              · rename_i e ee
                obtain ⟨j, hj⟩ := ych_pl hc e (List.mem_of_find?_eq_some ee)
                obtain ⟨w, w1, -⟩ := yrx_ok hF hj ex
                refine ⟨w, w1, fun k hk hn => ycW_ok hF hc hT (fun k hk _ => h3 k hk) c3.2 k hk (fun y e => ?_)⟩
                cases e
                intro hz
                rw [w1] at hz
                exact hn (by simpa using hz.symm)
              · cases ex
            · cases ht
          · obtain ⟨t1, t2⟩ := List.mem_filter.mp ht
            simp only [Bool.and_eq_true, zbe] at t2
            have h3 := hP t t1
            unfold yPH at h3 ⊢
            rw [t2.1.1] at h3 ⊢
            obtain ⟨i, i1, i2⟩ := h3
            refine ⟨i, i1, fun k hk hn => ycW_ok hF hc hT (fun k hk hx => i2 k hk fun e => hx _ rfl (by rw [i1, e])) t2.2 k hk (fun y e => ?_)⟩
            cases e
            intro hz
            rw [i1] at hz
            exact hn (by simpa using hz.symm)
    · exact hP1 t ht
  refine ⟨yfa_ok hF hc (fun w hw => by cases hw) (fun p j _ => rfl), fun t ht => ?_⟩
  rcases List.mem_append.mp ht with ht | ht
  · unfold ys3 at ht
    cases c1 : yhp (ys2 F es Y N P (P.filter fun t => es.all (yut F t)) ++ P.filter fun t => es.all (yut F t)) 3 with
    | true => rw [c1] at ht; cases ht
    | false =>
      rw [c1] at ht
      obtain ⟨c2, rfl⟩ := yif_ok ht
      simp only [List.any_eq_true, Bool.and_eq_true, zbe] at c2
      obtain ⟨u, hu, u1, u2⟩ := c2
      have h4 := hP2 u hu
      unfold yPH at h4
      rw [u1] at h4
      obtain ⟨i, i1, i2⟩ := h4
      exact ycV_ok hF hc hT i1 i2 u2
  · rcases List.mem_append.mp ht with ht | ht
    · unfold ys1 at ht
      simp only [List.mem_append] at ht
      rcases ht with ((((((((ht | ht) | ht) | ht) | ht) | ht) | ht) | ht) | ht) | ht
      · obtain ⟨c, rfl⟩ := yif_ok ht
        simp only [Bool.and_eq_true] at c
        exact ycE_ok hF hc hT c.2 _
      · obtain ⟨c, rfl⟩ := yif_ok ht
        simp only [Bool.and_eq_true, Bool.or_eq_true] at c
        rcases c.2 with c | c
        · exact ycP_ok hF hc hT c.2 _ _
        · exact ycC_ok hF hP1 c.2 _ _
      · obtain ⟨c, rfl⟩ := yif_ok ht
        simp only [Bool.and_eq_true] at c
        exact ycC_ok hF hP1 c.2 _ _
      · obtain ⟨c, rfl⟩ := yif_ok ht
        simp only [Bool.and_eq_true] at c
        exact ycC_ok hF hP1 c.2 _ _
      · obtain ⟨u, hu, rfl⟩ := List.mem_map.mp ht
        obtain ⟨u1, u2⟩ := List.mem_filter.mp hu
        exact ycK_ok hF hc hT (hP u u1) u2
      · obtain ⟨c, rfl⟩ := yif_ok ht
        simp only [Bool.and_eq_true, Bool.or_eq_true] at c
        rcases c.2 with c | c
        · exact ycR_ok hF hc hT (held 2 4 (yh1_get c.1) (by decide) (by decide)) c.2
        · exact ycD_ok hP1 c
      · obtain ⟨c, rfl⟩ := yif_ok ht
        simp only [Bool.and_eq_true, Bool.or_eq_true] at c
        rcases c.2 with c | c
        · exact ycR_ok hF hc hT (held 2 34 (yh1_get c.1) (by decide) (by decide)) c.2
        · exact ycD_ok hP1 c
      · obtain ⟨c, rfl⟩ := yif_ok ht
        simp only [Bool.and_eq_true, Bool.or_eq_true] at c
        rcases c.2 with c | c
        · exact ycR_ok hF hc hT (held 2 67 (yh1_get c.1) (by decide) (by decide)) c.2
        · exact ycD_ok hP1 c
      · obtain ⟨c, rfl⟩ := yif_ok ht
        simp only [Bool.and_eq_true, Bool.or_eq_true] at c
        rcases c.2 with c | c
        · exact yc50_ok hF hc hT c _
        · obtain ⟨u, hu, u1⟩ := yhp_get c.1
          have h5 := hP u hu
          unfold yPH at h5
          rw [u1] at h5
          exact yc53_ok (v := zk 0) hF hc hT h5 c.2
      · obtain ⟨c, rfl⟩ := yif_ok ht
        simp only [Bool.and_eq_true] at c
        obtain ⟨u, hu, u1⟩ := yhp_get c.1.2
        have h5 := hP u hu
        unfold yPH at h5
        rw [u1] at h5
        exact yc53_ok (v := zk 0) hF hc hT h5 c.2
    · exact hP2 t ht

/-- the rows of numbers, below the SEGMENTS; what is cleared -/
def ysA (F : zF) (es : List yE) (Y : zT yC 7) (N : Nat) (P b : yP) : yP :=
  yif (!(yh1 b 9 77) && ((yh1 P 9 77 && yxS F es Y N 77) || ycC9 F b 77)) (9, 77, 0, zk 0) ++
  yif (!(yh1 b 9 78) && ((yh1 P 9 78 && yxS F es Y N 78) || ycC9 F b 78)) (9, 78, 0, zk 0) ++
  yif (!(yh1 b 9 79) && ((yh1 P 9 79 && yxS F es Y N 79) || ycC9 F b 79)) (9, 79, 0, zk 0) ++
  (yif (!(yh1 b 18 77) && ycC18 F b 77) (18, 77, 0, zk 0) ++ (yif (!(yh1 b 18 78) && ycC18 F b 78) (18, 78, 0, zk 0) ++ (yif (!(yh1 b 18 79) && ycC18 F b 79) (18, 79, 0, zk 0) ++
  (yif (!(yh1 b 19 77) && ycC19 F b 77) (19, 77, 0, zk 0) ++ (yif (!(yh1 b 19 78) && ycC19 F b 78) (19, 78, 0, zk 0) ++ (yif (!(yh1 b 19 79) && ycC19 F b 79) (19, 79, 0, zk 0) ++
  ((P.filter (ycL F es Y N)).map fun t => (10, t.2.1, 0, zsh t.2.2.2 1))))))))
def ysy (Y : zT yC 7) (N : Nat) : ySyn := fun F es P => match ysyo Y N F es P with
  | (a, b) => (a, ysA F es Y N P b ++ (P.filterMap (yRg F es Y N P) ++ b))
theorem ysy_ok {E : mEnv} {Y : zT yC 7} {K : List (Nat × yK)} {N : Nat} : ySy E Y K N (yPH gh) (ysy Y N) := by
  intro r m0 m F es P hok
  obtain ⟨h1, h2⟩ := ysyo_ok (gh := gh) r m0 m F es P hok
  obtain ⟨hF, hc, hT, hP⟩ := hok
  have held9 : ∀ X, yh1 P 9 X = true → yPH gh r m0 (9, X, 0, zk 0) := fun X h => by
    obtain ⟨t, ht, t1, t2⟩ := yh1_get h
    have := hP t ht
    unfold yPH at this ⊢
    rw [t1] at this
    simp only at this ⊢
    rw [← t2]
    exact this
  have one : ∀ X b, X < 1000 → (∀ t ∈ b, yPH gh r m t) → (!(yh1 b 9 X) && ((yh1 P 9 X && yxS F es Y N X) || ycC9 F b X)) = true → yPH gh r m (9, X, 0, zk 0) := fun X b hX hb h => by
    simp only [Bool.and_eq_true, Bool.or_eq_true] at h
    rcases h.2 with ⟨h3, h4⟩ | h3
    · exact yxS_ok hF hc hT hX (held9 X h3) h4
    · exact ycC9_ok hF hb h3
  unfold ysy
  generalize ysyo Y N F es P = q at h1 h2
  obtain ⟨a, b⟩ := q
  refine ⟨h1, fun t ht => ?_⟩
  simp only [List.mem_append] at ht
  rcases ht with ht | ht | ht
  · unfold ysA at ht
    simp only [List.mem_append] at ht
    rcases ht with ((ht | ht) | ht) | ht
    · obtain ⟨c, rfl⟩ := yif_ok ht
      exact one 77 b (by decide) h2 c
    · obtain ⟨c, rfl⟩ := yif_ok ht
      exact one 78 b (by decide) h2 c
    · obtain ⟨c, rfl⟩ := yif_ok ht
      exact one 79 b (by decide) h2 c
    · rcases ht with ht | ht | ht | ht | ht | ht | ht
      · obtain ⟨c, rfl⟩ := yif_ok ht
        simp only [Bool.and_eq_true] at c
        exact ycC18_ok hF h2 c.2
      · obtain ⟨c, rfl⟩ := yif_ok ht
        simp only [Bool.and_eq_true] at c
        exact ycC18_ok hF h2 c.2
      · obtain ⟨c, rfl⟩ := yif_ok ht
        simp only [Bool.and_eq_true] at c
        exact ycC18_ok hF h2 c.2
      · obtain ⟨c, rfl⟩ := yif_ok ht
        simp only [Bool.and_eq_true] at c
        exact ycC19_ok hF h2 c.2
      · obtain ⟨c, rfl⟩ := yif_ok ht
        simp only [Bool.and_eq_true] at c
        exact ycC19_ok hF h2 c.2
      · obtain ⟨c, rfl⟩ := yif_ok ht
        simp only [Bool.and_eq_true] at c
        exact ycC19_ok hF h2 c.2
      · obtain ⟨u, hu, rfl⟩ := List.mem_map.mp ht
        obtain ⟨u1, u2⟩ := List.mem_filter.mp hu
        exact ycL_ok hF hc hT (hP u u1) u2
  · obtain ⟨u, u1, u2⟩ := List.mem_filterMap.mp ht
    exact yRg_ok hF hc hT hP u1 u2
  · exact h2 t ht
end
