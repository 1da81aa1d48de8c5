/-! what always holds -/
def yALW : yP := [(6, 77, 0, (1, 0, 0)), (2, 34, 0, (1, 0, 0)), (2, 4, 0, (1, 0, 0)), (2, 67, 0, (1, 0, 0)), (9, 77, 0, (1, 0, 0)), (3, 0, 0, (1, 0, 0))]
theorem yi32 (x : Int32) : -2147483648 ≤ x.toInt ∧ x.toInt ≤ 2147483647 := by
  have h1 := Int32.le_toInt x
  have h2 := Int32.toInt_lt x
  omega
theorem yva_ge {K : List (Nat × yK)} {m : mMem} {p j : Nat} (hT : yTM yY K yNn m) (hj : (ztg 7 yY p).2.2.1 ≤ j) : yva m p j = none := by
  unfold yva
  cases hm : m[p]? with
  | none => rfl
  | some c =>
    obtain ⟨hs, -⟩ := hT.2.2 p c hm
    cases c with
    | inl x =>
      obtain ⟨t, n, g⟩ := x
      obtain ⟨-, -, h3⟩ := hs
      show (if j < n then some (g j) else none) = none
      rw [if_neg (by omega)]
    | inr x =>
      obtain ⟨ci, fs⟩ := x
      obtain ⟨-, -, h3⟩ := hs
      exact List.getElem?_eq_none (by omega)
/-! THE LAW: once round its loop; what is told at its places: cells that hold the same int -/
section
/-- .. and the pins are the same -/
def yALS : yP := (18, 77, 0, (1, 0, 0)) :: (19, 77, 0, (1, 0, 0)) :: yALW
/-- the script is read only, and so long as the symbol 2 says -/
def yroL : yQ := fun p => bif Nat.beq p 1000 then some (0, (1, 2, 0), ([(3072, 1, (-2147483648), 2147483647)], []), []) else yroT p
def yLm : List (Nat × Nat × Nat) := [(0, 0, 1000), (1, 0, 1000), (2, 0, 1000), (3, 0, 1000), (4, 0, 1000), (5, 0, 1000), (6, 0, 1000), (7, 0, 1000), (8, 0, 1000), (9, 0, 1000), (10, 0, 1000), (11, 0, 1000), (12, 0, 1000), (13, 0, 1000), (14, 0, 1000), (15, 0, 1000), (16, 0, 1000), (17, 0, 1000), (18, 0, 1000), (19, 0, 1000), (20, 0, 1000), (21, 0, 1000), (22, 0, 1000), (23, 0, 1000), (24, 0, 1000), (25, 0, 1000), (26, 0, 1000), (27, 0, 1000), (28, 0, 1000), (29, 0, 1000), (30, 0, 1000), (31, 0, 1000), (32, 0, 1000), (33, 0, 1000), (34, 0, 1000), (35, 0, 1000), (36, 0, 1000), (37, 0, 1000), (38, 0, 1000), (39, 0, 1000), (40, 0, 1000), (41, 0, 1000), (42, 0, 1000), (43, 0, 1000), (44, 0, 1000), (45, 0, 1000), (46, 0, 1000), (47, 0, 1000), (48, 0, 1000), (49, 0, 1000), (50, 0, 1000), (51, 0, 1000), (52, 0, 1000), (53, 0, 1000), (54, 0, 1000), (55, 0, 1000), (56, 0, 1000), (57, 0, 1000), (58, 0, 1000), (59, 0, 1000), (60, 0, 1000), (61, 0, 1000), (62, 0, 1000), (63, 0, 1000), (64, 0, 1000), (65, 0, 1000), (66, 0, 1000), (67, 0, 1000), (68, 0, 1000), (69, 0, 1000), (70, 0, 1000), (71, 0, 1000), (72, 0, 1000), (73, 0, 1000), (74, 0, 1000), (75, 0, 1000), (76, 0, 1000), (77, 0, 1000), (78, 0, 1000), (79, 0, 1000), (80, 0, 1000), (81, 0, 1000), (82, 0, 1000), (83, 0, 1000), (84, 0, 1000)]
def yLs (o : Int) : zL := [(0, (2, 1000, 0)), (1, (2, 0, 0)), (2, (2, 75, 0)), (3, (2, 84, 0)), (4, (1, 1, o))]
abbrev yTl : Type := List (List (Nat × Nat) × Int × Int)
def yTlR (S : yTl) (m : mMem) : Prop := ∀ c ∈ S, ∃ y : Int32, (∀ q ∈ c.1, yva m q.1 q.2 = some (.int y)) ∧ c.2.1 ≤ y.toInt ∧ y.toInt ≤ c.2.2
def yTlE : yTl → Nat → List yE
  | [], _ => []
  | c :: S, n => c.1.map (fun q => (q.1, (1, 0, (q.2 : Int)), (1, n, 0), 0)) ++ yTlE S (n + 1)
def yTlB : yTl → Nat → zB
  | [], _ => []
  | c :: S, n => (n, c.2.1, c.2.2) :: yTlB S (n + 1)
def yTlG (S : yTl) : Bool := S.all fun c => (match c.1 with
  | [] => false
  | _ => true) && c.1.all fun q => Nat.ble (Nat.succ q.1) 1000
theorem yTlB_m {e : Nat × Int × Int} : ∀ {S : yTl} {n : Nat}, e ∈ yTlB S n → ∃ k c, S[k]? = some c ∧ e = (n + k, c.2.1, c.2.2)
  | [], _, h => by cases h
  | c :: S, n, h => by
    rcases List.mem_cons.mp h with rfl | h
    · exact ⟨0, c, rfl, rfl⟩
    · obtain ⟨k, c9, h1, h2⟩ := yTlB_m h
      exact ⟨k + 1, c9, h1, by rw [h2, show n + 1 + k = n + (k + 1) from by omega]⟩
theorem yTlB_i {c : List (Nat × Nat) × Int × Int} : ∀ {S : yTl} {n k : Nat}, S[k]? = some c → (n + k, c.2.1, c.2.2) ∈ yTlB S n
  | [], _, _, h => by cases h
  | c0 :: S, n, 0, h => by cases h; exact List.mem_cons_self
  | c0 :: S, n, k + 1, h => by
    have := yTlB_i (n := n + 1) (show S[k]? = some c from h)
    rw [show n + (k + 1) = n + 1 + k from by omega]
    exact List.mem_cons_of_mem _ this
theorem yTlE_m {e : yE} : ∀ {S : yTl} {n : Nat}, e ∈ yTlE S n → ∃ k c q, S[k]? = some c ∧ q ∈ c.1 ∧ e = (q.1, (1, 0, (q.2 : Int)), (1, n + k, 0), 0)
  | [], _, h => by cases h
  | c :: S, n, h => by
    rcases List.mem_append.mp h with h | h
    · obtain ⟨q, q1, rfl⟩ := List.mem_map.mp h
      exact ⟨0, c, q, rfl, q1, rfl⟩
    · obtain ⟨k, c9, q, h1, h2, h3⟩ := yTlE_m h
      exact ⟨k + 1, c9, q, h1, h2, by rw [h3, show n + 1 + k = n + (k + 1) from by omega]⟩
theorem yTlE_i {c : List (Nat × Nat) × Int × Int} {q : Nat × Nat} (hq : q ∈ c.1) : ∀ {S : yTl} {n k : Nat}, S[k]? = some c → ((q.1, (1, 0, (q.2 : Int)), (1, n + k, 0), 0) : yE) ∈ yTlE S n
  | [], _, _, h => by cases h
  | c0 :: S, n, 0, h => by cases h; exact List.mem_append_left _ (List.mem_map_of_mem (f := fun q : Nat × Nat => ((q.1, (1, 0, (q.2 : Int)), (1, n, 0), 0) : yE)) hq)
  | c0 :: S, n, k + 1, h => by
    have := yTlE_i hq (n := n + 1) (show S[k]? = some c from h)
    rw [show n + (k + 1) = n + 1 + k from by omega]
    exact List.mem_append_right _ this
/-- the values of what is told -/
theorem yTl_v {m : mMem} : ∀ {S : yTl}, yTlR S m → ∃ ys : List Int, ys.length = S.length ∧ ∀ (k : Nat) (c : List (Nat × Nat) × Int × Int), S[k]? = some c → ∃ y : Int32, ys[k]? = some y.toInt ∧ (∀ q ∈ c.1, yva m q.1 q.2 = some (.int y)) ∧ c.2.1 ≤ y.toInt ∧ y.toInt ≤ c.2.2
  | [], _ => ⟨[], rfl, fun k c h => by cases h⟩
  | c0 :: S, h => by
    obtain ⟨ys, h1, h2⟩ := yTl_v (S := S) fun c hc => h c (List.mem_cons_of_mem _ hc)
    obtain ⟨y, y1, y2⟩ := h c0 List.mem_cons_self
    refine ⟨y.toInt :: ys, by rw [List.length_cons, List.length_cons, h1], fun k c hk => ?_⟩
    cases k with
    | zero => cases hk; exact ⟨y, rfl, y1, y2⟩
    | succ k => exact h2 k c hk
def yTlF (S : yTl) (D : List (Nat × Nat × Int)) : zF := (3 + S.length, (1, 0, 3072) :: (2, 0, 3072) :: yTlB S 3, D, [])
/-- an arrival -/
def yGar (E : List yE) (P : yP) (F : zF) (src : List ySr) (o : Int) (dc : Nat) (s : yS) : Bool := s.2.2.1.isEmpty && Nat.ble s.2.2.2.2.2.2 dc && (match ygm yY yKk yNn (ysy yY yNn) 3 s.2.1 (0, 0, 0) s.2.2.2.1 s.2.2.2.2.1 s.2.2.2.2.2.1 src F E P with
  | some (th, F1) => (yLs o).all (yaf F1 s.2.1 F.1 th)
  | none => false)
def yGrn (T : List yKq) (ht : List (Nat × Nat × yHt)) (il : List Nat) (stop : Nat → Nat → Bool) (pc : Nat) (F : zF) (E : List yE) (P : yP) : Option (List (yU ⊕ yS)) :=
  yrn yE0 F.1 yroL yY yKk yNn yLm (yktc F.1 yY yKk yNn yLm T) (yhk yY yKk yNn (yht ht) [] []) (yprm yroL yY yKk yNn yLm) (yin9 il 172 55) 100000 1000 stop 300 zm_300 zm_300.2.2.2.2.1 true pc (yLs 0) [] F E P 0
def yLR (L : Nat) (r : List Int) : Prop := r[0]? = some 0 ∧ r[2]? = some (L : Int)
def yFL (f : Nat → Option (Nat × Nat × (Nat → Value))) (L : Nat) : Prop := L ≤ 3072 ∧ ∃ g, f 1000 = some (0, L, g) ∧ ∀ j, j < L → ∃ x : Int32, g j = .int x
def yGI (S : yTl) (P : yP) (i : Int) (ls : mLs) (m : mMem) : Prop := mld ls 0 = some (.ref 1000) ∧ mld ls 1 = some (.ref 0) ∧ mld ls 2 = some (.ref 75) ∧ mld ls 3 = some (.ref 84) ∧ (∃ x : Int32, mld ls 4 = some (.int x) ∧ x.toInt = i) ∧
  yTM yY yKk yNn m ∧ (∀ t ∈ P, yPH (0, 0) [0] m t) ∧ yTlR S m
theorem yrm1 {v : Value} {x : Int32} {l h : Int} (e : v = .int x) (h1 : l ≤ x.toInt) (h2 : x.toInt ≤ h) : yrm v 1 l h := ⟨x, e, h1, h2⟩
theorem yroL_ok {f : Nat → Option (Nat × Nat × (Nat → Value))} (hf : yFf f) {L : Nat} (hL : yFL f L) : ∀ r, yLR L r → yRo (yEx f) r yroL := by
  intro r hr p t nv k es e
  unfold yroL at e
  cases c : Nat.beq p 1000 with
  | false => rw [c] at e; exact hf r hr.1 p t nv k es e
  | true =>
    rw [c] at e
    cases e
    obtain ⟨h1, g, h2, h3⟩ := hL
    rw [zbe.mp c]
    refine ⟨Nat.le_refl _, L, g, h2, by omega, by omega, rfl, zd_some.mpr ⟨_, hr.2, by simp⟩, fun j hj => ?_, fun m => rfl⟩
    obtain ⟨x, hx⟩ := h3 j hj
    refine ⟨⟨(1, -2147483648, 2147483647), ?_, yrm1 hx (yi32 x).1 (yi32 x).2⟩, fun p hp => by cases hp⟩
    have : Nat.ble (Nat.succ j) 3072 = true := by rw [Nat.ble_eq]; omega
    simp only [zba, this, cond_true]
theorem yGar_ok {f : Nat → Option (Nat × Nat × (Nat → Value))} {S : yTl} {D : List (Nat × Nat × Int)} {P : yP} (hP : P.all ygfr = true) (hS : yTlG S = true) {src : List ySr} {o : Int} {dc L : Nat} {s : yS} {i : Int} {r' : List Int} {m1 m' : mMem} {ls' : mLs} {st' : List Value} (h : yGar (yTlE S 3) P (yTlF S D) src o dc s = true)
    (hx : zX [0, i, (L : Int)] r') (hok : yOk (yEx f) yY yKk yNn (yPH (0, 0)) r' m1 m' s.2.2.2.1 s.2.2.2.2.1 s.2.2.2.2.2.1) (hl : zls r' ls' s.2.1) (hst : zlm r' st' s.2.2.1) :
    st' = [] ∧ s.2.2.2.2.2.2 ≤ dc ∧ yGI S P (i + o) ls' m' ∧ ∀ e ∈ D, e.1 < 3 → e.2.1 < 3 → yde [0, i, (L : Int)] e := by
  unfold yGar at h
  simp only [Bool.and_eq_true, Nat.ble_eq] at h
  obtain ⟨⟨p1, p2⟩, p3⟩ := h
  have hst0 : st' = [] := by
    rw [List.isEmpty_iff.mp p1] at hst
    cases st' with
    | nil => rfl
    | cons _ _ => exact hst.elim
  split at p3
  · rename_i th F1 eg
    obtain ⟨r1, θ, g1, g2, g3, g4, g5, g6, g7, g8⟩ := ygm_ok (PH := yPH (0, 0)) (rv := (0, 0, 0)) (fun r r' m t hx hp => yPH_X hx hp) (fun r r' m t u h1 h2 h3 => yPH_q h1 h2 h3) (fun r r' m t u h1 h2 h3 => yPH_v h1 h2 h3) ysy_ok hok hl (v := .int 0) trivial hx rfl eg
    have hMv := yMv_of g4.1 g7 g8
    obtain ⟨t, ht⟩ := g3
    have lo : ∀ k, k < 3 → θ[k]? = ([0, i, (L : Int)] : List Int)[k]? := fun k hk => by rw [ht, List.getElem?_append_left (by simpa using hk)]
    have θ0 : θ[0]? = some 0 := lo 0 (by omega)
    have θ1 : θ[1]? = some i := lo 1 (by omega)
    rw [List.all_eq_true] at p3
    have hzl : zls θ ls' (yLs o) := by
      intro j a e
      have := p3 (j, a) (zld_mem e)
      unfold yaf at this
      split at this
      · rename_i b eb
        obtain ⟨v, v1, v2⟩ := hl j b eb
        refine ⟨v, v1, ?_⟩
        simp only [Bool.or_eq_true, Bool.and_eq_true, Nat.ble_eq] at this
        rcases this with (⟨⟨⟨b1, b2⟩, b3⟩, b4⟩ | ⟨⟨b1, b2⟩, b3⟩) | ⟨b1, b2⟩
        · obtain ⟨x, rfl, hx9⟩ := zvm_i v2 b2
          obtain ⟨y, y1, y2⟩ := ymv_rev hMv g4.1 (Or.inl (zbe.mp b1)) (show a.2.1 < (yTlF S D).1 from by omega)
          have hx8 := g1.den hx9
          have y3 : zd r1 b = some y := by rw [zve_d b4]; exact y2
          rw [y3] at hx8
          cases hx8
          exact zvm_int (zbe.mp b1) y1
        · unfold zvm
          rw [zbe.mp b1]
          show v = .ref a.2.1
          rw [zvm_r v2 b2, zbe.mp b3]
        · obtain ⟨x, rfl⟩ := zvm_l v2 (by rw [Nat.ble_eq]; exact b2)
          unfold zvm
          rw [zbe.mp b1]
          exact ⟨x, rfl⟩
      · cases this
    have rf : ∀ (k p : Nat), zld (yLs o) k = some (2, p, 0) → mld ls' k = some (.ref p) := fun k p e => by
      obtain ⟨v, v1, v2⟩ := hzl k _ e
      rw [v1, zvm_r v2 rfl]
    refine ⟨hst0, p2, ⟨rf 0 1000 rfl, rf 1 0 rfl, rf 2 75 rfl, rf 3 84 rfl, ?_, hok.2.2.1, yPH_gs (P := P) hP g6, ?_⟩, ?_⟩
    · obtain ⟨v, v1, v2⟩ := hzl 4 (1, 1, o) rfl
      obtain ⟨x, rfl, hx9⟩ := zvm_i v2 rfl
      obtain ⟨u, u1, u2⟩ := zd_some.mp hx9
      have u1 : θ[1]? = some u := u1
      rw [θ1] at u1
      cases u1
      exact ⟨x, v1, u2⟩
    · intro c hc
      obtain ⟨k, hk⟩ := List.getElem?_of_mem hc
      have hg := List.all_eq_true.mp hS c hc
      simp only [Bool.and_eq_true] at hg
      obtain ⟨gn, gp⟩ := hg
      obtain ⟨v, v1, v2, v3⟩ := g4.2.2.1 (3 + k, c.2.1, c.2.2) (List.mem_cons_of_mem _ (List.mem_cons_of_mem _ (yTlB_i hk)))
      dsimp only at v1 v2 v3
      have val : ∀ q ∈ c.1, ∃ y : Int32, yva m' q.1 q.2 = some (.int y) ∧ y.toInt = v := fun q hq => by
        obtain ⟨-, a, w, a1, a2, a3⟩ := g5 _ (yTlE_i hq (n := 3) hk)
        obtain ⟨y, rfl, hy⟩ := zvm_i a3 rfl
        obtain ⟨u, u1, u2⟩ := zd_some.mp a1
        have u1 : θ[0]? = some u := u1
        rw [θ0] at u1
        cases u1
        have ea : a = q.2 := by dsimp only at u2; omega
        subst ea
        obtain ⟨z, z1, z2⟩ := zd_some.mp hy
        have z1 : θ[3 + k]? = some z := z1
        rw [v1] at z1
        cases z1
        have hp9 := List.all_eq_true.mp gp q hq
        rw [Nat.ble_eq] at hp9
        unfold yvx at a2
        rw [if_pos (show q.1 < 1000 from hp9)] at a2
        exact ⟨y, a2, by dsimp only at z2; omega⟩
      cases e : c.1 with
      | nil => rw [e] at gn; cases gn
      | cons q0 qs =>
        obtain ⟨y, y1, y2⟩ := val q0 (by rw [e]; exact List.mem_cons_self)
        refine ⟨y, fun q hq => ?_, by omega, by omega⟩
        obtain ⟨z, z1, z2⟩ := val q (by rw [e]; exact hq)
        rw [z1, Int32.toInt_inj.mp (show z.toInt = y.toInt by omega)]
    · intro e he h1 h2
      obtain ⟨u, v, e1, e2, e3⟩ := g4.2.2.2.1 e he
      exact ⟨u, v, by rw [← lo _ h1]; exact e1, by rw [← lo _ h2]; exact e2, e3⟩
  · cases p3
theorem yGrn_ok {f : Nat → Option (Nat × Nat × (Nat → Value))} (hf : yFf f) {L : Nat} (hL : yFL f L) {T : List yKq} (hT : yAl9 f yKk T) {ht : List (Nat × Nat × yHt)} {il : List Nat} {stop : Nat → Nat → Bool} {pc : Nat} {S : yTl} (hS : yTlG S = true) {D : List (Nat × Nat × Int)} {Pp : yP} (hPp : Pp.all ygfr = true) {Lo : List (yU ⊕ yS)}
    (h : yGrn T ht il stop pc (yTlF S D) (yTlE S 3) Pp = some Lo) {i : Int} (hi0 : 0 ≤ i) (hi1 : i ≤ 3072) (hD : ∀ e ∈ D, yde [0, i, (L : Int)] e) {ls : mLs} {m : mMem} {nc ns : Nat} {P : mRes → Prop} (hI : yGI S Pp i ls m)
    (hE : ∀ o, .inl o ∈ Lo → ∀ r' m1 res, zX [0, i, (L : Int)] r' → yuo (yEx f) yY yKk yNn (yPH (0, 0)) nc ns r' m1 o res → P res)
    (hA : ∀ s, .inr s ∈ Lo → ∀ r' m1 ls' st' m' nc' ns', zX [0, i, (L : Int)] r' → yOk (yEx f) yY yKk yNn (yPH (0, 0)) r' m1 m' s.2.2.2.1 s.2.2.2.2.1 s.2.2.2.2.2.1 → zls r' ls' s.2.1 → zlm r' st' s.2.2.1 → nc' ≤ nc + s.2.2.2.2.2.2 → ns' ≤ ns + 6 * s.2.2.2.2.2.2 → mGd (yEx f) P 1000 300 s.1 ls' st' m' nc' ns') :
    mGd (yEx f) P 1000 300 pc ls [] m nc ns := by
  obtain ⟨i0, i1, i2, i3, ⟨x, i4, i5⟩, i6, i7, i8⟩ := hI
  unfold yGrn at h
  have hL1 := hL.1
  obtain ⟨ys, ys1, ys2⟩ := yTl_v i8
  have hr0 : ∀ k : Nat, ([0, i, (L : Int)] ++ ys)[3 + k]? = ys[k]? := fun k => by
    rw [List.getElem?_append_right (by simp)]
    simp
  have hx0 : zX [0, i, (L : Int)] ([0, i, (L : Int)] ++ ys) := ⟨ys, rfl⟩
  have hF : zFok ([0, i, (L : Int)] ++ ys) (yTlF S D) := by
    refine ⟨by rw [List.length_append, ys1]; rfl, rfl, fun e he => ?_, fun e he => ?_, fun e he => (by cases he)⟩
    · rcases List.mem_cons.mp he with rfl | he
      · exact ⟨i, rfl, hi0, hi1⟩
      · rcases List.mem_cons.mp he with rfl | he
        · exact ⟨(L : Int), rfl, by dsimp only; omega, by dsimp only; omega⟩
        · obtain ⟨k, c, h1, rfl⟩ := yTlB_m he
          obtain ⟨y, y1, -, y2, y3⟩ := ys2 k c h1
          exact ⟨y.toInt, by dsimp only; rw [hr0]; exact y1, y2, y3⟩
    · obtain ⟨u, v, e1, e2, e3⟩ := hD e he
      exact ⟨u, v, hx0.get e1, hx0.get e2, e3⟩
  have e9 : ∀ k0, yrn (yEx f) k0 yroL yY yKk yNn yLm (yktc k0 yY yKk yNn yLm T) (yhk yY yKk yNn (yht ht) [] []) (yprm yroL yY yKk yNn yLm) (yin9 il 172 55) 100000 = yrn yE0 k0 yroL yY yKk yNn yLm (yktc k0 yY yKk yNn yLm T) (yhk yY yKk yNn (yht ht) [] []) (yprm yroL yY yKk yNn yLm) (yin9 il 172 55) 100000 := fun k0 => yrn_env 100000
  rw [← e9] at h
  have hk9 := yhk_ok (gh := (0, 0)) (E := yEx f) (Y := yY) (K := yKk) (N := yNn) (RI := yLR L) (ht := yht ht) (dl := []) (fun r _ q hq => by cases hq) []
  have hzl : zls ([0, i, (L : Int)] ++ ys) ls (yLs 0) := by
    intro j a e
    have := zld_mem e
    simp only [yLs, List.mem_cons, Prod.mk.injEq, List.not_mem_nil, or_false] at this
    rcases this with ⟨rfl, rfl⟩ | ⟨rfl, rfl⟩ | ⟨rfl, rfl⟩ | ⟨rfl, rfl⟩ | ⟨rfl, rfl⟩
    · exact ⟨_, i0, rfl⟩
    · exact ⟨_, i1, rfl⟩
    · exact ⟨_, i2, rfl⟩
    · exact ⟨_, i3, rfl⟩
    · exact ⟨_, i4, zvm_int rfl (zd_some.mpr ⟨i, rfl, by simp [i5]⟩)⟩
  have hfa : yFa (yEx f) ([0, i, (L : Int)] ++ ys) m (yTlE S 3) := by
    intro e he
    obtain ⟨k, c, q, h1, h2, rfl⟩ := yTlE_m he
    obtain ⟨y, y1, y2, -⟩ := ys2 k c h1
    have hg := List.all_eq_true.mp hS c (List.mem_of_getElem? h1)
    simp only [Bool.and_eq_true] at hg
    have hp9 := List.all_eq_true.mp hg.2 q h2
    rw [Nat.ble_eq] at hp9
    refine ⟨rfl, q.2, .int y, zd_some.mpr ⟨0, rfl, by simp⟩, ?_, zvm_int rfl (zd_some.mpr ⟨y.toInt, by dsimp only; rw [hr0]; exact y1, by simp⟩)⟩
    unfold yvx
    rw [if_pos (show q.1 < 1000 from hp9)]
    exact y2 q h2
  have hok : yOk (yEx f) yY yKk yNn (yPH (0, 0)) ([0, i, (L : Int)] ++ ys) m m (yTlF S D) (yTlE S 3) Pp := ⟨hF, hfa.ch, i6, yPH_gs (P := Pp) hPp i7⟩
  have h9 := yrn_ok (E := yEx f) (PH := yPH (0, 0)) (RI := yLR L) (kx := 0) (fun r r' m t hx hp => yPH_X hx hp) (yroL_ok hf hL) (fun r r' hx hr => ⟨hx.get hr.1, hx.get hr.2⟩)
    (yktc_ok (k0 := (yTlF S D).1) (mods := yLm) (T := T) fun q hq => ⟨yQd q.2.2.2, by rw [Nat.zero_add]; exact yAl9_ok hT q hq (0, 0), fun r r1 θ F1 th _ _ hF1 hg hθ => yge2_ok hF1 (by simp only [Bool.and_eq_true] at hg; exact hg.2) hθ⟩)
    (fun mi pc als ast F es P Lo e r ls st m0 mem hr => hk9 mi pc als ast F es P Lo e r ls st m0 mem ⟨hr, fun p hp => by cases hp⟩)
    (yprm_ok (yroL_ok hf hL) yLm) (fun mi M hM => zmt_sr9 hM) m nc ns _ _ _ _ _ _ _ _ _ _ _ _ _ _ _ h rfl ⟨[], rfl⟩ ([0, i, (L : Int)] ++ ys) ls [] m m nc ns P ⟨rfl, rfl⟩ hok yFr.rf hzl trivial (Nat.le_add_right _ _) (Nat.le_add_right _ _)
    (fun o ho r' m1 res hx hu _ => hE o ho r' m1 res (hx0.tr hx) hu)
    (fun s hs r' m1 ls' st' m' nc' ns' hx hok _ hl hst hnc hns => by rw [Nat.zero_add]; exact hA s hs r' m1 ls' st' m' nc' ns' (hx0.tr hx) hok hl hst hnc hns)
  rw [Nat.zero_add] at h9
  exact h9
/-- what is told at the loop's head -/
def yS0 : yTl := [([(75, 21)], 0, 0), ([(1, 14), (75, 5)], 1, 8), ([(1, 15), (75, 6)], 1, 7), ([(1, 16), (75, 7)], 1, 8)]
def yE0f : List yE := [(75, (1, 0, 21), (1, 3, 0), 0), (1, (1, 0, 14), (1, 4, 0), 0), (75, (1, 0, 5), (1, 4, 0), 0), (1, (1, 0, 15), (1, 5, 0), 0), (75, (1, 0, 6), (1, 5, 0), 0), (1, (1, 0, 16), (1, 6, 0), 0), (75, (1, 0, 7), (1, 6, 0), 0)]
def yF0h : zF := (7, [(1, 0, 3072), (2, 0, 3072), (3, 0, 0), (4, 1, 8), (5, 1, 7), (6, 1, 8)], [], [])
def yF0k : zF := (7, [(1, 0, 3072), (2, 0, 3072), (3, 0, 0), (4, 1, 8), (5, 1, 7), (6, 1, 8)], [(1, 2, 6)], [])
def yR0 : List ySr := [(1, 75, 21), (1, 1, 14), (1, 1, 15), (1, 1, 16)]
theorem yE0_eq : yE0f = yTlE yS0 3 := rfl
theorem yF0h_eq : yF0h = yTlF yS0 [] := rfl
theorem yF0k_eq : yF0k = yTlF yS0 [(1, 2, 6)] := rfl
theorem yS0_g : yTlG yS0 = true := by decide
theorem yALS_g : yALS.all ygfr = true := by decide
theorem yALW_g : yALW.all ygfr = true := by decide
abbrev yLI (i : Int) (ls : mLs) (m : mMem) : Prop := yGI yS0 yALS i ls m
/-- .. and the pins -/
def yS1 : yTl := [([(75, 21)], 0, 0), ([(1, 14), (75, 5)], 1, 8), ([(1, 15), (75, 6)], 1, 7), ([(1, 16), (75, 7)], 1, 8), ([(12, 0), (77, 85)], (-1), 7), ([(12, 1), (77, 92)], (-1), 7), ([(12, 2), (77, 99)], (-1), 7), ([(12, 3), (77, 106)], (-1), 7), ([(12, 4), (77, 113)], (-1), 7), ([(12, 5), (77, 120)], (-1), 7), ([(12, 6), (77, 127)], (-1), 7), ([(12, 7), (77, 134)], (-1), 7)]
def yE1f : List yE := [(75, (1, 0, 21), (1, 3, 0), 0), (1, (1, 0, 14), (1, 4, 0), 0), (75, (1, 0, 5), (1, 4, 0), 0), (1, (1, 0, 15), (1, 5, 0), 0), (75, (1, 0, 6), (1, 5, 0), 0), (1, (1, 0, 16), (1, 6, 0), 0), (75, (1, 0, 7), (1, 6, 0), 0), (12, (1, 0, 0), (1, 7, 0), 0), (77, (1, 0, 85), (1, 7, 0), 0), (12, (1, 0, 1), (1, 8, 0), 0), (77, (1, 0, 92), (1, 8, 0), 0), (12, (1, 0, 2), (1, 9, 0), 0), (77, (1, 0, 99), (1, 9, 0), 0), (12, (1, 0, 3), (1, 10, 0), 0), (77, (1, 0, 106), (1, 10, 0), 0), (12, (1, 0, 4), (1, 11, 0), 0), (77, (1, 0, 113), (1, 11, 0), 0), (12, (1, 0, 5), (1, 12, 0), 0), (77, (1, 0, 120), (1, 12, 0), 0), (12, (1, 0, 6), (1, 13, 0), 0), (77, (1, 0, 127), (1, 13, 0), 0), (12, (1, 0, 7), (1, 14, 0), 0), (77, (1, 0, 134), (1, 14, 0), 0)]
def yF1k : zF := (15, [(1, 0, 3072), (2, 0, 3072), (3, 0, 0), (4, 1, 8), (5, 1, 7), (6, 1, 8), (7, (-1), 7), (8, (-1), 7), (9, (-1), 7), (10, (-1), 7), (11, (-1), 7), (12, (-1), 7), (13, (-1), 7), (14, (-1), 7)], [(1, 2, 6)], [])
def yR1 : List ySr := [(1, 75, 21), (1, 1, 14), (1, 1, 15), (1, 1, 16), (1, 12, 0), (1, 12, 1), (1, 12, 2), (1, 12, 3), (1, 12, 4), (1, 12, 5), (1, 12, 6), (1, 12, 7)]
theorem yE1_eq : yE1f = yTlE yS1 3 := rfl
theorem yF1k_eq : yF1k = yTlF yS1 [(1, 2, 6)] := rfl
theorem yS1_g : yTlG yS1 = true := by decide
/-- .. all of them new -/
def yS2 : yTl := [([(75, 21)], 0, 0), ([(1, 14), (75, 5)], 1, 8), ([(1, 15), (75, 6)], 1, 7), ([(1, 16), (75, 7)], 1, 8), ([(12, 0)], (-1), (-1)), ([(12, 1)], (-1), (-1)), ([(12, 2)], (-1), (-1)), ([(12, 3)], (-1), (-1)), ([(12, 4)], (-1), (-1)), ([(12, 5)], (-1), (-1)), ([(12, 6)], (-1), (-1)), ([(12, 7)], (-1), (-1)), ([(77, 85)], (-1), (-1)), ([(77, 92)], (-1), (-1)), ([(77, 99)], (-1), (-1)), ([(77, 106)], (-1), (-1)), ([(77, 113)], (-1), (-1)), ([(77, 120)], (-1), (-1)), ([(77, 127)], (-1), (-1)), ([(77, 134)], (-1), (-1))]
def yE2f : List yE := [(75, (1, 0, 21), (1, 3, 0), 0), (1, (1, 0, 14), (1, 4, 0), 0), (75, (1, 0, 5), (1, 4, 0), 0), (1, (1, 0, 15), (1, 5, 0), 0), (75, (1, 0, 6), (1, 5, 0), 0), (1, (1, 0, 16), (1, 6, 0), 0), (75, (1, 0, 7), (1, 6, 0), 0), (12, (1, 0, 0), (1, 7, 0), 0), (12, (1, 0, 1), (1, 8, 0), 0), (12, (1, 0, 2), (1, 9, 0), 0), (12, (1, 0, 3), (1, 10, 0), 0), (12, (1, 0, 4), (1, 11, 0), 0), (12, (1, 0, 5), (1, 12, 0), 0), (12, (1, 0, 6), (1, 13, 0), 0), (12, (1, 0, 7), (1, 14, 0), 0), (77, (1, 0, 85), (1, 15, 0), 0), (77, (1, 0, 92), (1, 16, 0), 0), (77, (1, 0, 99), (1, 17, 0), 0), (77, (1, 0, 106), (1, 18, 0), 0), (77, (1, 0, 113), (1, 19, 0), 0), (77, (1, 0, 120), (1, 20, 0), 0), (77, (1, 0, 127), (1, 21, 0), 0), (77, (1, 0, 134), (1, 22, 0), 0)]
def yF2k : zF := (23, [(1, 0, 3072), (2, 0, 3072), (3, 0, 0), (4, 1, 8), (5, 1, 7), (6, 1, 8), (7, (-1), (-1)), (8, (-1), (-1)), (9, (-1), (-1)), (10, (-1), (-1)), (11, (-1), (-1)), (12, (-1), (-1)), (13, (-1), (-1)), (14, (-1), (-1)), (15, (-1), (-1)), (16, (-1), (-1)), (17, (-1), (-1)), (18, (-1), (-1)), (19, (-1), (-1)), (20, (-1), (-1)), (21, (-1), (-1)), (22, (-1), (-1))], [(1, 2, 6)], [])
def yR2 : List ySr := [(1, 75, 21), (1, 1, 14), (1, 1, 15), (1, 1, 16), (1, 12, 0), (1, 12, 1), (1, 12, 2), (1, 12, 3), (1, 12, 4), (1, 12, 5), (1, 12, 6), (1, 12, 7), (1, 77, 85), (1, 77, 92), (1, 77, 99), (1, 77, 106), (1, 77, 113), (1, 77, 120), (1, 77, 127), (1, 77, 134)]
theorem yE2_eq : yE2f = yTlE yS2 3 := rfl
theorem yF2k_eq : yF2k = yTlF yS2 [(1, 2, 6)] := rfl
theorem yS2_g : yTlG yS2 = true := by decide
/-- the settings alone, of the preds -/
def yALT : yP := (18, 77, 0, (1, 0, 0)) :: yALW
theorem yALT_g : yALT.all ygfr = true := by decide
/-- a call of one kind: from its place to the loop's head -/
def yLck (T : List yKq) (il : List Nat) (pc : Nat) : Bool := match yGrn T [] il (fun _ p => Nat.beq p 23) pc yF0k yE0f yALS with
  | some L => L.all fun o => match o with
    | .inr s => Nat.beq s.1 23 && yGar yE0f yALS yF0k yR0 6 1 s
    | .inl _ => false
  | none => false
/-- the loop's head: to the kinds' places, or to the end -/
def yLhd (ps : List Nat) : Bool := match yGrn [] [] [] (fun pc _ => Nat.beq pc 40) 23 yF0h yE0f yALS with
  | some L => L.all fun o => match o with
    | .inr s => ps.any (Nat.beq s.1) && yGar yE0f yALS yF0k yR0 0 0 s
    | .inl u => Nat.beq u.1 1 && Nat.beq u.2.1.1 1 && zve u.2.1 (zk 1) && Nat.ble u.2.2.2.2.2 0
  | none => false
/-- pin, unpin: the pins told one by one -/
def yLcp (T : List yKq) (ht : List (Nat × Nat × yHt)) (il : List Nat) (pc : Nat) : Bool := match yGrn T ht il (fun _ p => Nat.beq p 23) pc yF1k yE1f yALT with
  | some L => L.all fun o => match o with
    | .inr s => Nat.beq s.1 23 && yGar yE1f yALT yF1k yR1 6 1 s
    | .inl _ => false
  | none => false
/-- shape: all pins are new, or as they were -/
def yLcs (T : List yKq) (il : List Nat) (pc : Nat) : Bool := match yGrn T [] il (fun _ p => Nat.beq p 23) pc yF0k yE0f yALS with
  | some L => L.all fun o => match o with
    | .inr s => Nat.beq s.1 23 && (yGar yE0f yALS yF0k yR0 6 1 s || yGar yE2f yALT yF2k yR2 6 1 s)
    | .inl _ => false
  | none => false
/-- a call of a kind, whatever its proof -/
def yLKs (f : Nat → Option (Nat × Nat × (Nat → Value))) (L pc : Nat) : Prop := ∀ {i : Int}, 0 ≤ i → i ≤ 3072 → i + 6 ≤ (L : Int) → ∀ {ls : mLs} {m : mMem} {nc ns : Nat} {P : mRes → Prop}, yLI i ls m →
  (∀ ls' m' nc' ns', yLI (i + 6) ls' m' → nc' ≤ nc + 1 → ns' ≤ ns + 6 → mGd (yEx f) P 1000 300 23 ls' [] m' nc' ns') → mGd (yEx f) P 1000 300 pc ls [] m nc ns
theorem yD6 {i : Int} {L : Nat} (h : i + 6 ≤ (L : Int)) : ∀ e ∈ ([(1, 2, 6)] : List (Nat × Nat × Int)), yde [0, i, (L : Int)] e := fun e he => by
  rcases List.mem_singleton.mp he with rfl
  exact ⟨i, (L : Int), rfl, rfl, h⟩
theorem yLK_of {f : Nat → Option (Nat × Nat × (Nat → Value))} (hf : yFf f) {L : Nat} (hL : yFL f L) {T : List yKq} (hT : yAl9 f yKk T) {il : List Nat} {pc : Nat} (h : yLck T il pc = true) : yLKs f L pc := by
  intro i hi0 hi1 hi6 ls m nc ns P hI k
  unfold yLck at h
  rw [yF0k_eq, yE0_eq] at h
  split at h
  · rename_i Lo e
    rw [List.all_eq_true] at h
    refine yGrn_ok hf hL hT yS0_g yALS_g e hi0 hi1 (yD6 hi6) hI (fun o ho => absurd (h _ ho) (by simp)) (fun s hs r' m1 ls' st' m' nc' ns' hx hok hl hst hnc hns => ?_)
    have := h _ hs
    simp only [Bool.and_eq_true] at this
    obtain ⟨a1, a2⟩ := this
    obtain ⟨b1, b2, b3, -⟩ := yGar_ok yALS_g yS0_g a2 hx hok hl hst
    subst b1
    rw [zbe.mp a1]
    exact k ls' m' nc' ns' b3 (by omega) (by omega)
  · cases h
theorem yTlR_app {S S' : yTl} {m : mMem} : yTlR (S ++ S') m ↔ yTlR S m ∧ yTlR S' m :=
  ⟨fun h => ⟨fun c hc => h c (List.mem_append_left _ hc), fun c hc => h c (List.mem_append_right _ hc)⟩, fun h c hc => (List.mem_append.mp hc).elim (h.1 c) (h.2 c)⟩

def yPn : yTl := [([(12, 0), (77, 85)], (-1), 7), ([(12, 1), (77, 92)], (-1), 7), ([(12, 2), (77, 99)], (-1), 7), ([(12, 3), (77, 106)], (-1), 7), ([(12, 4), (77, 113)], (-1), 7), ([(12, 5), (77, 120)], (-1), 7), ([(12, 6), (77, 127)], (-1), 7), ([(12, 7), (77, 134)], (-1), 7)]
def yNw : yTl := [([(12, 0)], (-1), (-1)), ([(12, 1)], (-1), (-1)), ([(12, 2)], (-1), (-1)), ([(12, 3)], (-1), (-1)), ([(12, 4)], (-1), (-1)), ([(12, 5)], (-1), (-1)), ([(12, 6)], (-1), (-1)), ([(12, 7)], (-1), (-1)), ([(77, 85)], (-1), (-1)), ([(77, 92)], (-1), (-1)), ([(77, 99)], (-1), (-1)), ([(77, 106)], (-1), (-1)), ([(77, 113)], (-1), (-1)), ([(77, 120)], (-1), (-1)), ([(77, 127)], (-1), (-1)), ([(77, 134)], (-1), (-1))]
theorem yS1_app : yS1 = yS0 ++ yPn := rfl
theorem yS2_app : yS2 = yS0 ++ yNw := rfl
/-- the pins told one by one, and all of them -/
theorem yPn_of {m : mMem} (hT : yTM yY yKk yNn m) (h : ∀ g : Nat, g < 8 → yva m 77 (85 + 7 * g) = yva m 12 g) : yTlR yPn m := by
  have n12 : (ztg 7 yY 12).2.2.1 = 8 := by decide +kernel
  have key : ∀ g : Nat, g < 8 → ∃ y : Int32, (∀ q ∈ [(12, g), (77, 85 + 7 * g)], yva m q.1 q.2 = some (.int y)) ∧ -1 ≤ y.toInt ∧ y.toInt ≤ 7 := fun g hg => by
    have hb : ∀ j, j < 8 → (match zba (ykk yKk (ztg 7 yY 12).2.2.2).1 j with | some q => Nat.beq q.1 1 && zle (-1) q.2.1 && zle q.2.2 7 | none => false) = true := by decide +kernel
    obtain ⟨v, v1, ⟨q, q1, q2⟩, -⟩ := yva_ex (p := 12) (j := g) hT (by decide) (by omega)
    have h9 := hb g hg
    rw [q1] at h9
    simp only [Bool.and_eq_true, zle_iff] at h9
    rw [zbe.mp h9.1.1] at q2
    obtain ⟨y, rfl, y1, y2⟩ := q2
    refine ⟨y, fun q hq => ?_, by omega, by omega⟩
    simp only [List.mem_cons, List.not_mem_nil, or_false] at hq
    rcases hq with rfl | rfl
    · exact v1
    · exact (h g hg).trans v1
  intro c hc
  unfold yPn at hc
  simp only [List.mem_cons, List.not_mem_nil, or_false] at hc
  rcases hc with rfl | rfl | rfl | rfl | rfl | rfl | rfl | rfl
  · exact key 0 (by omega)
  · exact key 1 (by omega)
  · exact key 2 (by omega)
  · exact key 3 (by omega)
  · exact key 4 (by omega)
  · exact key 5 (by omega)
  · exact key 6 (by omega)
  · exact key 7 (by omega)
theorem yPn_to {m : mMem} (h : yTlR yPn m) : yPH (0, 0) [0] m (19, 77, 0, (1, 0, 0)) := by
  have key : ∀ (g : Nat) (l u : Int), ([(12, g), (77, 85 + 7 * g)], l, u) ∈ yPn → yva m 77 (85 + 7 * g) = yva m 12 g := fun g l u hm => by
    obtain ⟨y, y1, -⟩ := h _ hm
    rw [y1 (77, 85 + 7 * g) (by simp), y1 (12, g) (by simp)]
  intro g hg
  have : g = 0 ∨ g = 1 ∨ g = 2 ∨ g = 3 ∨ g = 4 ∨ g = 5 ∨ g = 6 ∨ g = 7 := by omega
  rcases this with rfl | rfl | rfl | rfl | rfl | rfl | rfl | rfl
  · exact key 0 (-1) 7 (by decide)
  · exact key 1 (-1) 7 (by decide)
  · exact key 2 (-1) 7 (by decide)
  · exact key 3 (-1) 7 (by decide)
  · exact key 4 (-1) 7 (by decide)
  · exact key 5 (-1) 7 (by decide)
  · exact key 6 (-1) 7 (by decide)
  · exact key 7 (-1) 7 (by decide)
theorem yNw_to {m : mMem} (h : yTlR yNw m) : yPH (0, 0) [0] m (19, 77, 0, (1, 0, 0)) := by
  have key : ∀ (p j : Nat), (([(p, j)], -1, -1) : List (Nat × Nat) × Int × Int) ∈ yNw → yva m p j = some (.int (-1)) := fun p j hm => by
    obtain ⟨y, y1, y2, y3⟩ := h _ hm
    dsimp only at y2 y3
    rw [y1 (p, j) (by simp), Int32.toInt_inj.mp (show y.toInt = (-1 : Int32).toInt from by rw [show (-1 : Int32).toInt = -1 from by decide]; omega)]
  intro g hg
  have : g = 0 ∨ g = 1 ∨ g = 2 ∨ g = 3 ∨ g = 4 ∨ g = 5 ∨ g = 6 ∨ g = 7 := by omega
  rcases this with rfl | rfl | rfl | rfl | rfl | rfl | rfl | rfl
  · exact (key 77 85 (by decide)).trans (key 12 0 (by decide)).symm
  · exact (key 77 92 (by decide)).trans (key 12 1 (by decide)).symm
  · exact (key 77 99 (by decide)).trans (key 12 2 (by decide)).symm
  · exact (key 77 106 (by decide)).trans (key 12 3 (by decide)).symm
  · exact (key 77 113 (by decide)).trans (key 12 4 (by decide)).symm
  · exact (key 77 120 (by decide)).trans (key 12 5 (by decide)).symm
  · exact (key 77 127 (by decide)).trans (key 12 6 (by decide)).symm
  · exact (key 77 134 (by decide)).trans (key 12 7 (by decide)).symm
theorem yALS_of {m : mMem} (h : ∀ t ∈ yALT, yPH (0, 0) [0] m t) (h9 : yPH (0, 0) [0] m (19, 77, 0, (1, 0, 0))) : ∀ t ∈ yALS, yPH (0, 0) [0] m t := fun t ht => by
  rcases List.mem_cons.mp ht with rfl | ht
  · exact h _ List.mem_cons_self
  · rcases List.mem_cons.mp ht with rfl | ht
    · exact h9
    · exact h t (List.mem_cons_of_mem _ ht)
theorem yALT_of {m : mMem} (h : ∀ t ∈ yALS, yPH (0, 0) [0] m t) : ∀ t ∈ yALT, yPH (0, 0) [0] m t := fun t ht => by
  rcases List.mem_cons.mp ht with rfl | ht
  · exact h _ List.mem_cons_self
  · exact h t (List.mem_cons_of_mem _ (List.mem_cons_of_mem _ ht))
theorem yLP_of {f : Nat → Option (Nat × Nat × (Nat → Value))} (hf : yFf f) {L : Nat} (hL : yFL f L) {T : List yKq} (hT : yAl9 f yKk T) {ht : List (Nat × Nat × yHt)} {il : List Nat} {pc : Nat} (h : yLcp T ht il pc = true) : yLKs f L pc := by
  intro i hi0 hi1 hi6 ls m nc ns P hI k
  unfold yLcp at h
  rw [yF1k_eq, yE1_eq] at h
  obtain ⟨i0, i1, i2, i3, i4, i6, i7, i8⟩ := hI
  have h19 : ∀ g : Nat, g < 8 → yva m 77 (85 + 7 * g) = yva m 12 g := i7 (19, 77, 0, (1, 0, 0)) (List.mem_cons_of_mem _ List.mem_cons_self)
  have hI1 : yGI yS1 yALT i ls m := ⟨i0, i1, i2, i3, i4, i6, yALT_of i7, by rw [yS1_app]; exact yTlR_app.mpr ⟨i8, yPn_of i6 h19⟩⟩
  split at h
  · rename_i Lo e
    rw [List.all_eq_true] at h
    refine yGrn_ok hf hL hT yS1_g yALT_g e hi0 hi1 (yD6 hi6) hI1 (fun o ho => absurd (h _ ho) (by simp)) (fun s hs r' m1 ls' st' m' nc' ns' hx hok hl hst hnc hns => ?_)
    have := h _ hs
    simp only [Bool.and_eq_true] at this
    obtain ⟨a1, a2⟩ := this
    obtain ⟨b1, b2, b3, -⟩ := yGar_ok yALT_g yS1_g a2 hx hok hl hst
    subst b1
    rw [zbe.mp a1]
    obtain ⟨j0, j1, j2, j3, j4, j6, j7, j8⟩ := b3
    rw [yS1_app] at j8
    obtain ⟨j8, j9⟩ := yTlR_app.mp j8
    exact k ls' m' nc' ns' ⟨j0, j1, j2, j3, j4, j6, yALS_of j7 (yPn_to j9), j8⟩ (by omega) (by omega)
  · cases h
theorem yLS_of {f : Nat → Option (Nat × Nat × (Nat → Value))} (hf : yFf f) {L : Nat} (hL : yFL f L) {T : List yKq} (hT : yAl9 f yKk T) {il : List Nat} {pc : Nat} (h : yLcs T il pc = true) : yLKs f L pc := by
  intro i hi0 hi1 hi6 ls m nc ns P hI k
  unfold yLcs at h
  rw [yF0k_eq, yE0_eq, yF2k_eq, yE2_eq] at h
  split at h
  · rename_i Lo e
    rw [List.all_eq_true] at h
    refine yGrn_ok hf hL hT yS0_g yALS_g e hi0 hi1 (yD6 hi6) hI (fun o ho => absurd (h _ ho) (by simp)) (fun s hs r' m1 ls' st' m' nc' ns' hx hok hl hst hnc hns => ?_)
    have := h _ hs
    simp only [Bool.and_eq_true, Bool.or_eq_true] at this
    obtain ⟨a1, a2 | a2⟩ := this
    · obtain ⟨b1, b2, b3, -⟩ := yGar_ok yALS_g yS0_g a2 hx hok hl hst
      subst b1
      rw [zbe.mp a1]
      exact k ls' m' nc' ns' b3 (by omega) (by omega)
    · obtain ⟨b1, b2, b3, -⟩ := yGar_ok yALT_g yS2_g a2 hx hok hl hst
      subst b1
      rw [zbe.mp a1]
      obtain ⟨j0, j1, j2, j3, j4, j6, j7, j8⟩ := b3
      rw [yS2_app] at j8
      obtain ⟨j8, j9⟩ := yTlR_app.mp j8
      exact k ls' m' nc' ns' ⟨j0, j1, j2, j3, j4, j6, yALS_of j7 (yNw_to j9), j8⟩ (by omega) (by omega)
  · cases h
/-- the law's end -/
theorem yLend {f : Nat → Option (Nat × Nat × (Nat → Value))} {u : yU} {nc ns X Y : Nat} {r' : List Int} {m1 : mMem} {res : mRes} (h : (Nat.beq u.1 1 && Nat.beq u.2.1.1 1 && zve u.2.1 (zk 1) && Nat.ble u.2.2.2.2.2 0) = true)
    (hu : yuo (yEx f) yY yKk yNn (yPH (0, 0)) nc ns r' m1 u res) (hX : nc ≤ X) (hY : ns ≤ Y) : res.1 = .inr (some (.int 1)) ∧ res.2.2.1 ≤ X ∧ res.2.2.2 ≤ Y := by
  simp only [Bool.and_eq_true, Nat.ble_eq] at h
  obtain ⟨⟨⟨a1, a2⟩, a3⟩, a4⟩ := h
  obtain ⟨u1, u2, u3, u4⟩ := hu
  rw [zbe.mp a1] at u4
  obtain ⟨v, v1, v2⟩ := u4
  obtain ⟨x, rfl, hx⟩ := zvm_i v2 a2
  rw [zve_d a3, zk_d u1.1] at hx
  have : x = 1 := Int32.toInt_inj.mp ((Option.some.inj hx).symm.trans (by decide))
  subst this
  exact ⟨v1, by omega, by omega⟩
/-- the loop -/
theorem yLoop {f : Nat → Option (Nat × Nat × (Nat → Value))} (hf : yFf f) {L : Nat} (hL : yFL f L) {ps : List Nat} (hh : yLhd ps = true) (hps : ∀ pc ∈ ps, yLKs f L pc) {X Y : Nat} :
    ∀ (n : Nat) (i : Int) (ls : mLs) (m : mMem) (nc ns : Nat), 0 ≤ i → i ≤ 3072 → (L : Int) < i + 6 * n + 6 → nc + n ≤ X → ns + 6 * n ≤ Y → yLI i ls m →
    mGd (yEx f) (fun res => res.1 = .inr (some (.int 1)) ∧ res.2.2.1 ≤ X ∧ res.2.2.2 ≤ Y) 1000 300 23 ls [] m nc ns := by
  intro n
  induction n with
  | zero =>
    intro i ls m nc ns hi0 hi1 hn hX hY hI
    have hL1 := hL.1
    unfold yLhd at hh
    rw [yF0h_eq, yE0_eq, yF0k_eq] at hh
    split at hh
    · rename_i Lo e
      rw [List.all_eq_true] at hh
      refine yGrn_ok (T := []) hf hL trivial yS0_g yALS_g e hi0 hi1 (fun e he => (by cases he)) hI (fun o ho r' m1 res hx hu => ?_) (fun s hs r' m1 ls' st' m' nc' ns' hx hok hl hst hnc hns => ?_)
      · exact yLend (hh _ ho) hu (by omega) (by omega)
      · have := hh _ hs
        simp only [Bool.and_eq_true] at this
        obtain ⟨b1, b2, b3, b4⟩ := yGar_ok yALS_g yS0_g this.2 hx hok hl hst
        obtain ⟨u, v, e1, e2, e3⟩ := b4 (1, 2, 6) List.mem_cons_self (by decide) (by decide)
        have e1 : some i = some u := e1
        have e2 : some (L : Int) = some v := e2
        cases e1
        cases e2
        dsimp only at e3
        omega
    · cases hh
  | succ n ih =>
    intro i ls m nc ns hi0 hi1 hn hX hY hI
    have hL1 := hL.1
    have hh' := hh
    unfold yLhd at hh'
    rw [yF0h_eq, yE0_eq, yF0k_eq] at hh'
    split at hh'
    · rename_i Lo e
      rw [List.all_eq_true] at hh'
      refine yGrn_ok (T := []) hf hL trivial yS0_g yALS_g e hi0 hi1 (fun e he => (by cases he)) hI (fun o ho r' m1 res hx hu => ?_) (fun s hs r' m1 ls' st' m' nc' ns' hx hok hl hst hnc hns => ?_)
      · exact yLend (hh' _ ho) hu (by omega) (by omega)
      · have := hh' _ hs
        simp only [Bool.and_eq_true] at this
        obtain ⟨a1, a2⟩ := this
        obtain ⟨b1, b2, b3, b4⟩ := yGar_ok yALS_g yS0_g a2 hx hok hl hst
        subst b1
        rw [List.any_eq_true] at a1
        obtain ⟨pc, c1, c2⟩ := a1
        rw [zbe.mp c2]
        rw [Int.add_zero] at b3
        obtain ⟨u, v, e1, e2, e3⟩ := b4 (1, 2, 6) List.mem_cons_self (by decide) (by decide)
        have e1 : some i = some u := e1
        have e2 : some (L : Int) = some v := e2
        cases e1
        cases e2
        dsimp only at e3
        refine hps pc c1 hi0 hi1 (by omega) b3 (fun ls2 m2 nc2 ns2 d1 d2 d3 => ?_)
        exact ih (i + 6) ls2 m2 nc2 ns2 (by omega) (by omega) (by push_cast at hn; omega) (by omega) (by omega) d1
    · cases hh'
end
