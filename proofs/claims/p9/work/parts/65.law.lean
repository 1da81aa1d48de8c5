/-! THE LAW: once round its loop -/
section
/-- .. and the settings are the same -/
def yALS : yP := (18, 77, 0, (1, 0, 0)) :: yALW
/-- the script is read only, and so long as the symbol 2 says -/
def yroL : yQ := fun p => bif Nat.beq p 1000 then some (0, (1, 2, 0), ([(3072, 1, (-2147483648), 2147483647)], []), []) else yroT p
def yLm : List (Nat × Nat × Nat) := [(0, 0, 1000), (1, 0, 1000), (2, 0, 1000), (3, 0, 1000), (4, 0, 1000), (5, 0, 1000), (6, 0, 1000), (7, 0, 1000), (8, 0, 1000), (9, 0, 1000), (10, 0, 1000), (11, 0, 1000), (12, 0, 1000), (13, 0, 1000), (14, 0, 1000), (15, 0, 1000), (16, 0, 1000), (17, 0, 1000), (18, 0, 1000), (19, 0, 1000), (20, 0, 1000), (21, 0, 1000), (22, 0, 1000), (23, 0, 1000), (24, 0, 1000), (25, 0, 1000), (26, 0, 1000), (27, 0, 1000), (28, 0, 1000), (29, 0, 1000), (30, 0, 1000), (31, 0, 1000), (32, 0, 1000), (33, 0, 1000), (34, 0, 1000), (35, 0, 1000), (36, 0, 1000), (37, 0, 1000), (38, 0, 1000), (39, 0, 1000), (40, 0, 1000), (41, 0, 1000), (42, 0, 1000), (43, 0, 1000), (44, 0, 1000), (45, 0, 1000), (46, 0, 1000), (47, 0, 1000), (48, 0, 1000), (49, 0, 1000), (50, 0, 1000), (51, 0, 1000), (52, 0, 1000), (53, 0, 1000), (54, 0, 1000), (55, 0, 1000), (56, 0, 1000), (57, 0, 1000), (58, 0, 1000), (59, 0, 1000), (60, 0, 1000), (61, 0, 1000), (62, 0, 1000), (63, 0, 1000), (64, 0, 1000), (65, 0, 1000), (66, 0, 1000), (67, 0, 1000), (68, 0, 1000), (69, 0, 1000), (70, 0, 1000), (71, 0, 1000), (72, 0, 1000), (73, 0, 1000), (74, 0, 1000), (75, 0, 1000), (76, 0, 1000), (77, 0, 1000), (78, 0, 1000), (79, 0, 1000), (80, 0, 1000), (81, 0, 1000), (82, 0, 1000), (83, 0, 1000), (84, 0, 1000)]
def yLs (o : Int) : zL := [(0, (2, 1000, 0)), (1, (2, 0, 0)), (2, (2, 75, 0)), (3, (2, 84, 0)), (4, (1, 1, o))]
def yLF0 : zF := (4, [(1, 0, 3072), (2, 0, 3072), (3, 0, 0)], [], [])
def yLF : zF := (4, [(1, 0, 3072), (2, 0, 3072), (3, 0, 0)], [(1, 2, 6)], [])
def yLE : List yE := [(75, (1, 0, 21), (1, 3, 0), 0)]
/-- an arrival -/
def yLar (o : Int) (dc : Nat) (s : yS) : Bool := s.2.2.1.isEmpty && Nat.ble s.2.2.2.2.2.2 dc && (match ygm yY yKk yNn (ysy yY yNn) 3 s.2.1 (0, 0, 0) s.2.2.2.1 s.2.2.2.2.1 s.2.2.2.2.2.1 [(1, 75, 21)] yLF yLE yALS with
  | some (th, F1) => (yLs o).all (yaf F1 s.2.1 4 th)
  | none => false)
def yLrn (T : List yKq) (il : List Nat) (stop : Nat → Nat → Bool) (pc : Nat) (F : zF) : Option (List (yU ⊕ yS)) :=
  yrn yE0 4 yroL yY yKk yNn yLm (yktc 4 yY yKk yNn yLm T) (yhk yY yKk yNn (yht []) [] []) (yprm yroL yY yKk yNn yLm) (yin9 il 172 55) 100000 1000 stop 300 zm_300 zm_300.2.2.2.2.1 true pc (yLs 0) [] F yLE yALS 0
/-- a call of one kind: from its place to the loop's head -/
def yLck (T : List yKq) (il : List Nat) (pc : Nat) : Bool := match yLrn T il (fun _ p => Nat.beq p 23) pc yLF with
  | some L => L.all fun o => match o with
    | .inr s => Nat.beq s.1 23 && yLar 6 1 s
    | .inl _ => false
  | none => false
/-- the loop's head: to the kinds' places, or to the end -/
def yLhd (ps : List Nat) : Bool := match yLrn [] [] (fun pc _ => Nat.beq pc 40) 23 yLF0 with
  | some L => L.all fun o => match o with
    | .inr s => ps.any (Nat.beq s.1) && yLar 0 0 s
    | .inl u => Nat.beq u.1 1 && Nat.beq u.2.1.1 1 && zve u.2.1 (zk 1) && Nat.ble u.2.2.2.2.2 0
  | none => false
def yLR (L : Nat) (r : List Int) : Prop := r[0]? = some 0 ∧ r[2]? = some (L : Int)
def yFL (f : Nat → Option (Nat × Nat × (Nat → Value))) (L : Nat) : Prop := L ≤ 3072 ∧ ∃ g, f 1000 = some (0, L, g) ∧ ∀ j, j < L → ∃ x : Int32, g j = .int x
def yLI (i : Int) (ls : mLs) (m : mMem) : Prop := mld ls 0 = some (.ref 1000) ∧ mld ls 1 = some (.ref 0) ∧ mld ls 2 = some (.ref 75) ∧ mld ls 3 = some (.ref 84) ∧ (∃ x : Int32, mld ls 4 = some (.int x) ∧ x.toInt = i) ∧
  yTM yY yKk yNn m ∧ (∀ t ∈ yALS, yPH (0, 0) [0] m t) ∧ yva m 75 21 = some (.int 0)
theorem yrm1 {v : Value} {x : Int32} {l h : Int} (e : v = .int x) (h1 : l ≤ x.toInt) (h2 : x.toInt ≤ h) : yrm v 1 l h := ⟨x, e, h1, h2⟩
theorem yroL_ok {f : Nat → Option (Nat × Nat × (Nat → Value))} (hf : yFf f) {L : Nat} (hL : yFL f L) : ∀ r, yLR L r → yRo (yEx f) r yroL := by
  intro r hr p t nv k es e
  unfold yroL at e
  cases c : Nat.beq p 1000 with
  | false => rw [c] at e; exact hf r hr.1 p t nv k es e
  | true =>
    rw [c] at e
    cases e
    obtain ⟨h1, g, h2, h3⟩ := hL
    rw [zbe.mp c]
    refine ⟨Nat.le_refl _, L, g, h2, by omega, by omega, rfl, zd_some.mpr ⟨_, hr.2, by simp⟩, fun j hj => ?_, fun m => rfl⟩
    obtain ⟨x, hx⟩ := h3 j hj
    refine ⟨⟨(1, -2147483648, 2147483647), ?_, yrm1 hx (yi32 x).1 (yi32 x).2⟩, fun p hp => by cases hp⟩
    have : Nat.ble (Nat.succ j) 3072 = true := by rw [Nat.ble_eq]; omega
    simp only [zba, this, cond_true]
theorem yLar_ok {f : Nat → Option (Nat × Nat × (Nat → Value))} {o : Int} {dc L : Nat} {s : yS} {i : Int} {r' : List Int} {m1 m' : mMem} {ls' : mLs} {st' : List Value} (h : yLar o dc s = true)
    (hx : zX [0, i, (L : Int), 0] r') (hok : yOk (yEx f) yY yKk yNn (yPH (0, 0)) r' m1 m' s.2.2.2.1 s.2.2.2.2.1 s.2.2.2.2.2.1) (hl : zls r' ls' s.2.1) (hst : zlm r' st' s.2.2.1) :
    st' = [] ∧ s.2.2.2.2.2.2 ≤ dc ∧ yLI (i + o) ls' m' ∧ zFok [0, i, (L : Int), 0] yLF := by
  unfold yLar at h
  simp only [Bool.and_eq_true, Nat.ble_eq] at h
  obtain ⟨⟨p1, p2⟩, p3⟩ := h
  have hst0 : st' = [] := by
    rw [List.isEmpty_iff.mp p1] at hst
    cases st' with
    | nil => rfl
    | cons _ _ => exact hst.elim
  have hx3 : zX [0, i, (L : Int)] r' := by
    obtain ⟨t, ht⟩ := hx
    exact ⟨0 :: t, by rw [ht]; rfl⟩
  split at p3
  · rename_i th F1 eg
    obtain ⟨r1, θ, g1, g2, g3, g4, g5, g6, g7, g8⟩ := ygm_ok (PH := yPH (0, 0)) (rv := (0, 0, 0)) (fun r r' m t hx hp => yPH_X hx hp) (fun r r' m t u h1 h2 h3 => yPH_q h1 h2 h3) (fun r r' m t u h1 h2 h3 => yPH_v h1 h2 h3) ysy_ok hok hl (v := .int 0) trivial hx3 rfl eg
    have hMv := yMv_of g4.1 g7 g8
    have eθ : θ = [0, i, (L : Int), 0] := by
      obtain ⟨t, ht⟩ := g3
      have hlen := g4.1
      rw [ht, List.length_append] at hlen
      have e3 : yLF.1 = 4 := rfl
      have e4 : ([0, i, (L : Int)] : List Int).length = 3 := rfl
      obtain ⟨c, rfl⟩ := List.length_eq_one_iff.mp (show t.length = 1 by omega)
      obtain ⟨v, v1, v2, v3⟩ := g4.2.2.1 (3, 0, 0) (by simp [yLF])
      rw [ht] at v1
      have v1 : some c = some v := v1
      cases v1
      dsimp only at v2 v3
      have : c = 0 := by omega
      rw [ht, this]
      rfl
    rw [List.all_eq_true] at p3
    have hzl : zls θ ls' (yLs o) := by
      intro j a e
      have := p3 (j, a) (zld_mem e)
      unfold yaf at this
      split at this
      · rename_i b eb
        obtain ⟨v, v1, v2⟩ := hl j b eb
        refine ⟨v, v1, ?_⟩
        simp only [Bool.or_eq_true, Bool.and_eq_true, Nat.ble_eq] at this
        rcases this with (⟨⟨⟨b1, b2⟩, b3⟩, b4⟩ | ⟨⟨b1, b2⟩, b3⟩) | ⟨b1, b2⟩
        · obtain ⟨x, rfl, hx9⟩ := zvm_i v2 b2
          obtain ⟨y, y1, y2⟩ := ymv_rev hMv g4.1 (Or.inl (zbe.mp b1)) (show a.2.1 < 4 from by omega)
          have hx8 := g1.den hx9
          have y3 : zd r1 b = some y := by rw [zve_d b4]; exact y2
          rw [y3] at hx8
          cases hx8
          exact zvm_int (zbe.mp b1) y1
        · unfold zvm
          rw [zbe.mp b1]
          show v = .ref a.2.1
          rw [zvm_r v2 b2, zbe.mp b3]
        · obtain ⟨x, rfl⟩ := zvm_l v2 (by rw [Nat.ble_eq]; exact b2)
          unfold zvm
          rw [zbe.mp b1]
          exact ⟨x, rfl⟩
      · cases this
    rw [eθ] at hzl g4 g5 g6
    have rf : ∀ (k p : Nat), zld (yLs o) k = some (2, p, 0) → mld ls' k = some (.ref p) := fun k p e => by
      obtain ⟨v, v1, v2⟩ := hzl k _ e
      rw [v1, zvm_r v2 rfl]
    refine ⟨hst0, p2, ⟨rf 0 1000 rfl, rf 1 0 rfl, rf 2 75 rfl, rf 3 84 rfl, ?_, hok.2.2.1, yPH_gs (P := yALS) (by decide) g6, ?_⟩, g4⟩
    · obtain ⟨v, v1, v2⟩ := hzl 4 (1, 1, o) rfl
      obtain ⟨x, rfl, hx9⟩ := zvm_i v2 rfl
      obtain ⟨u, u1, u2⟩ := zd_some.mp hx9
      have u1 : some i = some u := u1
      cases u1
      exact ⟨x, v1, u2⟩
    · obtain ⟨-, j, v, i1, i2, i3⟩ := g5 (75, (1, 0, 21), (1, 3, 0), 0) List.mem_cons_self
      obtain ⟨x, rfl, hx9⟩ := zvm_i i3 rfl
      have ei : j = 21 := by
        obtain ⟨u, u1, u2⟩ := zd_some.mp i1
        have u1 : some (0 : Int) = some u := u1
        cases u1
        dsimp only at u2
        omega
      subst ei
      have ex0 : x.toInt = 0 := by
        obtain ⟨w, w1, w2⟩ := zd_some.mp hx9
        have w1 : some (0 : Int) = some w := w1
        cases w1
        dsimp only at w2
        omega
      have : x = 0 := Int32.toInt_inj.mp (ex0.trans (by decide))
      subst this
      unfold yvx at i2
      rw [if_pos (show 75 < 1000 by omega)] at i2
      exact i2
  · cases p3
theorem yLrn_ok {f : Nat → Option (Nat × Nat × (Nat → Value))} (hf : yFf f) {L : Nat} (hL : yFL f L) {T : List yKq} (hT : yAl9 f yKk T) {il : List Nat} {stop : Nat → Nat → Bool} {pc : Nat} {F : zF} {Lo : List (yU ⊕ yS)}
    (h : yLrn T il stop pc F = some Lo) {i : Int} (hF : zFok [0, i, (L : Int), 0] F) {ls : mLs} {m : mMem} {nc ns : Nat} {P : mRes → Prop} (hI : yLI i ls m)
    (hE : ∀ o, .inl o ∈ Lo → ∀ r' m1 res, zX [0, i, (L : Int), 0] r' → yuo (yEx f) yY yKk yNn (yPH (0, 0)) nc ns r' m1 o res → P res)
    (hA : ∀ s, .inr s ∈ Lo → ∀ r' m1 ls' st' m' nc' ns', zX [0, i, (L : Int), 0] r' → yOk (yEx f) yY yKk yNn (yPH (0, 0)) r' m1 m' s.2.2.2.1 s.2.2.2.2.1 s.2.2.2.2.2.1 → zls r' ls' s.2.1 → zlm r' st' s.2.2.1 → nc' ≤ nc + s.2.2.2.2.2.2 → ns' ≤ ns + 6 * s.2.2.2.2.2.2 → mGd (yEx f) P 1000 300 s.1 ls' st' m' nc' ns') :
    mGd (yEx f) P 1000 300 pc ls [] m nc ns := by
  obtain ⟨i0, i1, i2, i3, ⟨x, i4, i5⟩, i6, i7, i8⟩ := hI
  unfold yLrn at h
  have e9 : yrn (yEx f) 4 yroL yY yKk yNn yLm (yktc 4 yY yKk yNn yLm T) (yhk yY yKk yNn (yht []) [] []) (yprm yroL yY yKk yNn yLm) (yin9 il 172 55) 100000 = yrn yE0 4 yroL yY yKk yNn yLm (yktc 4 yY yKk yNn yLm T) (yhk yY yKk yNn (yht []) [] []) (yprm yroL yY yKk yNn yLm) (yin9 il 172 55) 100000 := yrn_env 100000
  rw [← e9] at h
  have hk9 := yhk_ok (gh := (0, 0)) (E := yEx f) (Y := yY) (K := yKk) (N := yNn) (RI := yLR L) (ht := yht []) (dl := []) (fun r _ q hq => by cases hq) []
  have hzl : zls [0, i, (L : Int), 0] ls (yLs 0) := by
    intro j a e
    have := zld_mem e
    simp only [yLs, List.mem_cons, Prod.mk.injEq, List.not_mem_nil, or_false] at this
    rcases this with ⟨rfl, rfl⟩ | ⟨rfl, rfl⟩ | ⟨rfl, rfl⟩ | ⟨rfl, rfl⟩ | ⟨rfl, rfl⟩
    · exact ⟨_, i0, rfl⟩
    · exact ⟨_, i1, rfl⟩
    · exact ⟨_, i2, rfl⟩
    · exact ⟨_, i3, rfl⟩
    · exact ⟨_, i4, zvm_int rfl (zd_some.mpr ⟨i, rfl, by simp [i5]⟩)⟩
  have hok : yOk (yEx f) yY yKk yNn (yPH (0, 0)) [0, i, (L : Int), 0] m m F yLE yALS := by
    refine ⟨hF, ⟨21, zd_some.mpr ⟨0, rfl, rfl⟩, rfl, .int 0, ?_, zvm_int rfl (zd_some.mpr ⟨0, rfl, by decide⟩)⟩, i6, yPH_gs (P := yALS) (by decide) i7⟩
    unfold yvx
    rw [if_pos (show 75 < 1000 by omega)]
    exact i8
  have h9 := yrn_ok (E := yEx f) (PH := yPH (0, 0)) (RI := yLR L) (kx := 0) (fun r r' m t hx hp => yPH_X hx hp) (yroL_ok hf hL) (fun r r' hx hr => ⟨hx.get hr.1, hx.get hr.2⟩)
    (yktc_ok (k0 := 4) (mods := yLm) (T := T) fun q hq => ⟨yQd q.2.2.2, by rw [Nat.zero_add]; exact yAl9_ok hT q hq (0, 0), fun r r1 θ F1 th _ _ hF1 hg hθ => yge2_ok hF1 (by simp only [Bool.and_eq_true] at hg; exact hg.2) hθ⟩)
    (fun mi pc als ast F es P Lo e r ls st m0 mem hr => hk9 mi pc als ast F es P Lo e r ls st m0 mem ⟨hr, fun p hp => by cases hp⟩)
    (yprm_ok (yroL_ok hf hL) yLm) (fun mi M hM => zmt_sr9 hM) m nc ns _ _ _ _ _ _ _ _ _ _ _ _ _ _ _ h rfl ⟨[], rfl⟩ [0, i, (L : Int), 0] ls [] m m nc ns P ⟨rfl, rfl⟩ hok yFr.rf hzl trivial (Nat.le_add_right _ _) (Nat.le_add_right _ _)
    (fun o ho r' m1 res hx hu _ => hE o ho r' m1 res hx hu)
    (fun s hs r' m1 ls' st' m' nc' ns' hx hok _ hl hst hnc hns => by rw [Nat.zero_add]; exact hA s hs r' m1 ls' st' m' nc' ns' hx hok hl hst hnc hns)
  rw [Nat.zero_add] at h9
  exact h9
/-- a call of a kind -/
def yLKd (f : Nat → Option (Nat × Nat × (Nat → Value))) (pc : Nat) : Prop := ∃ T il, yAl9 f yKk T ∧ yLck T il pc = true
theorem yLKd_ok {f : Nat → Option (Nat × Nat × (Nat → Value))} (hf : yFf f) {L : Nat} (hL : yFL f L) {pc : Nat} (hk : yLKd f pc) {i : Int} (hF : zFok [0, i, (L : Int), 0] yLF) {ls : mLs} {m : mMem} {nc ns : Nat} {P : mRes → Prop} (hI : yLI i ls m)
    (k : ∀ ls' m' nc' ns', yLI (i + 6) ls' m' → nc' ≤ nc + 1 → ns' ≤ ns + 6 → mGd (yEx f) P 1000 300 23 ls' [] m' nc' ns') : mGd (yEx f) P 1000 300 pc ls [] m nc ns := by
  obtain ⟨T, il, hT, h⟩ := hk
  unfold yLck at h
  split at h
  · rename_i Lo e
    rw [List.all_eq_true] at h
    refine yLrn_ok hf hL hT e hF hI (fun o ho => absurd (h _ ho) (by simp)) (fun s hs r' m1 ls' st' m' nc' ns' hx hok hl hst hnc hns => ?_)
    have := h _ hs
    simp only [Bool.and_eq_true] at this
    obtain ⟨a1, a2⟩ := this
    obtain ⟨b1, b2, b3, -⟩ := yLar_ok a2 hx hok hl hst
    subst b1
    rw [zbe.mp a1]
    exact k ls' m' nc' ns' b3 (by omega) (by omega)
  · cases h
/-- the law's end -/
theorem yLend {f : Nat → Option (Nat × Nat × (Nat → Value))} {u : yU} {nc ns X Y : Nat} {r' : List Int} {m1 : mMem} {res : mRes} (h : (Nat.beq u.1 1 && Nat.beq u.2.1.1 1 && zve u.2.1 (zk 1) && Nat.ble u.2.2.2.2.2 0) = true)
    (hu : yuo (yEx f) yY yKk yNn (yPH (0, 0)) nc ns r' m1 u res) (hX : nc ≤ X) (hY : ns ≤ Y) : res.1 = .inr (some (.int 1)) ∧ res.2.2.1 ≤ X ∧ res.2.2.2 ≤ Y := by
  simp only [Bool.and_eq_true, Nat.ble_eq] at h
  obtain ⟨⟨⟨a1, a2⟩, a3⟩, a4⟩ := h
  obtain ⟨u1, u2, u3, u4⟩ := hu
  rw [zbe.mp a1] at u4
  obtain ⟨v, v1, v2⟩ := u4
  obtain ⟨x, rfl, hx⟩ := zvm_i v2 a2
  rw [zve_d a3, zk_d u1.1] at hx
  have : x = 1 := Int32.toInt_inj.mp ((Option.some.inj hx).symm.trans (by decide))
  subst this
  exact ⟨v1, by omega, by omega⟩
/-- a call of a kind, whatever its proof -/
def yLKs (f : Nat → Option (Nat × Nat × (Nat → Value))) (L pc : Nat) : Prop := ∀ {i : Int}, zFok [0, i, (L : Int), 0] yLF → ∀ {ls : mLs} {m : mMem} {nc ns : Nat} {P : mRes → Prop}, yLI i ls m →
  (∀ ls' m' nc' ns', yLI (i + 6) ls' m' → nc' ≤ nc + 1 → ns' ≤ ns + 6 → mGd (yEx f) P 1000 300 23 ls' [] m' nc' ns') → mGd (yEx f) P 1000 300 pc ls [] m nc ns
theorem yLKs_of {f : Nat → Option (Nat × Nat × (Nat → Value))} (hf : yFf f) {L : Nat} (hL : yFL f L) {pc : Nat} (h : yLKd f pc) : yLKs f L pc := fun hF _ _ _ _ _ hI k => yLKd_ok hf hL h hF hI k
/-- the loop -/
theorem yLoop {f : Nat → Option (Nat × Nat × (Nat → Value))} (hf : yFf f) {L : Nat} (hL : yFL f L) {ps : List Nat} (hh : yLhd ps = true) (hps : ∀ pc ∈ ps, yLKs f L pc) {X Y : Nat} :
    ∀ (n : Nat) (i : Int) (ls : mLs) (m : mMem) (nc ns : Nat), 0 ≤ i → i ≤ 3072 → (L : Int) < i + 6 * n + 6 → nc + n ≤ X → ns + 6 * n ≤ Y → yLI i ls m →
    mGd (yEx f) (fun res => res.1 = .inr (some (.int 1)) ∧ res.2.2.1 ≤ X ∧ res.2.2.2 ≤ Y) 1000 300 23 ls [] m nc ns := by
  intro n
  induction n with
  | zero =>
    intro i ls m nc ns hi0 hi1 hn hX hY hI
    have hL1 := hL.1
    unfold yLhd at hh
    split at hh
    · rename_i Lo e
      rw [List.all_eq_true] at hh
      refine yLrn_ok (T := []) hf hL trivial e ⟨rfl, rfl, fun e he => ?_, fun e he => (by cases he), fun e he => (by cases he)⟩ hI (fun o ho r' m1 res hx hu => ?_) (fun s hs r' m1 ls' st' m' nc' ns' hx hok hl hst hnc hns => ?_)
      · simp only [yLF0, List.mem_cons, List.not_mem_nil, or_false] at he
        rcases he with rfl | rfl | rfl
        · exact ⟨i, rfl, hi0, hi1⟩
        · exact ⟨(L : Int), rfl, by dsimp only; omega, by dsimp only; omega⟩
        · exact ⟨0, rfl, by decide, by decide⟩
      · exact yLend (hh _ ho) hu (by omega) (by omega)
      · have := hh _ hs
        simp only [Bool.and_eq_true] at this
        obtain ⟨b1, b2, b3, b4⟩ := yLar_ok this.2 hx hok hl hst
        obtain ⟨u, v, e1, e2, e3⟩ := b4.2.2.2.1 (1, 2, 6) List.mem_cons_self
        have e1 : some i = some u := e1
        have e2 : some (L : Int) = some v := e2
        cases e1
        cases e2
        dsimp only at e3
        omega
    · cases hh
  | succ n ih =>
    intro i ls m nc ns hi0 hi1 hn hX hY hI
    have hL1 := hL.1
    have hh' := hh
    unfold yLhd at hh'
    split at hh'
    · rename_i Lo e
      rw [List.all_eq_true] at hh'
      refine yLrn_ok (T := []) hf hL trivial e ⟨rfl, rfl, fun e he => ?_, fun e he => (by cases he), fun e he => (by cases he)⟩ hI (fun o ho r' m1 res hx hu => ?_) (fun s hs r' m1 ls' st' m' nc' ns' hx hok hl hst hnc hns => ?_)
      · simp only [yLF0, List.mem_cons, List.not_mem_nil, or_false] at he
        rcases he with rfl | rfl | rfl
        · exact ⟨i, rfl, hi0, hi1⟩
        · exact ⟨(L : Int), rfl, by dsimp only; omega, by dsimp only; omega⟩
        · exact ⟨0, rfl, by decide, by decide⟩
      · exact yLend (hh' _ ho) hu (by omega) (by omega)
      · have := hh' _ hs
        simp only [Bool.and_eq_true] at this
        obtain ⟨a1, a2⟩ := this
        obtain ⟨b1, b2, b3, b4⟩ := yLar_ok a2 hx hok hl hst
        subst b1
        rw [List.any_eq_true] at a1
        obtain ⟨pc, c1, c2⟩ := a1
        rw [zbe.mp c2]
        rw [Int.add_zero] at b3
        obtain ⟨u, v, e1, e2, e3⟩ := b4.2.2.2.1 (1, 2, 6) List.mem_cons_self
        have e1 : some i = some u := e1
        have e2 : some (L : Int) = some v := e2
        cases e1
        cases e2
        dsimp only at e3
        refine hps pc c1 b4 b3 (fun ls2 m2 nc2 ns2 d1 d2 d3 => ?_)
        exact ih (i + 6) ls2 m2 nc2 ns2 (by omega) (by omega) (by push_cast at hn; omega) (by omega) (by omega) d1
    · cases hh'
end
