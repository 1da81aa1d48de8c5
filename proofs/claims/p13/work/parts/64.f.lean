/-! missesBy -/
theorem y752 {m : mMem} (hT : yTM yY yKk yNn m) : yva m 75 2 = some (.ref 77) := by
  obtain ⟨v, v1, ⟨q, q1, q2⟩, -⟩ := yva_ex hT (p := 75) (j := 2) (by decide +kernel) (by decide +kernel)
  have hq : zba (ykk yKk (ztg 7 yY 75).2.2.2).1 2 = some (2, 77, 77) := by decide +kernel
  rw [hq] at q1
  cases q1
  obtain ⟨x, rfl, x1, x2⟩ := q2
  dsimp only at x1 x2
  have : x = 77 := by omega
  rw [v1, this]
def yMn (p j : Nat) : Prop := p ≠ 78 ∧ ¬ (p = 75 ∧ ((9 ≤ j ∧ j < 13) ∨ j = 30))
def yMs (M C : mMem) : Prop := ∀ p j, yMn p j → yva C p j = yva M p j
theorem yMs.rf {M : mMem} : yMs M M := fun _ _ _ => rfl
theorem yMs.tr {a b c : mMem} (h1 : yMs a b) (h2 : yMs b c) : yMs a c := fun p j h => (h2 p j h).trans (h1 p j h)
theorem yMs_aim {M C : mMem} (h : yMs M C) (p j : Nat) (hd : ¬ yDk p j) : yA30 (yaim C) p j = yA30 (yaim M) p j := by
  unfold yA30 yaim
  by_cases e : p = 75 ∧ j = 30
  · rw [if_pos e, if_pos e]
  · rw [if_neg e, if_neg e]
    by_cases h1 : p = 78
    · rw [if_pos h1, if_pos h1]; exact h 77 j ⟨by omega, by omega⟩
    · rw [if_neg h1, if_neg h1]
      by_cases h2 : p = 75 ∧ j = 9
      · rw [if_pos h2, if_pos h2]; exact h 75 8 ⟨by omega, by omega⟩
      · rw [if_neg h2, if_neg h2]
        unfold yDk at hd
        exact h p j ⟨h1, by omega⟩
theorem yPb_8 : ∀ t ∈ yPb, t ∈ yP8 := by decide
theorem yAL_8 : ∀ t ∈ yALW, t ∈ yP8 := by decide
theorem yM_x {f : Nat → Option (Nat × Nat × (Nat → Value))} (hf : yFf f) {M : mMem} {l s g : Int32} {nc ns : Nat} {Q : mRes → Prop} (hT : yTM yY yKk yNn M) (hA : ∀ t ∈ yALW, yPH (0, 0) [0] M t) (h21 : yva M 75 21 = some (.int 0)) (hl : yva M 77 22 = some (.int l)) (hs0 : 0 ≤ s.toInt) (hs8 : s.toInt ≤ 8)
    (h : ∀ (z : Int32) (C : mMem) (nc' ns' : Nat), yTM yY yKk yNn C → (∀ t ∈ yP8, yPH (0, 0) [0] C t) → nc' ≤ nc → ns' ≤ ns → yMs M C → yZ f (yA30 (yaim M)) l s g z → Q (.inr (some (.int z)), C, nc', ns')) :
    mGd (yEx f) Q 58 265 0 (lv_args 0 [.ref 75, .int s, .int g]) [] M nc ns := by
  obtain ⟨fs, o1, o2⟩ := yobj75 hT
  obtain ⟨ga, ga1, ga2⟩ := y77arr hT
  have i22 : (22 : Int32).toNatClampNeg = 22 := by decide
  have i36 : (36 : Int32).toNatClampNeg = 36 := by decide
  have gl : ga 22 = .int l := by
    have := ga2 22 (by omega)
    rw [hl] at this
    exact (Option.some.inj this).symm
  have f2 : fs[2]? = some (.ref 77) := by rw [← y75get o1]; exact y752 hT
  refine sAload (M := zm_265) (v := 75) rfl rfl rfl ?_
  refine sAload (M := zm_265) (v := 75) rfl rfl rfl ?_
  refine sGet (M := zm_265) (v := .ref 77) rfl rfl o1 f2 rfl ?_
  refine sBip (M := zm_265) (v := 22) rfl rfl (by decide) ?_
  refine sIaload (M := zm_265) (x := l) rfl rfl (by omega) ga1 (by decide) (by rw [i22]; exact gl) ?_
  refine sIload (M := zm_265) (v := s) rfl rfl rfl ?_
  refine sIload (M := zm_265) (v := g) rfl rfl rfl ?_
  refine mGd_call (d := 57) (q := (10, .invokevirtual 401, 3, 9, 262, 4, 11)) (M := zm_265) (M' := zm_262) rfl rfl rfl rfl (Nat.le_refl _) (Nat.zero_le _) (Nat.le_of_ble_eq_true rfl) (yrcv o1) ?_
  refine yP_x hf (l := l) (s := s) (g := g) hT hA h21 hs0 hs8 ?_
  intro x C nc' ns' hC hP8 hnc hns h78 h759 hfr hz
  obtain ⟨z, z1, z2⟩ := hz
  obtain ⟨fc, c1, c2⟩ := yobj75 hC
  obtain ⟨gc, gc1, gc2⟩ := y77arr hC
  have gz : gc 36 = .int z := by
    have := gc2 36 (by omega)
    rw [z1] at this
    exact (Option.some.inj this).symm
  have fc2 : fc[2]? = some (.ref 77) := by rw [← y75get c1]; exact y752 hC
  show mGd (yEx f) Q 58 265 13 (lv_args 0 [.ref 75, .int s, .int g]) [.int x] C nc' ns'
  refine sPop (M := zm_265) rfl rfl rfl ?_
  refine sAload (M := zm_265) (v := 75) rfl rfl rfl ?_
  refine sGet (M := zm_265) (v := .ref 77) rfl rfl c1 fc2 rfl ?_
  refine sBip (M := zm_265) (v := 36) rfl rfl (by decide) ?_
  refine sIaload (M := zm_265) (x := z) rfl rfl (by omega) gc1 (by decide) (by rw [i36]; exact gz) ?_
  refine sIst (M := zm_265) rfl rfl (by decide) ?_
  refine sAload (M := zm_265) (v := 75) rfl rfl (mld_s1n (by decide) rfl rfl) ?_
  refine mGd_call (d := 57) (q := (23, .invokevirtual 391, 3, 9, 254, 1, 11)) (M := zm_265) (M' := zm_254) rfl rfl rfl rfl (Nat.le_refl _) (Nat.zero_le _) (Nat.le_of_ble_eq_true rfl) (yrcv c1) ?_
  refine mGd_deep (d := 8) (by omega) (yLB_x hf hC (fun t ht => hP8 t (yPb_8 t ht)) ?_)
  intro D nd nsd hD hP8' h77 h758 hfr2 hnd hnsd
  show mGd (yEx f) Q 58 265 26 (mst1 (lv_args 0 [.ref 75, .int s, .int g]) 3 (.int z)) [] D nd nsd
  refine sIload (M := zm_265) (v := z) rfl rfl mld_s1 ?_
  refine sIret (M := zm_265) rfl rfl rfl ?_
  refine h z D nd nsd hD hP8' (Nat.le_trans hnd hnc) (Nat.le_trans hnsd hns) (fun p j hn => ?_) z2
  unfold yMn at hn
  by_cases e : p = 77
  · rw [e, h77, h78]
  · by_cases e2 : p = 75 ∧ j = 8
    · rw [e2.1, e2.2, h758, h759]
    · have : ¬ yMi [(77, 0, 969), (75, 8, 9)] p j := by
        rintro ⟨w, hw, w1, w2, w3⟩
        simp only [List.mem_cons, List.not_mem_nil, or_false] at hw
        rcases hw with rfl | rfl <;> dsimp only at w1 w2 w3 <;> omega
      rw [hfr2 p j this]
      exact hfr p j ⟨e, hn.1, by omega⟩ (by omega)
/-! enough -/
def yEN : yKq := (264, ([(2, 75, 0, 0), (1, 0, (-2147483648), 2147483647)], [(75, 21, 1, 0, 0)], yALW, [(75, 0, 1), (75, 8, 13), (75, 30, 31), (76, 1, 2), (78, 0, 969)], [(1, (1, 3, 0), (4, [(3, (-2147483648), 2147483647)], [], []), [], yALW, 0)], 3, 59), [], [])
def yQEN : List (yU × List ySr) := [((1, (1, 3, 0), (4, [(3, (-2147483648), 2147483647)], [], []), [], yALW, 0), [(3, 0, 0)])]
def yEN20 : yTp := (20, [(0, (2, 75, 0)), (1, (1, 1, 0))], ykF yEN.2.1, ykE yEN.2.1, yALW, [], [], [])
theorem yEN_S : yckcS yKk [] [] [162, 163, 259] (yst [20]) zm_264 yEN yQEN [] [yEN20] = true := by decide +kernel
theorem yEN_L : yckcL yKk [] [] [162, 163, 259] (yst [20]) zm_264 yEN yQEN [] [yEN20] = true := by decide +kernel
theorem yi9 : ∀ k, k < 8 → Int32.ofNat k + Int32.ofInt 1 = Int32.ofNat (k + 1) := by decide
theorem yi9r : ∀ k, k < 9 → (Int32.ofNat k).toInt = (k : Int) := by decide
theorem yEN_l {f : Nat → Option (Nat × Nat × (Nat → Value))} (hf : yFf f) {M : mMem} {l g z8 : Int32} {nc ns : Nat} {Q : mRes → Prop} (hl : yva M 77 22 = some (.int l)) (h21 : yva M 75 21 = some (.int 0)) (hz : yZ f (yA30 (yaim M)) l 8 g z8)
    (h : ∀ (x : Int32) (C : mMem) (nc' ns' : Nat), yTM yY yKk yNn C → (∀ t ∈ yP8, yPH (0, 0) [0] C t) → nc' ≤ nc → ns' ≤ ns → yMs M C → Q (.inr (some (.int x)), C, nc', ns')) :
    ∀ n k : Nat, n + k = 8 → ∀ (C : mMem) (ls : mLs) (nc' ns' : Nat), yTM yY yKk yNn C → (∀ t ∈ yP8, yPH (0, 0) [0] C t) → nc' ≤ nc → ns' ≤ ns → yMs M C → mld ls 0 = some (.ref 75) → mld ls 1 = some (.int g) → mld ls 2 = some (.int z8) → mld ls 3 = some (.int (Int32.ofNat k)) →
      mGd (yEx f) Q 59 264 30 ls [] C nc' ns' := by
  intro n
  induction n with
  | zero =>
    intro k hk C ls nc' ns' hC hP8 hnc hns hms l0 l1 l2 l3
    have hk : k = 8 := by omega
    subst hk
    obtain ⟨fc, c1, c2⟩ := yobj75 hC
    refine sAload (M := zm_264) (v := 75) rfl rfl l0 ?_
    refine sIload (M := zm_264) rfl rfl l3 ?_
    refine sIload (M := zm_264) rfl rfl l1 ?_
    refine mGd_call (d := 58) (q := (33, .invokevirtual 404, 3, 9, 265, 3, 11)) (M := zm_264) (M' := zm_265) rfl rfl rfl rfl (Nat.le_refl _) (Nat.zero_le _) (Nat.le_of_ble_eq_true rfl) (yrcv c1) ?_
    refine yM_x hf (l := l) (s := Int32.ofNat 8) (g := g) hC (fun t ht => hP8 t (yAL_8 t ht)) (by rw [hms 75 21 ⟨by omega, by omega⟩]; exact h21) (by rw [hms 77 22 ⟨by omega, by omega⟩]; exact hl) (by decide) (by decide) ?_
    intro z D nd nsd hD hP8' hnd hnsd hms2 hz2
    show mGd (yEx f) Q 59 264 36 ls [.int z] D nd nsd
    have hz3 : yZ f (yA30 (yaim M)) l 8 g z := yZ_eq (fun p j hd => yMs_aim hms p j hd) hz2
    obtain ⟨P, n9, r, q1, q2, q3⟩ := hz3.1
    have ez : z = z8 := hz.2 P n9 r z q1 q2 q3
    subst ez
    refine sIload (M := zm_264) rfl rfl l2 ?_
    refine sIcmp (M := zm_264) (cc := .le) (t := 46) rfl rfl rfl ?_
    rw [if_pos (by unfold mcond; exact decide_eq_true (Int32.le_refl z))]
    refine sIload (M := zm_264) rfl rfl l3 ?_
    refine sIret (M := zm_264) rfl rfl rfl ?_
    exact h _ D nd nsd hD hP8' (Nat.le_trans hnd hnc) (Nat.le_trans hnsd hns) (hms.tr hms2)
  | succ n ih =>
    intro k hk C ls nc' ns' hC hP8 hnc hns hms l0 l1 l2 l3
    obtain ⟨fc, c1, c2⟩ := yobj75 hC
    refine sAload (M := zm_264) (v := 75) rfl rfl l0 ?_
    refine sIload (M := zm_264) rfl rfl l3 ?_
    refine sIload (M := zm_264) rfl rfl l1 ?_
    refine mGd_call (d := 58) (q := (33, .invokevirtual 404, 3, 9, 265, 3, 11)) (M := zm_264) (M' := zm_265) rfl rfl rfl rfl (Nat.le_refl _) (Nat.zero_le _) (Nat.le_of_ble_eq_true rfl) (yrcv c1) ?_
    have hk9 := yi9r k (by omega)
    refine yM_x hf (l := l) (s := Int32.ofNat k) (g := g) hC (fun t ht => hP8 t (yAL_8 t ht)) (by rw [hms 75 21 ⟨by omega, by omega⟩]; exact h21) (by rw [hms 77 22 ⟨by omega, by omega⟩]; exact hl) (by omega) (by omega) ?_
    intro z D nd nsd hD hP8' hnd hnsd hms2 hz2
    show mGd (yEx f) Q 59 264 36 ls [.int z] D nd nsd
    refine sIload (M := zm_264) rfl rfl l2 ?_
    refine sIcmp (M := zm_264) (cc := .le) (t := 46) rfl rfl rfl ?_
    split
    · refine sIload (M := zm_264) rfl rfl l3 ?_
      refine sIret (M := zm_264) rfl rfl rfl ?_
      exact h _ D nd nsd hD hP8' (Nat.le_trans hnd hnc) (Nat.le_trans hnsd hns) (hms.tr hms2)
    · refine sIinc (M := zm_264) rfl rfl l3 (by decide) ?_
      refine sGoto (M := zm_264) (t := 30) rfl rfl rfl ?_
      rw [yi9 k (by omega)]
      exact ih (k + 1) (by omega) D _ nd nsd hD hP8' (Nat.le_trans hnd hnc) (Nat.le_trans hnsd hns) (hms.tr hms2) (mld_s1n (by omega) rfl l0) (mld_s1n (by omega) rfl l1) (mld_s1n (by omega) rfl l2) mld_s1
theorem yEN_ok {f : Nat → Option (Nat × Nat × (Nat → Value))} (hf : yFf f) : yA f yKk yEN := by
  intro gh θ vs mem nc ns hQ hF hs hc hT hP
  refine (yckcX_ok hf gh (K := yKk) (T := []) (ht := []) (il := [162, 163, 259]) (stop := yst [20]) (c := yEN) (outs := yQEN) (cuts := []) (ex := [yEN20]) trivial (M := zm_264) rfl rfl rfl yEN_L hQ hF (fun T hTm θ' ls m nc' ns' ha => ?_)).2 yEN_S hs hc hT hP
  rcases List.mem_singleton.mp hTm with rfl
  obtain ⟨g1, g2, g3, g4, g5, g6, g7, g8, g9, g10⟩ := ha
  obtain ⟨v0, l0, l0'⟩ := g3 0 (2, 75, 0) rfl
  rcases (show v0 = .ref 75 from l0') with rfl
  obtain ⟨v1, l1, l1'⟩ := g3 1 (1, 1, 0) rfl
  obtain ⟨w, rfl, -⟩ := zvm_i l1' rfl
  have h21 : yva m 75 21 = some (.int 0) := by
    have hlen : θ'.length = 3 := g2.1
    have h0 : θ'[0]? = some 0 := g2.2.1
    obtain ⟨-, i, v, i1, i2, i3⟩ := g4 (75, (1, 0, 21), (1, 2, 0), 0) List.mem_cons_self
    obtain ⟨x, rfl, hx⟩ := zvm_i i3 rfl
    have ei : i = 21 := by
      obtain ⟨u, u1, u2⟩ := zd_some.mp i1
      dsimp only at u1 u2
      rw [h0] at u1
      cases u1
      omega
    subst ei
    have ex0 : x.toInt = 0 := by
      obtain ⟨v, v1, v2, v3⟩ := g2.2.2.1 (2, 0, 0) (List.mem_cons_self)
      obtain ⟨w, w1, w2⟩ := zd_some.mp hx
      dsimp only at v1 v2 v3 w1 w2
      rw [v1] at w1
      cases w1
      omega
    have : x = 0 := Int32.toInt_inj.mp (ex0.trans (by decide))
    subst this
    unfold yvx at i2
    rw [if_pos (show 75 < 1000 by omega)] at i2
    exact i2
  have alw : ∀ t ∈ yALW, yPH (0, 0) [0] m t := yPH_gs (P := yALW) (by decide) g6
  obtain ⟨l, hl, -⟩ := ytyK g5 (p := 77) (j := 22) (l := -2147483648) (h := 2147483647) (by decide +kernel) (by decide +kernel) (by decide +kernel)
  obtain ⟨fc, c1, c2⟩ := yobj75 g5
  have fin : ∀ (x : Int32) (C : mMem) (nc2 ns2 : Nat), yTM yY yKk yNn C → (∀ t ∈ yP8, yPH (0, 0) [0] C t) → nc2 ≤ nc' → ns2 ≤ ns' → yMs m C → yPf (yEx f) yY yKk yNn (yPH gh) yEN.2.1 θ mem nc ns (.inr (some (.int x)), C, nc2, ns2) := by
    intro x C nc2 ns2 hC hP8 hnc hns hms
    have hlen : θ.length = 3 := hF.1
    have hx9 : zX θ (θ ++ [x.toInt]) := ⟨[x.toInt], rfl⟩
    have hg3 : (θ ++ [x.toInt])[3]? = some x.toInt := by rw [List.getElem?_append_right (by omega), hlen]; rfl
    refine ⟨fun p j hn => ?_, _, List.mem_cons_self, θ ++ [x.toInt], hx9, ⟨⟨by rw [List.length_append, hlen]; rfl, hx9.get hF.2.1, fun e he => ?_, fun e he => (by cases he), fun e he => (by cases he)⟩, rfl, hC, yPH_gs (P := yALW) (by decide) fun t ht => hP8 t (yAL_8 t ht)⟩, Nat.le_trans hnc g9, Nat.le_trans hns g10, .int x, rfl, zvm_int rfl (zd_some.mpr ⟨_, hg3, by simp⟩)⟩
    · rw [← g8 p j hn]
      have inm : ∀ q ∈ yEN.2.1.2.2.2.1, ¬ (q.1 = p ∧ q.2.1 ≤ j ∧ j < q.2.2) := fun q hq h => hn ⟨q, hq, h.1, h.2.1, h.2.2⟩
      have n1 := inm (75, 8, 13) (by simp [yEN])
      have n2 := inm (75, 30, 31) (by simp [yEN])
      have n3 := inm (78, 0, 969) (by simp [yEN])
      dsimp only at n1 n2 n3
      by_cases e : p = 78
      · subst e
        rw [yva_ge hC (by show 969 ≤ j; omega), yva_ge g5 (by show 969 ≤ j; omega)]
      · exact hms p j ⟨e, by omega⟩
    · rcases List.mem_singleton.mp he with rfl
      exact ⟨_, hg3, (yi32 x).1, (yi32 x).2⟩
  show mGd (yEx f) _ 59 264 20 ls [] m nc' ns'
  refine sAload (M := zm_264) (v := 75) rfl rfl l0 ?_
  refine sBip (M := zm_264) (v := 8) rfl rfl (by decide) ?_
  refine sIload (M := zm_264) rfl rfl l1 ?_
  refine mGd_call (d := 58) (q := (24, .invokevirtual 404, 3, 9, 265, 3, 11)) (M := zm_264) (M' := zm_265) rfl rfl rfl rfl (Nat.le_refl _) (Nat.zero_le _) (Nat.le_of_ble_eq_true rfl) (yrcv c1) ?_
  refine yM_x hf (l := l) (s := 8) (g := w) g5 alw h21 hl (by decide) (by decide) ?_
  intro z8 D nd nsd hD hP8 hnd hnsd hms hz
  show mGd (yEx f) _ 59 264 27 ls [.int z8] D nd nsd
  refine sIst (M := zm_264) rfl rfl (by decide) ?_
  refine sConst (k := 0) (M := zm_264) (v := 0) rfl rfl rfl ?_
  refine sIst (M := zm_264) rfl rfl (by decide) ?_
  exact yEN_l hf hl h21 hz fin 8 0 rfl D _ nd nsd hD hP8 hnd hnsd hms (mld_s1n (by decide) rfl (mld_s1n (by decide) rfl l0)) (mld_s1n (by decide) rfl (mld_s1n (by decide) rfl l1)) (mld_s1n (by decide) rfl mld_s1) mld_s1
