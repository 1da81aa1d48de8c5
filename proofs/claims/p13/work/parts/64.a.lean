/-! BY HAND -/
/-- the same, where more is told of the ends by others -/
theorem yckY_ok {E : mEnv} {ro : yQ} {Y : zT yC 7} {K : List (Nat × yK)} {N : Nat} {con : Nat → yCo} {hk : List (Nat × Nat) → yHk} {prm : yPm} {inl : Nat → List zV → zF → List yE → Bool} {sy : ySyn} {PH : List Int → mMem → yQp → Prop} {RI : List Int → Prop} {kx fuel d mi : Nat} {M : mMeth} {stop : Nat → Nat → Bool} {c : yKt} {outs : List (yU × List ySr)} {cuts ex : List yTp}
    (hPX : ∀ r r' m t, zX r r' → PH r m t → PH r' m t) (hPq : ∀ r r' m t u, ycq t = true → yqe t u = true → PH r m u → PH r' m t)
    (hPv : ∀ r r' m t u, yqe t u = true → (∀ x, zd r u.2.2.2 = some x → zd r' t.2.2.2 = some x) → PH r m u → PH r' m t) (hsy : ySy E Y K N PH sy)
    (hRI : ∀ r, RI r → yRo E r ro) (hRX : ∀ r r', zX r r' → RI r → RI r') (hcon : ∀ k0, yCon E Y K N PH RI c.2.2.2.1 kx (con k0)) (hhk : ∀ L, yHok E Y K N PH (fun r => RI r ∧ yln r L) (hk L)) (hpr : yPok E Y K N PH RI c.2.2.2.1 prm)
    (hsr : ∀ mi M, E.1 mi = some M → zsr M.2.2.2.2.1 = true) (hM : E.1 mi = some M) (hnz : znz (yka c.1 1) = true) (houts : c.2.2.2.2.1 = outs.map (·.1)) (h2 : yckL E ro Y K N con hk prm inl sy fuel d mi M stop c outs cuts ex = true)
    {Pf : mRes → Prop} {θ0 : List Int} {vs : List Value} {mem : mMem} {nc ns : Nat} (hR0 : RI θ0) (hF0 : zFok θ0 (ykF c))
    (hE : ∀ res, yPf E Y K N PH c θ0 mem nc ns res → Pf res)
    (hX : ∀ T ∈ ex, ∀ θ ls mem' nc' ns', yAt E Y K N PH c θ0 mem nc ns T θ ls mem' nc' ns' → mGd E Pf (kx + d) mi T.1 ls [] mem' nc' ns') :
    (∀ T ∈ cuts, ∀ θ ls mem' nc' ns', yAt E Y K N PH c θ0 mem nc ns T θ ls mem' nc' ns' → mGd E Pf (kx + d) mi T.1 ls [] mem' nc' ns') ∧
    (yckS E ro Y K N con hk prm inl sy fuel d mi M stop c outs cuts ex = true → zlm θ0 vs (yka c.1 1) → ych E θ0 mem (ykE c) mem → yTM Y K N mem → (∀ t ∈ c.2.2.1, PH θ0 mem t) → mGd E Pf (kx + d) mi 0 (lv_args 0 vs) [] mem nc ns) := by
  have hln : ∀ {r r' : List Int} {L : List (Nat × Nat)}, zX r r' → yln r L → yln r' L := fun hx hL p hp => by
    obtain ⟨u, v, a, b, e⟩ := hL p hp
    exact ⟨u, v, hx.get a, hx.get b, e⟩
  have hconL : ∀ L k0, yCon E Y K N PH (fun r => RI r ∧ yln r L) c.2.2.2.1 kx (con k0) := fun L k0 d mi args F es P Lo e r vs m0 mem nc ns hr => hcon k0 d mi args F es P Lo e r vs m0 mem nc ns hr.1
  have hprL : ∀ L, yPok E Y K N PH (fun r => RI r ∧ yln r L) c.2.2.2.1 prm := fun L k ast F es P ast' F' es' P' e r st m0 mem hr => hpr k ast F es P ast' F' es' P' e r st m0 mem hr.1
  have hRIL : ∀ L r, (RI r ∧ yln r L) → yRo E r ro := fun L r hr => hRI r hr.1
  have hRXL : ∀ L r r', zX r r' → (RI r ∧ yln r L) → (RI r' ∧ yln r' L) := fun L r r' hx hr => ⟨hRX r r' hx hr.1, hln hx hr.2⟩
  have endOK : ∀ o : yU, outs.any (yen Y K N sy (ykF c).1 o) = true → ∀ r' m1 res, zX θ0 r' → yuo E Y K N PH nc ns r' m1 o res → yFr c.2.2.2.1 mem res.2.1 → Pf res := by
    intro o ho r' m1 res hx hu hf
    rw [List.any_eq_true] at ho
    obtain ⟨w, hw, ho⟩ := ho
    unfold yen at ho
    simp only [Bool.and_eq_true] at ho
    obtain ⟨⟨q1, q2⟩, q3⟩ := ho
    obtain ⟨u1, u2, u3, u4⟩ := hu
    obtain ⟨v, hv⟩ : ∃ v, zvm r' v (bif Nat.beq o.1 1 then o.2.1 else (0, 0, 0)) ∧ (o.1 = 1 → res.1 = .inr (some v)) := by
      cases e : Nat.beq o.1 1 with
      | true =>
        rw [zbe.mp e] at u4
        obtain ⟨v, v1, v2⟩ := u4
        exact ⟨v, v2, fun _ => v1⟩
      | false => exact ⟨.int 0, trivial, fun h => by rw [h] at e; cases e⟩
    split at q3
    · rename_i th F1 eg
      obtain ⟨r1, θ, g1, g2, g3, g4, g5, g6, g7, g8⟩ := ygm_ok hPX hPq hPv hsy u1 (ls := []) (fun i a e => by cases e) hv.1 hx hF0.1 eg
      have hMv := yMv_of g4.1 g7 g8
      refine hE res ⟨hf, w.1, by rw [houts]; exact List.mem_map_of_mem hw, θ, g3, ⟨g4, g5.ch, u1.2.2.1, g6⟩, ?_, ?_, ?_⟩
      · rw [Nat.ble_eq] at q2; omega
      · rw [Nat.ble_eq] at q2; omega
      · rw [← zbe.mp q1]
        split at q3
        · rename_i e; rw [e] at u4 ⊢; exact u4
        · rename_i e
          rw [e] at u4 ⊢
          have hv1 : zvm r' v o.2.1 := by
            have := hv.1
            rw [e] at this
            exact this
          refine ⟨v, hv.2 e, ?_⟩
          simp only [Bool.or_eq_true, Bool.and_eq_true, Nat.ble_eq] at q3
          rcases q3 with ⟨⟨⟨p1, p2⟩, p3⟩, p4⟩ | ⟨p1, p2⟩
          · obtain ⟨x, rfl, hx9⟩ := zvm_i hv1 p1
            obtain ⟨y, y1, y2⟩ := ymv_rev hMv g4.1 (Or.inl (zbe.mp p2)) (by omega)
            have hx8 := g1.den hx9
            rw [zve_d p4, y2] at hx8
            cases hx8
            exact zvm_int (zbe.mp p2) y1
          · obtain ⟨x, rfl⟩ := zvm_l hv1 (by rw [Nat.ble_eq]; exact p1)
            unfold zvm
            rw [zbe.mp p2]
            exact ⟨x, rfl⟩
        · rename_i n0 n1
          split at u4
          · rename_i e; exact absurd e n0
          · rename_i e; exact absurd e n1
          · rw [u4, zbe.mp q3]
    · cases q3
  have arrOK : ∀ (cuts : List yTp) (s : yS) (L0 : List (Nat × Nat)) (T0 : Option yTp) (θ1 : List Int), cuts.any (yax Y K N sy (ykF c).1 L0 T0 s) = true → zX θ0 θ1 → yln θ1 L0 → (∀ T1, T0 = some T1 → zFok θ1 T1.2.2.1 ∧ ymb T1 = true) → ∀ r' m1 ls' st' mem' nc' ns', zX θ1 r' → yOk E Y K N PH r' m1 mem' s.2.2.2.1 s.2.2.2.2.1 s.2.2.2.2.2.1 → zls r' ls' s.2.1 → zlm r' st' s.2.2.1 → nc' ≤ nc + s.2.2.2.2.2.2 → ns' ≤ ns + 6 * s.2.2.2.2.2.2 →
      ∃ T ∈ cuts, s.1 = T.1 ∧ st' = [] ∧ nc' ≤ nc ∧ ns' ≤ ns ∧ ∃ θ, zX θ0 θ ∧ zFok θ T.2.2.1 ∧ zls θ ls' T.2.1 ∧ yFa E θ mem' T.2.2.2.1 ∧ (∀ t ∈ T.2.2.2.2.1, PH θ mem' t) ∧ yln θ T.2.2.2.2.2.2.2 ∧ ∀ T1, T0 = some T1 → ymb T = true → ymu θ T.2.2.2.2.2.2.1 < ymu θ1 T1.2.2.2.2.2.2.1 := by
    intro cuts s L0 T0 θ1 hs hx1 hL0 hT1 r' m1 ls' st' mem' nc' ns' hx hok hl hst hnc hns
    rw [List.any_eq_true] at hs
    obtain ⟨T, hT, hs⟩ := hs
    unfold yax at hs
    simp only [Bool.and_eq_true] at hs
    obtain ⟨⟨⟨p1, p2⟩, p3⟩, p4⟩ := hs
    have e3 := zbe.mp p3
    split at p4
    · rename_i th F1 eg
      simp only [Bool.and_eq_true, List.all_eq_true] at p4
      obtain ⟨⟨a1, a2⟩, a3⟩ := p4
      obtain ⟨r1, θ, g1, g2, g3, g4, g5, g6, g7, g8⟩ := ygm_ok (rv := (0, 0, 0)) hPX hPq hPv hsy hok hl (v := .int 0) trivial (hx1.tr hx) hF0.1 eg
      have hMv := yMv_of g4.1 g7 g8
      have hst0 : st' = [] := by
        rw [List.isEmpty_iff.mp p2] at hst
        cases st' with
        | nil => rfl
        | cons _ _ => exact hst.elim
      refine ⟨T, hT, zbe.mp p1, hst0, by omega, by omega, θ, g3, g4, ?_, g5, g6, ?_, ?_⟩
      · intro i a e
        have := a1 (i, a) (zld_mem e)
        unfold yaf at this
        split at this
        · rename_i b eb
          obtain ⟨v, v1, v2⟩ := hl i b eb
          refine ⟨v, v1, ?_⟩
          simp only [Bool.or_eq_true, Bool.and_eq_true, Nat.ble_eq] at this
          rcases this with (⟨⟨⟨b1, b2⟩, b3⟩, b4⟩ | ⟨⟨b1, b2⟩, b3⟩) | ⟨b1, b2⟩
          · obtain ⟨x, rfl, hx9⟩ := zvm_i v2 b2
            obtain ⟨y, y1, y2⟩ := ymv_rev hMv g4.1 (Or.inl (zbe.mp b1)) (by omega)
            have hx8 := g1.den hx9
            rw [zve_d b4, y2] at hx8
            cases hx8
            exact zvm_int (zbe.mp b1) y1
          · unfold zvm
            rw [zbe.mp b1]
            show v = .ref a.2.1
            rw [zvm_r v2 b2, zbe.mp b3]
          · obtain ⟨x, rfl⟩ := zvm_l v2 (by rw [Nat.ble_eq]; exact b2)
            unfold zvm
            rw [zbe.mp b1]
            exact ⟨x, rfl⟩
        · cases this
      · intro q hq
        have := a2 q hq
        simp only [Nat.ble_eq] at this
        obtain ⟨⟨b1, b2⟩, b3⟩ := this
        obtain ⟨x, x1, x2⟩ := ymv_rev hMv g4.1 (a := (1, q.1, 0)) (Or.inl rfl) (by dsimp only; omega)
        obtain ⟨y, y1, y2⟩ := ymv_rev hMv g4.1 (a := (1, q.2, 0)) (Or.inl rfl) (by dsimp only; omega)
        have hle := ylo_ok g2 (hln (hx.tr g1) hL0) x2 y2 b3
        obtain ⟨u, u1, rfl⟩ := zd_some.mp x1
        obtain ⟨w, w1, rfl⟩ := zd_some.mp y1
        dsimp only at u1 w1 hle
        exact ⟨u, w, u1, w1, by omega⟩
      · intro T1 eT hb
        subst eT
        unfold ym9 at a3
        simp only [Bool.and_eq_true] at a3
        obtain ⟨f1, f2⟩ := hT1 T1 rfl
        have bd : ∀ (TT : yTp) (θθ : List Int), zFok θθ TT.2.2.1 → ymb TT = true → ∀ p ∈ TT.2.2.2.2.2.2.1, p.2.1 < TT.2.2.1.1 ∧ ∃ x, θθ[p.2.1]? = some x ∧ -4294967296 ≤ x + p.2.2 ∧ x + p.2.2 ≤ 4294967296 := by
          intro TT θθ hFF hbb p hp
          have := List.all_eq_true.mp hbb p hp
          simp only [Bool.and_eq_true, Nat.ble_eq] at this
          have hlt : p.2.1 < θθ.length := by rw [hFF.1]; omega
          have hz : zd θθ (1, p.2.1, p.2.2) = some (θθ[p.2.1] + p.2.2) := zd_some.mpr ⟨_, List.getElem?_eq_getElem hlt, rfl⟩
          obtain ⟨b1, b2⟩ := yin_ok hFF hz this.2
          exact ⟨by omega, _, List.getElem?_eq_getElem hlt, b1, b2⟩
        unfold ymu
        refine ylx_lt (by rw [List.length_map, List.length_map]; exact zbe.mp a3.1) (fun k hk => ?_) (yml_ok (f := ymv 0 T.2.2.1.1 th) g2 (fun p hp => ?_) (fun q hq => ?_) a3.2)
        · obtain ⟨p, hp, rfl⟩ := List.mem_map.mp hk
          obtain ⟨-, x, x1, x2, x3⟩ := bd T θ g4 hb p hp
          unfold yco
          have gx : θ.getD p.2.1 0 = x := by rw [List.getD_eq_getElem?_getD, x1]; rfl
          rw [gx]
          split <;> omega
        · obtain ⟨hlt, x, x1, x2, x3⟩ := bd T θ g4 hb p hp
          obtain ⟨y, y1, y2⟩ := ymv_rev hMv g4.1 (a := (1, p.2.1, p.2.2)) (Or.inl rfl) hlt
          obtain ⟨w, w1, rfl⟩ := zd_some.mp y1
          dsimp only at w1 y2
          rw [x1] at w1
          cases w1
          exact ⟨x, x1, y2, x2, x3⟩
        · obtain ⟨-, x, x1, x2, x3⟩ := bd T1 θ1 f1 f2 q hq
          exact ⟨x, x1, (hx.tr g1).get x1, x2, x3⟩
    · cases p4
  have cut : ∀ (k : Nat) (T : yTp), T ∈ cuts → ∀ (θ : List Int) (ls : mLs) (mem' : mMem) (nc' ns' : Nat), zX θ0 θ → zFok θ T.2.2.1 → zls θ ls T.2.1 → yFa E θ mem' T.2.2.2.1 → yTM Y K N mem' → (∀ t ∈ T.2.2.2.2.1, PH θ mem' t) → yln θ T.2.2.2.2.2.2.2 → yFr c.2.2.2.1 mem mem' → nc' ≤ nc → ns' ≤ ns → ymu θ T.2.2.2.2.2.2.1 = k → mGd E Pf (kx + d) mi T.1 ls [] mem' nc' ns' := by
    intro k
    induction k using Nat.strongRecOn with
    | ind k ih =>
      intro T hT θ ls mem' nc' ns' hx hF hl hfa hTM hP hL hfr hnc hns hk9
      have hT2 := List.all_eq_true.mp h2 T hT
      rw [Bool.and_eq_true] at hT2
      obtain ⟨hb, hrun⟩ := hT2
      split at hrun
      · rename_i L eL
        rw [List.all_eq_true] at hrun
        refine yrn_ok hPX (hRIL _) (hRXL _) (hconL T.2.2.2.2.2.2.2 _) (hhk _) (hprL _) hsr mem nc ns fuel d stop mi M M.2.2.2.2.1 true T.1 T.2.1 [] T.2.2.1 T.2.2.2.1 T.2.2.2.2.1 0 L eL hM ⟨[], rfl⟩ θ ls [] mem' mem' nc' ns' Pf ⟨hRX _ _ hx hR0, hL⟩ ⟨hF, hfa.ch, hTM, hP⟩ hfr hl trivial (by omega) (by omega) ?_ ?_
        · intro o ho r' m1 res hx' hu hf
          exact endOK o (hrun _ ho) r' m1 res (hx.tr hx') hu hf
        · intro s hs r' m1 ls' st' mem2 nc2 ns2 hx' hok' hfr' hl' hst' hnc2 hns2
          have hs9 := hrun _ hs
          unfold ygoX at hs9
          simp only [Bool.or_eq_true] at hs9
          rcases hs9 with hs9 | hs9
          · obtain ⟨T', hT', e1, e2, e3, e4, θ', g1, g2, g3, g4, g5, g6, g7⟩ := arrOK cuts s _ (some T) θ hs9 hx hL (fun T1 e => by cases e; exact ⟨hF, hb⟩) r' m1 ls' st' mem2 nc2 ns2 hx' hok' hl' hst' hnc2 hns2
            rw [e1, e2]
            have hb' := List.all_eq_true.mp h2 T' hT'
            rw [Bool.and_eq_true] at hb'
            exact ih _ (by rw [← hk9]; exact g7 T rfl hb'.1) T' hT' θ' ls' mem2 nc2 ns2 g1 g2 g3 g4 hok'.2.2.1 g5 g6 hfr' e3 e4 rfl
          · obtain ⟨T', hT', e1, e2, e3, e4, θ', g1, g2, g3, g4, g5, g6, -⟩ := arrOK ex s _ none θ hs9 hx hL (fun T1 e => by cases e) r' m1 ls' st' mem2 nc2 ns2 hx' hok' hl' hst' hnc2 hns2
            rw [e1, e2]
            exact hX T' hT' θ' ls' mem2 nc2 ns2 ⟨g1, g2, g3, g4, hok'.2.2.1, g5, g6, hfr', e3, e4⟩
      · cases hrun
  refine ⟨fun T hT θ ls mem' nc' ns' hc9 => ?_, fun h1 hs0 hc0 hT0 hP0 => ?_⟩
  · obtain ⟨g1, g2, g3, g4, g5, g6, g7, g8, g9, g10⟩ := hc9
    exact cut _ T hT θ ls mem' nc' ns' g1 g2 g3 g4 g5 g6 g7 g8 g9 g10 rfl
  · unfold yckS at h1
    split at h1
    · rename_i L eL
      rw [List.all_eq_true] at h1
      refine yrn_ok hPX (hRIL []) (hRXL []) (hconL [] _) (hhk []) (hprL []) hsr mem nc ns fuel d stop mi M M.2.2.2.2.1 false 0 (zarg 0 (yka c.1 1)) [] (ykF c) (ykE c) c.2.2.1 0 L eL hM ⟨[], rfl⟩ θ0 _ [] mem mem nc ns Pf ⟨hR0, fun p hp => by cases hp⟩ ⟨hF0, hc0, hT0, hP0⟩ yFr.rf (zarg_ok 0 hs0 hnz) trivial (by omega) (by omega) ?_ ?_
      · intro o ho r' m1 res hx' hu hf
        exact endOK o (h1 _ ho) r' m1 res hx' hu hf
      · intro s hs r' m1 ls' st' mem2 nc2 ns2 hx' hok' hfr' hl' hst' hnc2 hns2
        have hs9 := h1 _ hs
        unfold ygoX at hs9
        simp only [Bool.or_eq_true] at hs9
        rcases hs9 with hs9 | hs9
        · obtain ⟨T', hT', e1, e2, e3, e4, θ', g1, g2, g3, g4, g5, g6, -⟩ := arrOK cuts s [] none θ0 hs9 zX.rf (fun p hp => by cases hp) (fun T1 e => by cases e) r' m1 ls' st' mem2 nc2 ns2 hx' hok' hl' hst' hnc2 hns2
          rw [e1, e2]
          exact cut _ T' hT' θ' ls' mem2 nc2 ns2 g1 g2 g3 g4 hok'.2.2.1 g5 g6 hfr' e3 e4 rfl
        · obtain ⟨T', hT', e1, e2, e3, e4, θ', g1, g2, g3, g4, g5, g6, -⟩ := arrOK ex s [] none θ0 hs9 zX.rf (fun p hp => by cases hp) (fun T1 e => by cases e) r' m1 ls' st' mem2 nc2 ns2 hx' hok' hl' hst' hnc2 hns2
          rw [e1, e2]
          exact hX T' hT' θ' ls' mem2 nc2 ns2 ⟨g1, g2, g3, g4, hok'.2.2.1, g5, g6, hfr', e3, e4⟩
    · cases h1
theorem yckcY_ok {f : Nat → Option (Nat × Nat × (Nat → Value))} (hf : yFf f) {K : List (Nat × yK)} {T : List yKq} {ht : List (Nat × Nat × yHt)} {il : List Nat} {stop : Nat → Nat → Bool} {M : mMeth} {c : yKq} {outs : List (yU × List ySr)} {cuts ex : List yTp} (gh : yGh)
    (hT : yAl9 f K T) (hM : zmt c.1 = some M) (hnz : znz (yka c.2.1.1 1) = true) (houts : c.2.1.2.2.2.2.1 = outs.map (·.1)) (h2 : yckcL K T ht il stop M c outs cuts ex = true)
    {Pf : mRes → Prop} {θ0 : List Int} {vs : List Value} {mem : mMem} {nc ns : Nat} (hQ : yQd c.2.2.2 θ0) (hF0 : zFok θ0 (ykF c.2.1))
    (hE : ∀ res, yPf (yEx f) yY K yNn (yPH gh) c.2.1 θ0 mem nc ns res → Pf res)
    (hX : ∀ T ∈ ex, ∀ θ ls mem' nc' ns', yAt (yEx f) yY K yNn (yPH gh) c.2.1 θ0 mem nc ns T θ ls mem' nc' ns' → mGd (yEx f) Pf c.2.1.2.2.2.2.2.2 c.1 T.1 ls [] mem' nc' ns') :
    (∀ T ∈ cuts, ∀ θ ls mem' nc' ns', yAt (yEx f) yY K yNn (yPH gh) c.2.1 θ0 mem nc ns T θ ls mem' nc' ns' → mGd (yEx f) Pf c.2.1.2.2.2.2.2.2 c.1 T.1 ls [] mem' nc' ns') ∧
    (yckcS K T ht il stop M c outs cuts ex = true → zlm θ0 vs (yka c.2.1.1 1) → ych (yEx f) θ0 mem (ykE c.2.1) mem → yTM yY K yNn mem → (∀ t ∈ c.2.1.2.2.1, yPH gh θ0 mem t) → mGd (yEx f) Pf c.2.1.2.2.2.2.2.2 c.1 0 (lv_args 0 vs) [] mem nc ns) := by
  have h9 := yckY_ok (E := yEx f) (mem := mem) (nc := nc) (ns := ns) (vs := vs) (ex := ex) (θ0 := θ0) (PH := yPH gh) (kx := 0) (RI := fun r => r[0]? = some 0 ∧ yQd c.2.2.2 r) (fun r r' m t hx hp => yPH_X hx hp) (fun r r' m t u h1 h2 h3 => yPH_q h1 h2 h3) (fun r r' m t u h1 h2 h3 => yPH_v h1 h2 h3) ysy_ok (fun r hr => hf r hr.1) (fun r r' hx hr => ⟨hx.get hr.1, hr.2.ex hx⟩)
    (fun k0 => yktc_ok fun q hq => ⟨yQd q.2.2.2, by rw [Nat.zero_add]; exact yAl9_ok hT q hq gh, fun r r1 θ F1 th _ _ hF1 hg hθ => yge2_ok hF1 (by simp only [Bool.and_eq_true] at hg; exact hg.2) hθ⟩)
    (fun L => yhk_ok (fun r hr => hr.2) L) (yprm_ok (fun r hr => hf r hr.1) _) (fun mi M hM => zmt_sr9 hM) hM hnz houts (yckL_env h2) ⟨hF0.2.1, hQ⟩ hF0 hE
    (fun T hT θ ls mem' nc' ns' ha => by rw [Nat.zero_add]; exact hX T hT θ ls mem' nc' ns' ha)
  rw [Nat.zero_add] at h9
  exact ⟨h9.1, fun h => h9.2 (yckS_env h)⟩
/-! the object, a field put -/
theorem yobj75 {K : List (Nat × yK)} {m : mMem} (hT : yTM yY K yNn m) : ∃ fs, m[75]? = some (.inr (11, fs)) ∧ fs.length = 35 := by
  obtain ⟨fs, h1, h2, -⟩ := yobj hT (p := 75) (by decide +kernel) (by decide +kernel)
  exact ⟨fs, h1, h2⟩
theorem y75get {m : mMem} {fs : List Value} (h : m[75]? = some (.inr (11, fs))) (j : Nat) : yva m 75 j = fs[j]? := by
  unfold yva
  rw [h]
  rfl
theorem yput {K : List (Nat × yK)} {m : mMem} {fs : List Value} {k : Nat} {v : Value} (hT : yTM yY K yNn m) (h : m[75]? = some (.inr (11, fs))) (hl : fs.length = 35) (hk : k < 35) (hv : yok (ykk K (ztg 7 yY 75).2.2.2) k v) :
    yTM yY K yNn (m.set 75 (.inr (11, fs.set k v))) ∧ ywr m 75 k v (m.set 75 (.inr (11, fs.set k v))) := by
  have h1 : ∀ j, yv1 (.inr (11, fs.set k v)) j = if j = k then some v else yv1 (.inr (11, fs)) j := by
    intro j
    show (fs.set k v)[j]? = if j = k then some v else fs[j]?
    by_cases hj : j = k
    · subst hj
      rw [if_pos rfl, List.getElem?_set_self (by omega)]
    · rw [if_neg hj, List.getElem?_set_ne (fun e => hj e.symm)]
  refine ⟨yset_tm hT h (fun hs => ?_) h1 hv, yset_wr h h1⟩
  obtain ⟨a, b, c⟩ := hs
  exact ⟨a, b, by rw [List.length_set]; exact c⟩
theorem ywr.fr {m m' : mMem} {p k : Nat} {v : Value} (h : ywr m p k v m') : yFr [(p, k, k + 1)] m m' := fun q j hn => by
  rw [h q j, if_neg]
  rintro ⟨rfl, rfl⟩
  exact hn ⟨_, List.mem_singleton.mpr rfl, rfl, Nat.le_refl _, Nat.lt_succ_self _⟩
/-! single steps -/
section
variable {f : Nat → Option (Nat × Nat × (Nat → Value))} {P : mRes → Prop} {d mi pc : Nat} {ls : mLs} {st : List Value} {mem : mMem} {nc ns : Nat} {M : mMeth} {a b c : Nat} {e : Int}
theorem sAload {k : Fin 4} {v : Nat} (hM : zmt mi = some M) (hq : M.2.2.2.2.1.find? (fun q => q.1 == pc) = some (pc, .aload_n k, 1, 0, b, c, e)) (hl : mld ls k = some (.ref v)) (h : mGd (yEx f) P d mi (pc + 1) ls (.ref v :: st) mem nc ns) : mGd (yEx f) P d mi pc ls st mem nc ns :=
  mGd_plain (pc' := pc + 1) (ls' := ls) (st' := .ref v :: st) (mem' := mem) hM hq (show (0 : Nat) < 7 by omega) (by simp) (by simp) (by simp) (by simp [mplain, mdef, mpush, mload, hl, mkind]) h
theorem sIload {k : Fin 4} {v : Int32} (hM : zmt mi = some M) (hq : M.2.2.2.2.1.find? (fun q => q.1 == pc) = some (pc, .iload_n k, 1, 0, b, c, e)) (hl : mld ls k = some (.int v)) (h : mGd (yEx f) P d mi (pc + 1) ls (.int v :: st) mem nc ns) : mGd (yEx f) P d mi pc ls st mem nc ns :=
  mGd_plain (pc' := pc + 1) (ls' := ls) (st' := .int v :: st) (mem' := mem) hM hq (show (0 : Nat) < 7 by omega) (by simp) (by simp) (by simp) (by simp [mplain, mdef, mpush, mload, hl, mkind]) h
theorem sIload2 {k : Nat} {v : Int32} (hM : zmt mi = some M) (hq : M.2.2.2.2.1.find? (fun q => q.1 == pc) = some (pc, .iload k, 2, 0, b, c, e)) (hl : mld ls k = some (.int v)) (h : mGd (yEx f) P d mi (pc + 2) ls (.int v :: st) mem nc ns) : mGd (yEx f) P d mi pc ls st mem nc ns :=
  mGd_plain (pc' := pc + 2) (ls' := ls) (st' := .int v :: st) (mem' := mem) hM hq (show (0 : Nat) < 7 by omega) (by simp) (by simp) (by simp) (by simp [mplain, mdef, mpush, mload, hl, mkind]) h
theorem sGet {k : Nat} {fs : List Value} {v : Value} (hM : zmt mi = some M) (hq : M.2.2.2.2.1.find? (fun q => q.1 == pc) = some (pc, .getfield k, 3, 0, 11, c, e)) (ho : mem[75]? = some (.inr (11, fs))) (hv : fs[c]? = some v) (hk : (mkind 0 v || mkind 1 v || mkind 2 v) = true) (h : mGd (yEx f) P d mi (pc + 3) ls (v :: st) mem nc ns) : mGd (yEx f) P d mi pc ls (.ref 75 :: st) mem nc ns :=
  mGd_plain (pc' := pc + 3) (ls' := ls) (st' := v :: st) (mem' := mem) hM hq (show (0 : Nat) < 7 by omega) (by simp) (by simp) (by simp) (by simp only [mplain, ho, hv]; simp only [Bool.or_eq_true] at hk; simp [hk]) h
theorem sPut {k : Nat} {fs : List Value} {v : Value} {ty : FieldType} (hM : zmt mi = some M) (hq : M.2.2.2.2.1.find? (fun q => q.1 == pc) = some (pc, .putfield k, 3, 0, 11, c, e)) (ho : mem[75]? = some (.inr (11, fs))) (ht : (zft_ 11)[c]? = some ty) (hf : mfit ty v = true) (hk : (mkind 0 v || mkind 1 v || mkind 2 v) = true) (hc : c < fs.length) (h : mGd (yEx f) P d mi (pc + 3) ls st (mem.set 75 (.inr (11, fs.set c v))) nc ns) : mGd (yEx f) P d mi pc ls (v :: .ref 75 :: st) mem nc ns := by
  refine mGd_plain (pc' := pc + 3) (ls' := ls) (st' := st) (mem' := mem.set 75 (.inr (11, fs.set c v))) hM hq (show (0 : Nat) < 7 by omega) (by simp) (by simp) (by simp) ?_ h
  have ht' : ((yEx f).2.1 11)[c]? = some ty := ht
  simp only [mplain, ho, ht']
  rw [if_pos trivial, if_pos]
  simp only [Bool.and_eq_true, decide_eq_true_eq]
  exact ⟨⟨hf, hk⟩, hc⟩
theorem sRet (hM : zmt mi = some M) (hq : M.2.2.2.2.1.find? (fun q => q.1 == pc) = some (pc, .return_, 1, 0, b, c, e)) (ht : M.2.2.2.1 = none) (h : P (.inr none, mem, nc, ns)) : mGd (yEx f) P d mi pc ls [] mem nc ns :=
  mGd_ret hM hq (show (0 : Nat) < 7 by omega) rfl ht h
theorem sIret {x : Int32} (hM : zmt mi = some M) (hq : M.2.2.2.2.1.find? (fun q => q.1 == pc) = some (pc, .ireturn, 1, 0, b, c, e)) (ht : M.2.2.2.1 = some .int) (h : P (.inr (some (.int x)), mem, nc, ns)) : mGd (yEx f) P d mi pc ls [.int x] mem nc ns :=
  mGd_iret hM hq (show (0 : Nat) < 7 by omega) rfl ht (by rfl) (by rfl) h
theorem sConst {k : Int} {v : Int32} {k' : _} (hM : zmt mi = some M) (hq : M.2.2.2.2.1.find? (fun q => q.1 == pc) = some (pc, .iconst k', 1, 0, b, c, e)) (hv : Int32.ofInt k' = v) (h : mGd (yEx f) P d mi (pc + 1) ls (.int v :: st) mem nc ns) : mGd (yEx f) P d mi pc ls st mem nc ns :=
  mGd_plain (pc' := pc + 1) (ls' := ls) (st' := .int v :: st) (mem' := mem) hM hq (show (0 : Nat) < 7 by omega) (by simp) (by simp) (by simp) (by simp [mplain, mdef, mpush, hv]) h
end
