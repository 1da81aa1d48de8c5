/-! set: the settings are told, one by one -/
section
def yS9 : List Nat := [0, 1, 2, 3, 4, 5, 6]
def yF7b : zB := [(1, 0, 3072), (2, 0, 3072), (3, 0, 0), (4, (-2147483648), 2147483647), (5, (-2147483648), 2147483647), (6, (-2147483648), 2147483647), (7, (-2147483648), 2147483647), (8, (-2147483648), 2147483647), (9, (-2147483648), 2147483647), (10, (-2147483648), 2147483647)]
def yF7 : zF := (11, yF7b, [(1, 2, 6)], [])
def yE7a : List yE := [(2, (1, 0, 0), (1, 4, 0), 0), (2, (1, 0, 1), (1, 5, 0), 0), (2, (1, 0, 2), (1, 6, 0), 0), (2, (1, 0, 3), (1, 7, 0), 0), (2, (1, 0, 4), (1, 8, 0), 0), (2, (1, 0, 5), (1, 9, 0), 0), (2, (1, 0, 6), (1, 10, 0), 0)]
def yE7b : List yE := [(77, (1, 0, 20), (1, 4, 0), 0), (77, (1, 0, 21), (1, 5, 0), 0), (77, (1, 0, 22), (1, 6, 0), 0), (77, (1, 0, 23), (1, 7, 0), 0), (77, (1, 0, 24), (1, 8, 0), 0), (77, (1, 0, 25), (1, 9, 0), 0), (77, (1, 0, 26), (1, 10, 0), 0)]
def yE7 : List yE := yLE ++ (yE7a ++ yE7b)
def yR7 : List ySr := [(1, 75, 21), (1, 2, 0), (1, 2, 1), (1, 2, 2), (1, 2, 3), (1, 2, 4), (1, 2, 5), (1, 2, 6)]
def yLa7 (s : yS) : Bool := s.2.2.1.isEmpty && Nat.ble s.2.2.2.2.2.2 1 && (match ygm yY yKk yNn (ysy yY yNn) 3 s.2.1 (0, 0, 0) s.2.2.2.1 s.2.2.2.2.1 s.2.2.2.2.2.1 yR7 yF7 yE7 yALW with
  | some (th, F1) => (yLs 6).all (yaf F1 s.2.1 11 th)
  | none => false)
def yLr7 (T : List yKq) (ht : List (Nat × Nat × yHt)) (il : List Nat) : Option (List (yU ⊕ yS)) :=
  yrn yE0 11 yroL yY yKk yNn yLm (yktc 11 yY yKk yNn yLm T) (yhk yY yKk yNn (yht ht) [] []) (yprm yroL yY yKk yNn yLm) (yin9 il 172 55) 100000 1000 (fun _ p => Nat.beq p 23) 300 zm_300 zm_300.2.2.2.2.1 true 490 (yLs 0) [] yF7 yE7 yALW 0
def yLc7 (T : List yKq) (ht : List (Nat × Nat × yHt)) (il : List Nat) : Bool := match yLr7 T ht il with
  | some L => L.all fun o => match o with
    | .inr s => Nat.beq s.1 23 && yLa7 s
    | .inl _ => false
  | none => false
theorem yLc7_ok : yLc7 [yC34] [(127, 0, 1, 1, 0, [0, 1, 2, 3, 4, 5, 6, 7]), (127, 18, 1, 100, 0, [1, 2, 3, 4, 5, 6]), (228, 0, 1, 1, 0, [3, 4, 5, 6, 7]), (228, 112, 1, 100, 0, [1, 2])] [275, 127, 112, 8, 155, 228, 162, 163, 181] = true := by decide +kernel
theorem y7get {t : List Int} {a0 a1 a2 a3 : Int} {k : Nat} {v : Int} (h : (a0 :: a1 :: a2 :: a3 :: t)[4 + k]? = some v) : t[k]? = some v := by
  rw [show 4 + k = k + 1 + 1 + 1 + 1 from by omega] at h
  simpa using h
theorem yLk_7s {f : Nat → Option (Nat × Nat × (Nat → Value))} (hf : yFf f) {L : Nat} (hL : yFL f L) : yLKs f L 490 := by
  intro i hF ls m nc ns P hI k
  obtain ⟨i0, i1, i2, i3, ⟨x, i4, i5⟩, i6, i7, i8⟩ := hI
  have h18 : ∀ k : Nat, k < 7 → yva m 77 (20 + k) = yva m 2 k := i7 (18, 77, 0, (1, 0, 0)) List.mem_cons_self
  have hALW : ∀ t ∈ yALW, yPH (0, 0) [0] m t := fun t ht => i7 t (List.mem_cons_of_mem _ ht)
  have h := yLc7_ok
  unfold yLc7 at h
  split at h
  · rename_i Lo e
    rw [List.all_eq_true] at h
    unfold yLr7 at e
    have n2 : (ztg 7 yY 2).2.2.1 = 7 := by decide +kernel
    have sx : ∀ j : Nat, j < 7 → ∃ y : Int32, yva m 2 j = some (.int y) := fun j hj => by
      obtain ⟨v, v1, ⟨q, q1, q2⟩, -⟩ := yva_ex (p := 2) (j := j) i6 (by decide) (by omega)
      have hq : q.1 = 1 := by
        have : ∀ j, j < 7 → (match zba (ykk yKk (ztg 7 yY 2).2.2.2).1 j with | some q => Nat.beq q.1 1 | none => false) = true := by decide +kernel
        have h9 := this j hj
        rw [q1] at h9
        exact zbe.mp h9
      rw [hq] at q2
      obtain ⟨y, rfl, -⟩ := q2
      exact ⟨y, v1⟩
    obtain ⟨y0, s0⟩ := sx 0 (by omega)
    obtain ⟨y1, s1⟩ := sx 1 (by omega)
    obtain ⟨y2, s2⟩ := sx 2 (by omega)
    obtain ⟨y3, s3⟩ := sx 3 (by omega)
    obtain ⟨y4, s4⟩ := sx 4 (by omega)
    obtain ⟨y5, s5⟩ := sx 5 (by omega)
    obtain ⟨y6, s6⟩ := sx 6 (by omega)
    let r9 : List Int := [0, i, (L : Int), 0, y0.toInt, y1.toInt, y2.toInt, y3.toInt, y4.toInt, y5.toInt, y6.toInt]
    have hr9 : r9 = [0, i, (L : Int), 0, y0.toInt, y1.toInt, y2.toInt, y3.toInt, y4.toInt, y5.toInt, y6.toInt] := rfl
    have hF7 : zFok r9 yF7 := by
      refine ⟨rfl, rfl, fun e he => ?_, fun e he => ?_, fun e he => (by cases he)⟩
      · have b := hF.2.2.1
        simp only [yF7, yF7b, List.mem_cons, List.not_mem_nil, or_false] at he
        rcases he with rfl | rfl | rfl | rfl | rfl | rfl | rfl | rfl | rfl | rfl
        · obtain ⟨v, v1, v2⟩ := b (1, 0, 3072) (by simp [yLF]); exact ⟨v, v1, v2⟩
        · obtain ⟨v, v1, v2⟩ := b (2, 0, 3072) (by simp [yLF]); exact ⟨v, v1, v2⟩
        · exact ⟨0, rfl, by decide, by decide⟩
        · exact ⟨_, rfl, (yi32 y0).1, (yi32 y0).2⟩
        · exact ⟨_, rfl, (yi32 y1).1, (yi32 y1).2⟩
        · exact ⟨_, rfl, (yi32 y2).1, (yi32 y2).2⟩
        · exact ⟨_, rfl, (yi32 y3).1, (yi32 y3).2⟩
        · exact ⟨_, rfl, (yi32 y4).1, (yi32 y4).2⟩
        · exact ⟨_, rfl, (yi32 y5).1, (yi32 y5).2⟩
        · exact ⟨_, rfl, (yi32 y6).1, (yi32 y6).2⟩
      · simp only [yF7, List.mem_cons, List.not_mem_nil, or_false] at he
        subst he
        obtain ⟨u, v, e1, e2, e3⟩ := hF.2.2.2.1 (1, 2, 6) (by simp [yLF])
        exact ⟨u, v, e1, e2, e3⟩
    have fa : ∀ (p j n : Nat) (y : Int32), p < 1000 → yva m p j = some (.int y) → r9[n]? = some y.toInt → (((p, (1, 0, (j : Int)), (1, n, 0), 0) : yE).2.2.2 = 0 ∧ ∃ (a : Nat) (v : Value), zd r9 (1, 0, (j : Int)) = some (a : Int) ∧ yvx (yEx f) m p a = some v ∧ zvm r9 v (1, n, 0)) := fun p j n y hp hv hn => by
      refine ⟨rfl, j, .int y, zd_some.mpr ⟨0, rfl, by simp⟩, ?_, zvm_int rfl (zd_some.mpr ⟨_, hn, by simp⟩)⟩
      unfold yvx
      rw [if_pos hp]
      exact hv
    have hfa : yFa (yEx f) r9 m yE7 := by
      intro e he
      simp only [yE7, yLE, yE7a, yE7b, List.mem_append, List.mem_cons, List.not_mem_nil, or_false] at he
      rcases he with rfl | (rfl | rfl | rfl | rfl | rfl | rfl | rfl) | (rfl | rfl | rfl | rfl | rfl | rfl | rfl)
      · exact fa 75 21 3 0 (by omega) i8 rfl
      · exact fa 2 0 4 y0 (by omega) s0 rfl
      · exact fa 2 1 5 y1 (by omega) s1 rfl
      · exact fa 2 2 6 y2 (by omega) s2 rfl
      · exact fa 2 3 7 y3 (by omega) s3 rfl
      · exact fa 2 4 8 y4 (by omega) s4 rfl
      · exact fa 2 5 9 y5 (by omega) s5 rfl
      · exact fa 2 6 10 y6 (by omega) s6 rfl
      · exact fa 77 20 4 y0 (by omega) ((h18 0 (by omega)).trans s0) rfl
      · exact fa 77 21 5 y1 (by omega) ((h18 1 (by omega)).trans s1) rfl
      · exact fa 77 22 6 y2 (by omega) ((h18 2 (by omega)).trans s2) rfl
      · exact fa 77 23 7 y3 (by omega) ((h18 3 (by omega)).trans s3) rfl
      · exact fa 77 24 8 y4 (by omega) ((h18 4 (by omega)).trans s4) rfl
      · exact fa 77 25 9 y5 (by omega) ((h18 5 (by omega)).trans s5) rfl
      · exact fa 77 26 10 y6 (by omega) ((h18 6 (by omega)).trans s6) rfl
    have hok : yOk (yEx f) yY yKk yNn (yPH (0, 0)) r9 m m yF7 yE7 yALW := ⟨hF7, hfa.ch, i6, yPH_gs (P := yALW) (by decide) hALW⟩
    have hR : yLR L r9 := ⟨rfl, rfl⟩
    have hzl : zls r9 ls (yLs 0) := by
      intro j a e
      have := zld_mem e
      simp only [yLs, List.mem_cons, Prod.mk.injEq, List.not_mem_nil, or_false] at this
      rcases this with ⟨rfl, rfl⟩ | ⟨rfl, rfl⟩ | ⟨rfl, rfl⟩ | ⟨rfl, rfl⟩ | ⟨rfl, rfl⟩
      · exact ⟨_, i0, rfl⟩
      · exact ⟨_, i1, rfl⟩
      · exact ⟨_, i2, rfl⟩
      · exact ⟨_, i3, rfl⟩
      · exact ⟨_, i4, zvm_int rfl (zd_some.mpr ⟨i, rfl, by simp [i5]⟩)⟩
    have e9 : ∀ T ht il, yrn (yEx f) 11 yroL yY yKk yNn yLm (yktc 11 yY yKk yNn yLm T) (yhk yY yKk yNn (yht ht) [] []) (yprm yroL yY yKk yNn yLm) (yin9 il 172 55) 100000 = yrn yE0 11 yroL yY yKk yNn yLm (yktc 11 yY yKk yNn yLm T) (yhk yY yKk yNn (yht ht) [] []) (yprm yroL yY yKk yNn yLm) (yin9 il 172 55) 100000 := fun T ht il => yrn_env 100000
    rw [← e9] at e
    have hk9 := fun ht => yhk_ok (gh := (0, 0)) (E := yEx f) (Y := yY) (K := yKk) (N := yNn) (RI := yLR L) (ht := yht ht) (dl := []) (fun r _ q hq => by cases hq) []
    have hT : yAl9 f yKk [yC34] := ⟨yC34_ok hf, trivial⟩
    have h9 := yrn_ok (E := yEx f) (PH := yPH (0, 0)) (RI := yLR L) (kx := 0) (fun r r' m t hx hp => yPH_X hx hp) (yroL_ok hf hL) (fun r r' hx hr => ⟨hx.get hr.1, hx.get hr.2⟩)
      (yktc_ok (k0 := 11) (mods := yLm) (T := [yC34]) fun q hq => ⟨yQd q.2.2.2, by rw [Nat.zero_add]; exact yAl9_ok hT q hq (0, 0), fun r r1 θ F1 th _ _ hF1 hg hθ => yge2_ok hF1 (by simp only [Bool.and_eq_true] at hg; exact hg.2) hθ⟩)
      (fun mi pc als ast F es P Lo e r ls st m0 mem hr => hk9 _ mi pc als ast F es P Lo e r ls st m0 mem ⟨hr, fun p hp => by cases hp⟩)
      (yprm_ok (yroL_ok hf hL) yLm) (fun mi M hM => zmt_sr9 hM) m nc ns _ _ _ _ _ _ _ _ _ _ _ _ _ _ _ e rfl ⟨[], rfl⟩ r9 ls [] m m nc ns P hR hok yFr.rf hzl trivial (Nat.le_add_right _ _) (Nat.le_add_right _ _)
      (fun o ho r' m1 res hx hu _ => absurd (h _ ho) (by simp))
      (fun s hs r' m1 ls' st' m' nc' ns' hx hok _ hl hst hnc hns => by
        rw [Nat.zero_add]
        have hs9 := h _ hs
        simp only [Bool.and_eq_true] at hs9
        obtain ⟨q1, q2⟩ := hs9
        unfold yLa7 at q2
        simp only [Bool.and_eq_true, Nat.ble_eq] at q2
        obtain ⟨⟨p1, p2⟩, p3⟩ := q2
        have hst0 : st' = [] := by
          rw [List.isEmpty_iff.mp p1] at hst
          cases st' with
          | nil => rfl
          | cons _ _ => exact hst.elim
        subst hst0
        have hx3 : zX [0, i, (L : Int)] r' := by
          obtain ⟨t, ht⟩ := hx
          exact ⟨[0, y0.toInt, y1.toInt, y2.toInt, y3.toInt, y4.toInt, y5.toInt, y6.toInt] ++ t, by rw [ht]; rfl⟩
        split at p3
        · rename_i th F1 eg
          obtain ⟨r1, θ, g1, g2, g3, g4, g5, g6, g7, g8⟩ := ygm_ok (PH := yPH (0, 0)) (rv := (0, 0, 0)) (fun r r' m t hx hp => yPH_X hx hp) (fun r r' m t u h1 h2 h3 => yPH_q h1 h2 h3) (fun r r' m t u h1 h2 h3 => yPH_v h1 h2 h3) ysy_ok hok hl (v := .int 0) trivial hx3 rfl eg
          have hMv := yMv_of g4.1 g7 g8
          obtain ⟨t, ht⟩ := g3
          have hlen := g4.1
          rw [ht, List.length_append] at hlen
          have e3 : yF7.1 = 11 := rfl
          have e4 : ([0, i, (L : Int)] : List Int).length = 3 := rfl
          have θ0 : θ[0]? = some 0 := g4.2.1
          have θ1 : θ[1]? = some i := by rw [ht]; rfl
          rw [List.all_eq_true] at p3
          have hzl' : zls θ ls' (yLs 6) := by
            intro j a e
            have := p3 (j, a) (zld_mem e)
            unfold yaf at this
            split at this
            · rename_i b eb
              obtain ⟨v, v1, v2⟩ := hl j b eb
              refine ⟨v, v1, ?_⟩
              simp only [Bool.or_eq_true, Bool.and_eq_true, Nat.ble_eq] at this
              rcases this with (⟨⟨⟨b1, b2⟩, b3⟩, b4⟩ | ⟨⟨b1, b2⟩, b3⟩) | ⟨b1, b2⟩
              · obtain ⟨x, rfl, hx9⟩ := zvm_i v2 b2
                obtain ⟨y, y1, y2⟩ := ymv_rev hMv g4.1 (Or.inl (zbe.mp b1)) (show a.2.1 < 11 from by omega)
                have hx8 := g1.den hx9
                have y3 : zd r1 b = some y := by rw [zve_d b4]; exact y2
                rw [y3] at hx8
                cases hx8
                exact zvm_int (zbe.mp b1) y1
              · unfold zvm
                rw [zbe.mp b1]
                show v = .ref a.2.1
                rw [zvm_r v2 b2, zbe.mp b3]
              · obtain ⟨x, rfl⟩ := zvm_l v2 (by rw [Nat.ble_eq]; exact b2)
                unfold zvm
                rw [zbe.mp b1]
                exact ⟨x, rfl⟩
            · cases this
          have rf : ∀ (k p : Nat), zld (yLs 6) k = some (2, p, 0) → mld ls' k = some (.ref p) := fun k p e => by
            obtain ⟨v, v1, v2⟩ := hzl' k _ e
            rw [v1, zvm_r v2 rfl]
          have val : ∀ (p j n : Nat), p < 1000 → ((p, (1, 0, (j : Int)), (1, n, 0), 0) : yE) ∈ yE7 → ∃ y : Int32, yva m' p j = some (.int y) ∧ θ[n]? = some y.toInt := fun p j n hp hm => by
            obtain ⟨-, a, v, a1, a2, a3⟩ := g5 _ hm
            obtain ⟨y, rfl, hy⟩ := zvm_i a3 rfl
            obtain ⟨u, u1, u2⟩ := zd_some.mp a1
            have u1 : θ[0]? = some u := u1
            rw [θ0] at u1
            cases u1
            have ea : a = j := by dsimp only at u2; omega
            subst ea
            obtain ⟨w, w1, w2⟩ := zd_some.mp hy
            have w1 : θ[n]? = some w := w1
            unfold yvx at a2
            rw [if_pos hp] at a2
            refine ⟨y, a2, ?_⟩
            rw [w1]
            dsimp only at w2
            rw [w2]
            simp
          have same : ∀ (j n : Nat), ((2, (1, 0, (j : Int)), (1, n, 0), 0) : yE) ∈ yE7 → ((77, (1, 0, ((20 + j : Nat) : Int)), (1, n, 0), 0) : yE) ∈ yE7 → yva m' 77 (20 + j) = yva m' 2 j := fun j n h1 h2 => by
            obtain ⟨y, a1, a2⟩ := val 2 j n (by omega) h1
            obtain ⟨z, b1, b2⟩ := val 77 (20 + j) n (by omega) h2
            rw [a2] at b2
            rw [a1, b1, Int32.toInt_inj.mp (Option.some.inj b2).symm]
          have h18' : yPH (0, 0) [0] m' (18, 77, 0, (1, 0, 0)) := by
            intro j hj
            have hj' : j = 0 ∨ j = 1 ∨ j = 2 ∨ j = 3 ∨ j = 4 ∨ j = 5 ∨ j = 6 := by omega
            rcases hj' with rfl | rfl | rfl | rfl | rfl | rfl | rfl
            · exact same 0 4 (by simp [yE7, yE7a]) (by simp [yE7, yE7b])
            · exact same 1 5 (by simp [yE7, yE7a]) (by simp [yE7, yE7b])
            · exact same 2 6 (by simp [yE7, yE7a]) (by simp [yE7, yE7b])
            · exact same 3 7 (by simp [yE7, yE7a]) (by simp [yE7, yE7b])
            · exact same 4 8 (by simp [yE7, yE7a]) (by simp [yE7, yE7b])
            · exact same 5 9 (by simp [yE7, yE7a]) (by simp [yE7, yE7b])
            · exact same 6 10 (by simp [yE7, yE7a]) (by simp [yE7, yE7b])
          have h21' : yva m' 75 21 = some (.int 0) := by
            obtain ⟨y, a1, a2⟩ := val 75 21 3 (by omega) (by simp [yE7, yLE])
            obtain ⟨v, v1, v2, v3⟩ := g4.2.2.1 (3, 0, 0) (by simp [yF7, yF7b])
            dsimp only at v1 v2 v3
            rw [a2] at v1
            cases v1
            have : y = 0 := Int32.toInt_inj.mp ((show y.toInt = 0 by omega).trans (by decide))
            subst this
            exact a1
          rw [zbe.mp q1]
          refine k ls' m' nc' ns' ⟨rf 0 1000 rfl, rf 1 0 rfl, rf 2 75 rfl, rf 3 84 rfl, ?_, hok.2.2.1, fun t ht => ?_, h21'⟩ (by omega) (by omega)
          · obtain ⟨v, v1, v2⟩ := hzl' 4 (1, 1, 6) rfl
            obtain ⟨x, rfl, hx9⟩ := zvm_i v2 rfl
            obtain ⟨u, u1, u2⟩ := zd_some.mp hx9
            have u1 : θ[1]? = some u := u1
            rw [θ1] at u1
            cases u1
            exact ⟨x, v1, u2⟩
          · rcases List.mem_cons.mp ht with rfl | ht
            · exact h18'
            · exact yPH_gs (P := yALW) (by decide) g6 t ht
        · cases p3)
    rw [Nat.zero_add] at h9
    exact h9
  · cases h
end
