/-! hooks are sound -/
section
variable {gh : yGh}
theorem yh3a_mem {F : zF} {p : Nat} {i : zV} : ∀ {es : List yE} {e : yE}, yh3a F p i es = some e → e ∈ es
  | [], _, h => by cases h
  | e9 :: es, e, h => by
    unfold yh3a at h
    cases c : (Nat.beq e9.1 p && Nat.beq e9.2.2.2 0 && Nat.beq e9.2.2.1.1 1 && Nat.beq (yal F i e9.2.1) 2 && (yle 2 F i e9.2.1 || yle 2 F e9.2.1 i)) with
    | true => rw [c] at h; cases h; exact List.mem_cons_self
    | false => rw [c] at h; exact List.mem_cons_of_mem _ (yh3a_mem h)
theorem yPH_k {r : List Int} {m : mMem} {t : yQp} {k a : Nat} (h : yPH gh r m t) (h1 : t.1 = k) (h2 : t.2.1 = a) (n4 : k ≠ 4) (n7 : k ≤ 6) : yPH gh r m (k, a, 0, zk 0) := by
  unfold yPH at h ⊢
  rw [h1, h2] at h
  split at h
  · exact h
  · exact h
  · exact h
  · exact absurd rfl n4
  · exact h
  · exact h
  all_goals first | exact absurd n7 (by decide) | trivial
theorem yPH_p {r : List Int} {m : mMem} {t : yQp} {k : Nat} (h : yPH gh r m t) (h1 : t.1 = k) (hk : k = 1 ∨ k = 3 ∨ k = 5) : yPH gh r m (k, 0, 0, zk 0) := by
  unfold yPH at h ⊢
  rw [h1] at h
  rcases hk with rfl | rfl | rfl <;> exact h
theorem yh_one {E : mEnv} {Y : zT yC 7} {K : List (Nat × yK)} {N : Nat} {r r' : List Int} {m1 mem : mMem} {a : yHs} {L : List yHs} (h : a ∈ L) (hx : zX r r') (h1 : zFok r' a.1) (h2 : ych E r' m1 a.2.1 mem) (h3 : yTM Y K N mem) (h4 : ∀ t ∈ a.2.2, yPH gh r' m1 t) : ∃ a ∈ L, ∃ r' m1, zX r r' ∧ yOk E Y K N (yPH gh) r' m1 mem a.1 a.2.1 a.2.2 := ⟨a, h, r', m1, hx, h1, h2, h3, h4⟩
section
variable {E : mEnv} {Y : zT yC 7} {K : List (Nat × yK)} {N : Nat} {r : List Int} {m0 mem : mMem} {F : zF} {es : List yE} {P : yP} {ls : mLs} {als : zL} {st : List Value} {ast : List zV} {L : List yHs}
theorem yh_1_ok {k : Nat} {cs : List Int} (hok : yOk E Y K N (yPH gh) r m0 mem F es P) (hl : zls r ls als) (hs : zlm r st ast) (h : yh_1 k cs als ast F es P = some L) : ∃ a ∈ L, ∃ r' m1, zX r r' ∧ yOk E Y K N (yPH gh) r' m1 mem a.1 a.2.1 a.2.2 := by
  obtain ⟨hF, hc, hT, hP⟩ := hok
  unfold yh_1 at h
  split at h
  · rename_i v ev
    cases c : Nat.beq v.1 1 with
    | false => rw [c] at h; cases h
    | true =>
      rw [c] at h
      cases h
      obtain ⟨w, hw⟩ := yhv_ok hl hs ev
      obtain ⟨x, -, hx⟩ := zvm_i hw c
      obtain ⟨a, a1, a2, a3⟩ := yhc_ok (es := es) (P := P) hx (l := cs) hF
      exact ⟨a, a1, r, m0, zX.rf, a2, by rw [a3]; exact hc, hT, by rw [a3]; exact hP⟩
  · cases h
theorem yh_2_ok {j : Nat} (hok : yOk E Y K N (yPH gh) r m0 mem F es P) (h : yh_2 j ast F es P Y K N = some L) : ∃ a ∈ L, ∃ r' m1, zX r r' ∧ yOk E Y K N (yPH gh) r' m1 mem a.1 a.2.1 a.2.2 := by
  obtain ⟨hF, hc, hT, hP⟩ := hok
  unfold yh_2 at h
  split at h
  · rename_i a rr
    cases c : (Nat.beq a.1 2 && Nat.ble (Nat.succ a.2.1) N && Nat.ble (Nat.succ j) (ztg 7 Y a.2.1).2.2.1) with
    | false => rw [c] at h; cases h
    | true =>
      rw [c] at h
      simp only [cond_true] at h
      simp only [Bool.and_eq_true, Nat.ble_eq] at c
      obtain ⟨⟨c1, c2⟩, c3⟩ := c
      split at h
      · cases h
      · split at h
        · rename_i l h9 ez
          cases h
          have hp : a.2.1 < N := by omega
          obtain ⟨v, v1, ⟨⟨q, q1, q2⟩, -⟩⟩ := yva_ex (j := j) hT hp (by omega)
          rw [ez] at q1
          cases q1
          obtain ⟨b, rfl, b1, b2⟩ := q2
          refine yh_one (m1 := m0) (r' := r) (yh2_mem (b := b) (by dsimp only at b1 b2; omega) (by dsimp only at b1 b2; omega)) (zX.rf) (hF) (hc.fact (i := j) (zk_d hF _) (by rw [yvx_va hT hp]; exact v1) (show Value.ref b = .ref b from rfl)) (hT) (hP)
        · cases h
  · cases h
theorem yh_3_ok (hok : yOk E Y K N (yPH gh) r m0 mem F es P) (hs : zlm r st ast) (h : yh_3 ast F es P Y N = some L) : ∃ a ∈ L, ∃ r' m1, zX r r' ∧ yOk E Y K N (yPH gh) r' m1 mem a.1 a.2.1 a.2.2 := by
  obtain ⟨hF, hc, hT, hP⟩ := hok
  unfold yh_3 at h
  split at h
  · rename_i i a rr
    obtain ⟨v0, vs, rfl, hv0, hvs⟩ := zlm_cons hs
    cases c : (Nat.beq i.1 1 && Nat.beq a.1 2) with
    | false => rw [c] at h; cases h
    | true =>
      rw [c] at h
      simp only [cond_true] at h
      simp only [Bool.and_eq_true] at c
      obtain ⟨x, rfl, hx⟩ := zvm_i hv0 c.1
      split at h
      · cases h
      · rename_i e ee
        split at h
        · rename_i u eu
          cases h
          obtain ⟨k, hk⟩ := ych_pl hc e (yh3a_mem ee)
          obtain ⟨y, y1, y2⟩ := yk9_n hF hc hT hk eu
          by_cases hxk : x.toInt = (k : Int)
          · rw [hxk] at hx
            obtain ⟨F1, e1, h1⟩ := yeqs_ok (k0 := 0) hF hx hk
            have hp : a.2.1 < N := by
              unfold yk9 at eu
              cases c2 : (Nat.ble (Nat.succ a.2.1) N && yin F e.2.1 0 (.ofNat (ztg 7 Y a.2.1).2.2.1 - 1)) with
              | false => rw [c2] at eu; cases eu
              | true => simp only [Bool.and_eq_true, Nat.ble_eq] at c2; omega
            have hu1 : u.1 = 1 := by
              unfold yk9 at eu
              cases c2 : (Nat.ble (Nat.succ a.2.1) N && yin F e.2.1 0 (.ofNat (ztg 7 Y a.2.1).2.2.1 - 1)) with
              | false => rw [c2] at eu; cases eu
              | true =>
                rw [c2] at eu
                simp only [cond_true] at eu
                split at eu
                · rename_i b eb
                  cases c3 : Nat.beq b.1 1 with
                  | false => rw [c3] at eu; cases eu
                  | true => rw [c3] at eu; cases eu; exact zbe.mp c3
                · cases eu
            have hfact : ych E r m0 ((a.2.1, i, u, 0) :: es) mem := hc.fact hx (by rw [yvx_va hT hp]; exact y1) (zvm_int hu1 y2)
            rw [e1]
            cases ev : yk9 F es Y N a.2.1 i with
            | none => exact yh_one (m1 := m0) (r' := r) (List.mem_append_right _ (List.mem_singleton.mpr rfl)) (zX.rf) (h1) (hfact) (hT) (hP)
            | some w =>
              obtain ⟨z, z1, z2⟩ := yk9_n hF hc hT hx ev
              rw [y1] at z1
              cases z1
              obtain ⟨F2, e2, h2⟩ := yeqs_ok (k0 := 0) h1 z2 y2
              simp only [e2]
              exact yh_one (m1 := m0) (r' := r) (List.mem_append_right _ (List.mem_singleton.mpr rfl)) (zX.rf) (h2) (hfact) (hT) (hP)
          · obtain ⟨F1, e1, h1⟩ := ynes_ok (k0 := 0) hF hx hk hxk
            rw [e1]
            exact yh_one (m1 := m0) (r' := r) (List.mem_append_left _ (List.mem_singleton.mpr rfl)) (zX.rf) (h1) (hc) (hT) (hP)
        · cases h
  · cases h
theorem yrc_i {F' : zF} {es' : List yE} {p j : Nat} {a : zV} (hF : zFok r F) (hT : yTM Y K N mem) (hc : ych E r m0 es mem) (h : yrc F es Y K N p j = some (a, F', es')) (ha : Nat.beq a.1 1 = true) :
    ∃ (x : Int32) (r' : List Int), p < N ∧ yva mem p j = some (.int x) ∧ zX r r' ∧ zFok r' F' ∧ ych E r' m0 es' mem ∧ zd r' a = some x.toInt := by
  obtain ⟨v, r', h1, h2, h3, h4, h5, h6⟩ := yrc_ok hF hT hc h
  obtain ⟨x, rfl, hx⟩ := zvm_i h6 ha
  exact ⟨x, r', h1, h2, h3, h4, h5, hx⟩
theorem yh_4_ok (hok : yOk E Y K N (yPH gh) r m0 mem F es P) (h : yh_4 F es P Y K N = some L) : ∃ a ∈ L, ∃ r' m1, zX r r' ∧ yOk E Y K N (yPH gh) r' m1 mem a.1 a.2.1 a.2.2 := by
  obtain ⟨hF, hc, hT, hP⟩ := hok
  unfold yh_4 at h
  cases c : (yhp P 1 && (es.all (yut F (1, 0, 0, zk 0))) && !(ycE F es Y N) && Nat.ble 63 N) with
  | false => rw [c] at h; cases h
  | true =>
    rw [c] at h
    simp only [cond_true] at h
    simp only [Bool.and_eq_true, Nat.ble_eq] at c
    obtain ⟨⟨⟨c1, c2⟩, -⟩, c4⟩ := c
    obtain ⟨t, ht, t1⟩ := yhp_get c1
    obtain ⟨a0, e0, p1, p2, p3, p4⟩ := yut_all hF hc c2 (yPH_p (hP t ht) t1 (Or.inl rfl))
    split at h
    · rename_i a F1 es1 ea
      cases ca : Nat.beq a.1 1 with
      | false => rw [ca] at h; cases h
      | true =>
        rw [ca] at h
        simp only [cond_true] at h
        obtain ⟨x, r1, -, x1, x2, x3, x4, x5⟩ := yrc_i hF hT hc ea ca
        rw [p1] at x1
        cases x1
        obtain ⟨g1, g2, g3⟩ := zfr_ok (l := 0) (h := 200) (v := (e0 : Int)) x3 (by omega) (by omega)
        have hz : zd (r1 ++ [(e0 : Int)]) (1, F1.1, 0) = some (e0 : Int) := zd_some.mpr ⟨_, g2, by simp⟩
        obtain ⟨F2, f1, f2⟩ := yas_ok (k0 := 0) g1 (g3.den x5) hz p2
        rw [f1] at h
        cases h
        refine yh_one (m1 := m0) (r' := r1 ++ [(e0 : Int)]) (List.mem_singleton.mpr rfl) (x2.tr g3) (f2) ((x4.ex g3).fact (i := e0) hz (by rw [yvx_va hT (by omega)]; exact p4) (zvm_int (x := -1) rfl (zk_d g1 (-1)))) (hT) (fun t ht => yPH_X (x2.tr g3) (hP t ht))
    · cases h
theorem yh_5_ok (hok : yOk E Y K N (yPH gh) r m0 mem F es P) (h : yh_5 F es P Y K N = some L) : ∃ a ∈ L, ∃ r' m1, zX r r' ∧ yOk E Y K N (yPH gh) r' m1 mem a.1 a.2.1 a.2.2 := by
  obtain ⟨hF, hc, hT, hP⟩ := hok
  unfold yh_5 at h
  cases c : (yhp P 5 && (es.all (yut F (5, 0, 0, zk 0))) && Nat.ble 73 N) with
  | false => rw [c] at h; cases h
  | true =>
    rw [c] at h
    simp only [cond_true] at h
    simp only [Bool.and_eq_true, Nat.ble_eq] at c
    obtain ⟨⟨c1, c2⟩, c4⟩ := c
    obtain ⟨t, ht, t1⟩ := yhp_get c1
    obtain ⟨ca, oa, p1, p2, p3⟩ := yut_all hF hc c2 (yPH_p (hP t ht) t1 (Or.inr (Or.inr rfl)))
    split at h
    · rename_i o F1 es1 eo
      split at h
      · rename_i c F2 es2 ec
        cases cc : (Nat.beq o.1 1 && Nat.beq c.1 1 && yge 2 F2 o 1 && yle 2 F2 c (zk 100)) with
        | false => rw [cc] at h; cases h
        | true =>
          rw [cc] at h
          simp only [cond_true] at h
          simp only [Bool.and_eq_true] at cc
          obtain ⟨⟨⟨d1, d2⟩, d3⟩, d4⟩ := cc
          obtain ⟨x, r1, -, x1, x2, x3, x4, x5⟩ := yrc_i hF hT hc eo d1
          obtain ⟨y, r2, -, y1, y2, y3, y4, y5⟩ := yrc_i x3 hT x4 ec d2
          rw [p2] at x1
          rw [p1] at y1
          cases x1
          cases y1
          have ho := yge_ok y3 2 (y2.den x5) d3
          have h100 := yle_ok y3 2 y5 (zk_d y3 _) d4
          obtain ⟨w, w1, w2, w3, w4⟩ := p3 (oa.toInt - 1).toNat (by omega)
          obtain ⟨g1, g2, g3⟩ := zfr_ok (l := 0) (h := 99) (v := w.toInt) y3 (by omega) (by omega)
          have hz : ∀ k : Int, zd (r2 ++ [w.toInt]) (1, F2.1, k) = some (w.toInt + k) := fun k => zd_some.mpr ⟨_, g2, rfl⟩
          have hz0 : zd (r2 ++ [w.toInt]) (1, F2.1, 0) = some w.toInt := by rw [hz 0]; simp
          obtain ⟨F3, f1, f2⟩ := yas_ok (k0 := 0) g1 (hz 1) (g3.den y5) (by omega)
          rw [f1] at h
          simp only at h
          split at h
          · rename_i z F4 ez
            cases h
            obtain ⟨q, r3, k1, k2, k3, k4, k5⟩ := ybi_ok (x := w) (y := 5) f2 hz0 (zk_d f2 5) ez
            cases k1
            have hm : (w * 5).toInt = w.toInt * 5 := by
              have := zmul_i (x := w) (y := 5) (by rw [show (5 : Int32).toInt = 5 from rfl, zI0e]; omega) (by rw [show (5 : Int32).toInt = 5 from rfl, zI1e]; omega)
              rw [this]
              rfl
            have xx : zX r r3 := (x2.tr y2).tr (g3.tr k2)
            have c1' : ych E r3 m0 ((72, zsh o (-1), (1, F2.1, 0), 0) :: es2) mem := by
              refine (y4.ex (g3.tr k2)).fact (i := (oa.toInt - 1).toNat) ?_ (by rw [yvx_va hT (by omega)]; exact w1) (zvm_int rfl (k2.den hz0))
              have := zsh_d (n := -1) ((y2.tr (g3.tr k2)).den x5)
              rw [this]
              congr 1
              omega
            refine yh_one (m1 := m0) (r' := r3) (List.mem_singleton.mpr rfl) (xx) (k3) (c1'.fact (i := 5 * w.toInt.toNat) ?_ (by rw [yvx_va hT (by omega)]; exact w4) (zvm_int (x := 5) rfl (zk_d k3 5))) (hT) (fun t ht => yPH_X xx (hP t ht))
            rw [k4, hm]
            congr 1
            omega
          · cases h
      · cases h
    · cases h
theorem yh_6_ok (hok : yOk E Y K N (yPH gh) r m0 mem F es P) (h : yh_6 F es P Y K N = some L) : ∃ a ∈ L, ∃ r' m1, zX r r' ∧ yOk E Y K N (yPH gh) r' m1 mem a.1 a.2.1 a.2.2 := by
  obtain ⟨hF, hc, hT, hP⟩ := hok
  unfold yh_6 at h
  cases c : (yh1 P 6 77 && (es.all (yut F (6, 77, 0, zk 0)))) with
  | false => rw [c] at h; cases h
  | true =>
    rw [c] at h
    simp only [cond_true] at h
    simp only [Bool.and_eq_true] at c
    obtain ⟨t, ht, t1, t2⟩ := yh1_get c.1
    obtain ⟨xa, ya, p1, p2, p3⟩ := yut_all hF hc c.2 (yPH_k (hP t ht) t1 t2 (by decide) (by decide))
    split at h
    · rename_i a F1 es1 ea
      split at h
      · rename_i b F2 es2 eb
        cases cc : (Nat.beq a.1 1 && Nat.beq b.1 1) with
        | false => rw [cc] at h; cases h
        | true =>
          rw [cc] at h
          simp only [cond_true] at h
          cases h
          simp only [Bool.and_eq_true] at cc
          obtain ⟨x, r1, -, x1, x2, x3, x4, x5⟩ := yrc_i hF hT hc ea cc.1
          obtain ⟨y, r2, -, y1, y2, y3, y4, y5⟩ := yrc_i x3 hT x4 eb cc.2
          dsimp only at p1 p2
          rw [p1] at x1
          rw [p2] at y1
          cases x1
          cases y1
          have xx := x2.tr y2
          rcases p3 with ⟨q1, q2⟩ | ⟨q1, q2⟩
          · obtain ⟨F3, f1, f2⟩ := yeqs_ok (k0 := 0) y3 (y2.den x5) (by rw [q1]; exact zk_d y3 0)
            obtain ⟨F4, f3, f4⟩ := yeqs_ok (k0 := 0) f2 y5 (by rw [q2]; exact zk_d f2 0)
            rw [f1]
            simp only [f3]
            exact yh_one (m1 := m0) (r' := r2) (List.mem_append_left _ (List.mem_singleton.mpr rfl)) (xx) (f4) (y4) (hT) (fun t ht => yPH_X xx (hP t ht))
          · obtain ⟨F3, f1, f2⟩ := yas_ok (k0 := 0) y3 (zk_d y3 1) (y2.den x5) q1
            obtain ⟨F4, f3, f4⟩ := yas_ok (k0 := 0) f2 (zk_d f2 1) y5 q2
            rw [f1]
            simp only [f3]
            exact yh_one (m1 := m0) (r' := r2) (List.mem_append_right _ (List.mem_singleton.mpr rfl)) (xx) (f4) (y4) (hT) (fun t ht => yPH_X xx (hP t ht))
      · cases h
    · cases h
theorem yh_7_ok (hok : yOk E Y K N (yPH gh) r m0 mem F es P) (h : yh_7 ast F es P Y N = some L) : ∃ a ∈ L, ∃ r' m1, zX r r' ∧ yOk E Y K N (yPH gh) r' m1 mem a.1 a.2.1 a.2.2 := by
  obtain ⟨hF, hc, hT, hP⟩ := hok
  unfold yh_7 at h
  split at h
  · rename_i i rr
    split at h
    · rename_i e ee
      have he := List.mem_of_find?_eq_some ee
      have hq := List.find?_some ee
      simp only [List.any_eq_true, Bool.and_eq_true] at hq
      obtain ⟨X, -, ⟨⟨⟨q1, q2⟩, q3⟩, q4⟩, q5⟩ := hq
      split at q5
      · rename_i o v eo ev
        simp only [Bool.and_eq_true] at q5
        obtain ⟨t, ht, t1, t2⟩ := yh1_get q3
        have hp := yut_all hF hc q4 (yPH_k (hP t ht) t1 t2 (by decide) (by decide))
        obtain ⟨j, hj⟩ := ych_pl hc e he
        obtain ⟨x, x1, x2⟩ := yk9_n hF hc hT hj eo
        obtain ⟨y, y1, y2⟩ := yk9_n hF hc hT hj ev
        obtain ⟨b1, b2⟩ := yin_ok hF x2 q5.1
        obtain ⟨d1, d2⟩ := hp j x y x1 y1 (by omega)
        have hi : zd r i = some y.toInt := by rw [← zve_d q5.2]; exact y2
        obtain ⟨F1, f1, f2⟩ := yas_ok (k0 := 0) hF (zk_d hF 0) hi d1
        obtain ⟨F2, f3, f4⟩ := yas_ok (k0 := 0) f2 hi (zk_d f2 9) d2
        rw [f1] at h
        simp only [f3] at h
        cases h
        exact yh_one (m1 := m0) (r' := r) (List.mem_singleton.mpr rfl) (zX.rf) (f4) (hc) (hT) (hP)
      · cases q5
    · cases h
  · cases h
theorem yh_8_ok (hok : yOk E Y K N (yPH gh) r m0 mem F es P) (hs : zlm r st ast) (h : yh_8 ast F es P Y K N = some L) : ∃ a ∈ L, ∃ r' m1, zX r r' ∧ yOk E Y K N (yPH gh) r' m1 mem a.1 a.2.1 a.2.2 := by
  obtain ⟨hF, hc, hT, hP⟩ := hok
  unfold yh_8 at h
  split at h
  · rename_i i rr
    obtain ⟨v0, vs, rfl, hv0, -⟩ := zlm_cons hs
    split at h
    · rename_i x ex
      cases cc : ((zeq i.2.2 1 || zeq i.2.2 2) && Nat.beq i.1 1 && yin F i 0 499 && yhp P 3 && (es.all (yut F (3, 0, 0, zk 0))) && Nat.ble 72 N && Nat.beq (ztg 7 Y 71).2.2.1 500 && yh8a F es Y N i.2.1) with
      | false => rw [cc] at h; cases h
      | true =>
        rw [cc] at h
        simp only [cond_true] at h
        simp only [Bool.and_eq_true, Nat.ble_eq, Bool.or_eq_true, zeq_iff] at cc
        obtain ⟨⟨⟨⟨⟨⟨⟨c1, c2⟩, c3⟩, c4⟩, c5⟩, c6⟩, c7⟩, c8⟩ := cc
        obtain ⟨z, rfl, hz⟩ := zvm_i hv0 c2
        obtain ⟨u, u1, u2, u3, u4, u5⟩ := yrx_ok hF hz ex
        obtain ⟨b1, b2⟩ := yin_ok hF hz c3
        obtain ⟨t, ht, t1⟩ := yhp_get c4
        have hp := yut_all hF hc c5 (yPH_p (hP t ht) t1 (Or.inr (Or.inl rfl)))
        have hu : u = ((u.toNat : Nat) : Int) := by omega
        have hk := hp u.toNat (by omega)
        unfold yh8a at c8
        split at c8
        · rename_i k ek
          have hz5 : zd r (1, i.2.1, 0) = some ((5 * u.toNat : Nat) : Int) := zd_some.mpr ⟨u * 5, u2, by show _ = u * 5 + 0; omega⟩
          obtain ⟨y, y1, y2⟩ := yk9_n hF hc hT hz5 ek
          obtain ⟨d1, d2⟩ := yin_ok hF y2 c8
          obtain ⟨g1, g2⟩ := hk y y1 d2
          have hp71 : 71 < N := by omega
          obtain ⟨w, w1, w2⟩ := yva_ex (j := z.toInt.toNat) hT hp71 (by rw [zbe.mp c7]; omega)
          have hzn : zd r i = some ((z.toInt.toNat : Nat) : Int) := by rw [hz]; congr 1; omega
          split at h
          · rename_i v F1 es1 ev
            cases cv : Nat.beq v.1 1 with
            | false => rw [cv] at h; cases h
            | true =>
              rw [cv] at h
              simp only [cond_true] at h
              obtain ⟨r1, k1, k2, k3, k4⟩ := yrp_ok (n := 500) (es0 := []) hF hc (m1 := mem) rfl hzn (by rw [yvx_va hT hp71]; exact w1) w2 (zk_d hF 500) (by omega) ev
              obtain ⟨q, rfl, hq⟩ := zvm_i k4 cv
              have h7 : q.toInt ≤ 7 := by
                rcases c1 with c1 | c1
                · exact g1 q (by rw [show 5 * u.toNat + 1 = z.toInt.toNat by omega]; exact w1)
                · exact g2 q (by rw [show 5 * u.toNat + 2 = z.toInt.toNat by omega]; exact w1)
              obtain ⟨F2, f1, f2⟩ := yas_ok (k0 := 0) k2 hq (zk_d k2 7) h7
              rw [f1] at h
              cases h
              exact yh_one (m1 := m0) (r' := r1) (List.mem_singleton.mpr rfl) (k1) (f2) (k3) (hT) (fun t ht => yPH_X k1 (hP t ht))
          · cases h
        · cases c8
    · cases h
  · cases h
theorem yh_10_ok {Q : List (Nat × Nat)} (hok : yOk E Y K N (yPH gh) r m0 mem F es P) (hL : yln r Q) (h : yh_10 Q F es P = some L) : ∃ a ∈ L, ∃ r' m1, zX r r' ∧ yOk E Y K N (yPH gh) r' m1 mem a.1 a.2.1 a.2.2 := by
  obtain ⟨hF, hc, hT, hP⟩ := hok
  unfold yh_10 at h
  split at h
  · rename_i q
    split at h
    · rename_i p ep
      obtain ⟨u, v, u1, v1, huv⟩ := hL q List.mem_cons_self
      have dv : zd r (1, q.2, 0) = some v := zd_some.mpr ⟨v, v1, by simp⟩
      have du : zd r (1, q.1, 0) = some u := zd_some.mpr ⟨u, u1, by simp⟩
      have := (zlh_ok (l := p.1) (h := p.2) hF ep dv).2
      obtain ⟨F1, f1, f2⟩ := yas_ok (k0 := 0) hF du (zk_d hF (p.2 / 2)) (by omega)
      rw [f1] at h
      cases h
      exact yh_one (m1 := m0) (r' := r) (List.mem_singleton.mpr rfl) (zX.rf) (f2) (hc) (hT) (hP)
    · cases h
  · cases h
theorem yh_12_ok {p j : Nat} {cs : List Int} (hok : yOk E Y K N (yPH gh) r m0 mem F es P) (h : yh_12 p j cs F es P Y K N = some L) : ∃ a ∈ L, ∃ r' m1, zX r r' ∧ yOk E Y K N (yPH gh) r' m1 mem a.1 a.2.1 a.2.2 := by
  obtain ⟨hF, hc, hT, hP⟩ := hok
  unfold yh_12 at h
  split at h
  · rename_i v F1 es1 ev
    cases cv : Nat.beq v.1 1 with
    | false => rw [cv] at h; cases h
    | true =>
      rw [cv] at h
      cases h
      obtain ⟨x, r1, -, -, x2, x3, x4, x5⟩ := yrc_i hF hT hc ev cv
      obtain ⟨a, a1, a2, a3⟩ := yhc_ok (es := es1) (P := P) x5 (l := cs) x3
      exact ⟨a, a1, r1, m0, x2, a2, by rw [a3]; exact x4, hT, by rw [a3]; exact fun t ht => yPH_X x2 (hP t ht)⟩
  · cases h
theorem yh_13_ok {a : Nat} (hok : yOk E Y K N (yPH gh) r m0 mem F es P) (h : yh_13 a F es P Y K N = some L) : ∃ a ∈ L, ∃ r' m1, zX r r' ∧ yOk E Y K N (yPH gh) r' m1 mem a.1 a.2.1 a.2.2 := by
  obtain ⟨hF, hc, hT, hP⟩ := hok
  unfold yh_13 at h
  split at h
  · rename_i v F1 es1 ev
    cases cv : (Nat.beq v.1 1 && yin F1 v 1 8) with
    | false => rw [cv] at h; cases h
    | true =>
      rw [cv] at h
      cases h
      simp only [Bool.and_eq_true] at cv
      obtain ⟨x, r1, -, x1, x2, x3, x4, x5⟩ := yrc_i hF hT hc ev cv.1
      obtain ⟨s1, s2⟩ := ysy_ok (gh := gh) r1 m0 mem F1 es1 P ⟨x3, x4, hT, fun t ht => yPH_X x2 (hP t ht)⟩
      have b := yin_ok x3 x5 cv.2
      refine yh_one (m1 := mem) (r' := r1) (List.mem_singleton.mpr rfl) x2 x3 s1.ch hT fun t ht => ?_
      rcases List.mem_cons.mp ht with rfl | ht
      · exact ⟨27, zk_d x3 27, ⟨x, x1, b.1, b.2⟩, fun j h1 h2 => by omega⟩
      · exact s2 t ht
  · cases h
theorem yh_14_ok (hok : yOk E Y K N (yPH gh) r m0 mem F es P) (hs : zlm r st ast) (h : yh_14 ast F es P Y K N = some L) : ∃ a ∈ L, ∃ r' m1, zX r r' ∧ yOk E Y K N (yPH gh) r' m1 mem a.1 a.2.1 a.2.2 := by
  obtain ⟨hF, hc, hT, hP⟩ := hok
  unfold yh_14 at h
  split at h
  · rename_i i a rr
    obtain ⟨v0, vs, rfl, hv0, hvs⟩ := zlm_cons hs
    cases cc : (Nat.beq i.1 1 && Nat.beq a.1 2 && yx0 (ycl9 F i) 1 && yh1 P 9 a.2.1 && (es.all (yut F (9, a.2.1, 0, zk 0))) && Nat.ble (Nat.succ a.2.1) N && Nat.ble (ztg 7 Y a.2.1).2.2.1 1000000 && yin F i 0 (.ofNat (ztg 7 Y a.2.1).2.2.1 - 1)) with
    | false => rw [cc] at h; cases h
    | true =>
      rw [cc] at h
      simp only [cond_true] at h
      simp only [Bool.and_eq_true, Nat.ble_eq] at cc
      obtain ⟨⟨⟨⟨⟨⟨⟨c1, c2⟩, c3⟩, c4⟩, c5⟩, c6⟩, c7⟩, c8⟩ := cc
      obtain ⟨z, rfl, hz⟩ := zvm_i hv0 c1
      obtain ⟨b1, b2⟩ := yin_ok hF hz c8
      simp only [Int.ofNat_eq_natCast] at b2
      obtain ⟨t, ht, t1, t2⟩ := yh1_get c4
      have h9 : yPH gh r m0 (9, a.2.1, 0, zk 0) := by
        have := hP t ht
        unfold yPH at this ⊢
        rw [t1] at this
        simp only at this ⊢
        rw [← t2]
        exact this
      obtain ⟨s, s1, s2, s3, s4⟩ := yut_all hF hc c5 h9
      have hp : a.2.1 < N := by omega
      have hzn : zd r i = some ((z.toInt.toNat : Nat) : Int) := by rw [hz]; congr 1; omega
      obtain ⟨w, w1, w2⟩ := yva_ex (j := z.toInt.toNat) hT hp (by omega)
      split at h
      · rename_i v F1 es1 ev
        split at h
        · rename_i g F2 es2 eg
          cases cv : (Nat.beq v.1 1 && Nat.beq g.1 1) with
          | false => rw [cv] at h; cases h
          | true =>
            rw [cv] at h
            simp only [cond_true] at h
            simp only [Bool.and_eq_true] at cv
            obtain ⟨r1, k1, k2, k3, k4⟩ := yrp_ok (n := (ztg 7 Y a.2.1).2.2.1) (es0 := []) hF hc (m1 := mem) rfl hzn (by rw [yvx_va hT hp]; exact w1) w2 (zk_d hF _) (by omega) ev
            obtain ⟨q, rfl, hq⟩ := zvm_i k4 cv.1
            obtain ⟨y, r2, -, y1, y2, y3, y4, y5⟩ := yrc_i k2 hT k3 eg cv.2
            rw [s1] at y1
            cases y1
            have hlt := (s4 _ q w1).1 (ycl9_ok hF hzn (yx0_ok c3))
            obtain ⟨F3, f1, f2⟩ := yas_ok (k0 := 0) y3 (zsh_d (n := 1) (y2.den hq)) y5 (by omega)
            rw [f1] at h
            cases h
            exact yh_one (m1 := m0) (r' := r2) (List.mem_singleton.mpr rfl) (k1.tr y2) f2 y4 hT (fun t ht => yPH_X (k1.tr y2) (hP t ht))
        · cases h
      · cases h
  · cases h
theorem yhd_ok {r : List Int} : ∀ {dl : List (Nat × Nat × Int)} {F : zF}, zFok r F → (∀ q ∈ dl, ∃ u v, r[q.1]? = some u ∧ r[q.2.1]? = some v ∧ u + q.2.2 ≤ v) → ∃ F', yhd dl F = some F' ∧ zFok r F'
  | [], F, hF, _ => ⟨F, rfl, hF⟩
  | q :: l, F, hF, hd => by
    obtain ⟨u, v, u1, v1, huv⟩ := hd q List.mem_cons_self
    obtain ⟨F1, f1, f2⟩ := yas_ok (k0 := 0) (a := (1, q.1, q.2.2)) (b := (1, q.2.1, 0)) hF (zd_some.mpr ⟨u, u1, rfl⟩) (zd_some.mpr ⟨v, v1, rfl⟩) (by simpa using huv)
    obtain ⟨F', g1, g2⟩ := yhd_ok (dl := l) f2 (fun q hq => hd q (List.mem_cons_of_mem _ hq))
    refine ⟨F', ?_, g2⟩
    unfold yhd
    rw [f1]
    exact g1
theorem yh_15_ok {dl : List (Nat × Nat × Int)} (hok : yOk E Y K N (yPH gh) r m0 mem F es P) (hd : ∀ q ∈ dl, ∃ u v, r[q.1]? = some u ∧ r[q.2.1]? = some v ∧ u + q.2.2 ≤ v) (h : yh_15 dl F es P = some L) : ∃ a ∈ L, ∃ r' m1, zX r r' ∧ yOk E Y K N (yPH gh) r' m1 mem a.1 a.2.1 a.2.2 := by
  obtain ⟨hF, hc, hT, hP⟩ := hok
  obtain ⟨F', f1, f2⟩ := yhd_ok hF hd
  unfold yh_15 at h
  rw [f1] at h
  cases h
  exact yh_one (m1 := m0) (r' := r) (List.mem_singleton.mpr rfl) zX.rf f2 hc hT hP
theorem yh_16_ok {k b : Nat} (hok : yOk E Y K N (yPH gh) r m0 mem F es P) (hl : zls r ls als) (hs : zlm r st ast) (h : yh_16 k b als ast F es P = some L) : ∃ a ∈ L, ∃ r' m1, zX r r' ∧ yOk E Y K N (yPH gh) r' m1 mem a.1 a.2.1 a.2.2 := by
  obtain ⟨hF, hc, hT, hP⟩ := hok
  unfold yh_16 at h
  split at h
  · rename_i v ev
    cases c : (Nat.beq v.1 1 && (Nat.beq b 0 || Nat.beq b 3)) with
    | false => rw [c] at h; cases h
    | true =>
      rw [c] at h
      cases h
      simp only [Bool.and_eq_true, Bool.or_eq_true, zbe] at c
      obtain ⟨w, hw⟩ := yhv_ok hl hs ev
      obtain ⟨x, -, hx⟩ := zvm_i hw (zbe.mpr c.1)
      have add : ∀ k, ygc gh k x.toInt → ∀ t ∈ (14, k, 0, v) :: P, yPH gh r m0 t := fun k hk t ht => by
        rcases List.mem_cons.mp ht with rfl | ht
        · exact ⟨_, hx, hk⟩
        · exact hP t ht
      have tri : ygc gh b x.toInt ∨ ygc gh (b + 1) x.toInt ∨ ygc gh (b + 2) x.toInt := by
        rcases c.2 with rfl | rfl
        · show x.toInt < gh.1 ∨ x.toInt = gh.1 ∨ (gh.1 : Int) < x.toInt
          omega
        · show x.toInt < gh.2 ∨ x.toInt = gh.2 ∨ (gh.2 : Int) < x.toInt
          omega
      rcases tri with t | t | t
      · exact yh_one (m1 := m0) (r' := r) (List.mem_cons_self) zX.rf hF hc hT (add _ t)
      · exact yh_one (m1 := m0) (r' := r) (List.mem_cons_of_mem _ List.mem_cons_self) zX.rf hF hc hT (add _ t)
      · exact yh_one (m1 := m0) (r' := r) (List.mem_cons_of_mem _ (List.mem_cons_of_mem _ List.mem_cons_self)) zX.rf hF hc hT (add _ t)
  · cases h
theorem yshr1 {a s : Int32} (ha : 0 ≤ a.toInt) (h0 : 0 ≤ s.toInt) (h7 : s.toInt ≤ 7) : ((a >>> (s &&& 31)) &&& 1).toInt = if a.toInt.toNat.testBit s.toInt.toNat then 1 else 0 := by
  have hm : a.toBitVec.msb = false := by
    rw [BitVec.msb_eq_toInt]
    exact decide_eq_false (by have : a.toInt = a.toBitVec.toInt := rfl; omega)
  obtain ⟨e1, l1⟩ := yn0 ha
  have fin : ∀ k : Nat, s.toInt = (k : Int) → ((s &&& 31).toBitVec.smod 32).toNat = k → ((a >>> (s &&& 31)) &&& 1).toInt = if a.toInt.toNat.testBit s.toInt.toNat then 1 else 0 := by
    intro k hk e
    have h1 : ((a >>> (s &&& 31)) &&& 1).toBitVec.toNat = a.toBitVec.toNat / 2 ^ k % 2 := by
      rw [Int32.toBitVec_and, BitVec.toNat_and, Int32.toBitVec_shiftRight]
      show (a.toBitVec.sshiftRight ((s &&& 31).toBitVec.smod 32).toNat).toNat &&& 1 = _
      rw [e, BitVec.sshiftRight_eq_of_msb_false hm, BitVec.toNat_ushiftRight, Nat.shiftRight_eq_div_pow, Nat.and_one_is_mod]
    have hlt : a.toBitVec.toNat / 2 ^ k % 2 < 2 := Nat.mod_lt _ (by decide)
    rw [yn1 (by rw [h1]; omega), h1, show a.toInt.toNat = a.toBitVec.toNat from by omega, show s.toInt.toNat = k from by omega, Nat.testBit_eq_decide_div_mod_eq]
    by_cases h : a.toBitVec.toNat / 2 ^ k % 2 = 1
    · rw [h]; rfl
    · rw [show a.toBitVec.toNat / 2 ^ k % 2 = 0 by omega]; rfl
  have : s.toInt = 0 ∨ s.toInt = 1 ∨ s.toInt = 2 ∨ s.toInt = 3 ∨ s.toInt = 4 ∨ s.toInt = 5 ∨ s.toInt = 6 ∨ s.toInt = 7 := by omega
  have key : ∀ k : Int, s.toInt = k → s = Int32.ofInt k := fun k e => by rw [← e, Int32.ofInt_toInt]
  rcases this with e | e | e | e | e | e | e | e
  · exact fin 0 e (by rw [key _ e]; decide)
  · exact fin 1 e (by rw [key _ e]; decide)
  · exact fin 2 e (by rw [key _ e]; decide)
  · exact fin 3 e (by rw [key _ e]; decide)
  · exact fin 4 e (by rw [key _ e]; decide)
  · exact fin 5 e (by rw [key _ e]; decide)
  · exact fin 6 e (by rw [key _ e]; decide)
  · exact fin 7 e (by rw [key _ e]; decide)
theorem ybz_ok {g s : zV} {z : Nat} {gv sv : Int} (hF : zFok r F) (hc : ych E r m0 es mem) (hT : yTM Y K N mem) (hg : zd r g = some gv) (hs : zd r s = some sv) (h : ybz F es Y N g s = some z) :
    ∃ (a : Int32) (zv : Int), 0 ≤ gv ∧ gv ≤ 7 ∧ 0 ≤ sv ∧ sv ≤ 7 ∧ yva mem 77 (81 + 7 * gv.toNat) = some (.int a) ∧ 0 ≤ a.toInt ∧ r[z]? = some zv ∧ zv = if a.toInt.toNat.testBit sv.toNat then 1 else 0 := by
  unfold ybz at h
  split at h
  · rename_i z0 e0
    cases c : (yin F g 0 7 && yin F s 0 7) with
    | false => rw [c] at h; cases h
    | true =>
      rw [c] at h
      simp only [cond_true] at h
      simp only [Bool.and_eq_true] at c
      have bg := yin_ok hF hg c.1
      have bs := yin_ok hF hs c.2
      obtain ⟨x7, xg, xz, d1, d2, d3, d4⟩ := zml_ok hF.2.2.2.2 e0
      cases d3
      rw [zk_d hF 7] at d1
      have e7 : x7 = 7 := Int32.toInt_inj.mp (by rw [show (7 : Int32).toInt = 7 from rfl]; simpa using d1.symm)
      subst e7
      rw [hg] at d2
      have egv : gv = xg.toInt := by simpa using d2
      have hm : ((7 : Int32) * xg).toInt = 7 * xg.toInt := by
        have := zmul_i (x := 7) (y := xg) (by rw [show (7 : Int32).toInt = 7 from rfl, zI0e]; omega) (by rw [show (7 : Int32).toInt = 7 from rfl, zI1e]; omega)
        rw [this]
        rfl
      have hi : zd r (1, z0, 81) = some ((81 + 7 * gv.toNat : Nat) : Int) := zd_some.mpr ⟨_, d4, by show _ = _ + (81 : Int); rw [hm]; omega⟩
      split at h
      · rename_i a ea
        obtain ⟨av, a1, a2⟩ := yk9_n hF hc hT hi ea
        cases ca : yge 2 F a 0 with
        | false => rw [ca] at h; cases h
        | true =>
          rw [ca] at h
          simp only [cond_true] at h
          have a0 := yge_ok hF 2 a2 ca
          split at h
          · rename_i z1 e1
            obtain ⟨xa, xs, xw, f1, f2, f3, f4⟩ := zml_ok hF.2.2.2.2 e1
            cases f3
            rw [a2] at f1
            have exa : xa = av := Int32.toInt_inj.mp (by simpa using f1.symm)
            subst exa
            rw [hs] at f2
            have esv : sv = xs.toInt := by simpa using f2
            obtain ⟨y1, y2, y3, q1, q2, q3, q4⟩ := zml_ok hF.2.2.2.2 h
            cases q3
            have hz1 : zd r (1, z1, 0) = some (xa >>> (xs &&& 31)).toInt := zd_some.mpr ⟨_, f4, by simp⟩
            rw [hz1] at q1
            have ey1 : y1 = xa >>> (xs &&& 31) := Int32.toInt_inj.mp (by simpa using q1.symm)
            rw [zk_d hF 1] at q2
            have ey2 : y2 = 1 := Int32.toInt_inj.mp (by rw [show (1 : Int32).toInt = 1 from rfl]; simpa using q2.symm)
            subst ey1
            subst ey2
            exact ⟨xa, _, bg.1, bg.2, bs.1, bs.2, a1, a0, q4, by rw [esv]; exact yshr1 a0 (by omega) (by omega)⟩
          · cases h
      · cases h
  · cases h
theorem yg11_ok {b : Nat} (hF : zFok r F) (hc : ych E r m0 es mem) (hP : ∀ t ∈ P, yPH gh r m0 t) (h : yg11 F es P b = true) : gh.1 < 8 ∧ gh.2 < 8 ∧ ybt gh mem b := by
  unfold yg11 at h
  simp only [List.any_eq_true, Bool.and_eq_true, zbe] at h
  obtain ⟨t, ht, ⟨t1, t2⟩, t3⟩ := h
  have := yut_all hF hc t3 (hP t ht)
  unfold yPH at this
  rw [t1] at this
  obtain ⟨h1, h2, h3, -⟩ := this
  rw [t2] at h3
  exact ⟨h1, h2, h3⟩
theorem yg13_ok (hF : zFok r F) (hc : ych E r m0 es mem) (hP : ∀ t ∈ P, yPH gh r m0 t) (h : yg13 F es P = true) : ∃ g s : Int32, yva mem 75 5 = some (.int g) ∧ yva mem 75 7 = some (.int s) ∧ (gh.1 : Int) < g.toInt ∧ (gh.2 : Int) < s.toInt := by
  unfold yg13 at h
  simp only [Bool.and_eq_true] at h
  obtain ⟨t, ht, t1⟩ := yhp_get h.1
  have h0 : yPH gh r m0 (13, 0, 0, zk 0) := by
    have := hP t ht
    unfold yPH at this ⊢
    rw [t1] at this
    exact this
  exact yut_all hF hc h.2 h0
/-- the bit of the ghost -/
theorem ybz_gh {g s : zV} {z b : Nat} {gv sv : Int} (hF : zFok r F) (hc : ych E r m0 es mem) (hT : yTM Y K N mem) (hP : ∀ t ∈ P, yPH gh r m0 t) (hg : zd r g = some gv) (hs : zd r s = some sv) (e1 : gv = gh.1) (e2 : sv = gh.2) (h11 : yg11 F es P b = true) (h : ybz F es Y N g s = some z) :
    ∃ zv : Int, r[z]? = some zv ∧ zv = if Nat.beq b 1 then 1 else 0 := by
  obtain ⟨a, zv, g1, g2, g3, g4, g5, g6, g7, g8⟩ := ybz_ok hF hc hT hg hs h
  obtain ⟨-, -, x, x1, x2, x3⟩ := yg11_ok hF hc hP h11
  rw [show gv.toNat = gh.1 by omega, x1] at g5
  cases g5
  rw [show sv.toNat = gh.2 by omega, x3] at g8
  exact ⟨zv, g7, g8⟩
theorem yh_17_ok {a b : Nat} (hok : yOk E Y K N (yPH gh) r m0 mem F es P) (hl : zls r ls als) (h : yh_17 a b als F es P Y N = some L) : ∃ a ∈ L, ∃ r' m1, zX r r' ∧ yOk E Y K N (yPH gh) r' m1 mem a.1 a.2.1 a.2.2 := by
  obtain ⟨hF, hc, hT, hP⟩ := hok
  unfold yh_17 at h
  split at h
  · rename_i g s eg es9
    cases c : (Nat.beq g.1 1 && Nat.beq s.1 1 && ygeq P g s && yg11 F es P 0) with
    | false => rw [c] at h; cases h
    | true =>
      rw [c] at h
      simp only [cond_true] at h
      simp only [Bool.and_eq_true] at c
      obtain ⟨⟨⟨c1, c2⟩, c3⟩, c4⟩ := c
      obtain ⟨wg, -, hwg⟩ := hl _ _ eg
      obtain ⟨ws, -, hws⟩ := hl _ _ es9
      obtain ⟨gv, -, hg⟩ := zvm_i hwg c1
      obtain ⟨sv, -, hs⟩ := zvm_i hws c2
      obtain ⟨q1, q2⟩ := ygeq_ok hP c3 hg hs
      split at h
      · rename_i z ez
        obtain ⟨zv, z1, z2⟩ := ybz_gh hF hc hT hP hg hs q1 q2 c4 ez
        cases cz : yge 2 F (1, z, 0) 1 with
        | false => rw [cz] at h; cases h
        | true =>
          have := yge_ok hF 2 (a := (1, z, 0)) (x := zv) (zd_some.mpr ⟨zv, z1, by simp⟩) cz
          simp at z2
          omega
      · cases h
  · cases h
theorem yh_18_ok {a : Nat} (hok : yOk E Y K N (yPH gh) r m0 mem F es P) (hl : zls r ls als) (h : yh_18 a als F es P = some L) : ∃ a ∈ L, ∃ r' m1, zX r r' ∧ yOk E Y K N (yPH gh) r' m1 mem a.1 a.2.1 a.2.2 := by
  obtain ⟨hF, hc, hT, hP⟩ := hok
  unfold yh_18 at h
  split at h
  · rename_i g eg
    cases c : (Nat.beq g.1 1 && yg14 P 6 g) with
    | false => rw [c] at h; cases h
    | true =>
      rw [c] at h
      cases h
      simp only [Bool.and_eq_true] at c
      obtain ⟨wg, -, hwg⟩ := hl _ _ eg
      obtain ⟨gv, -, hg⟩ := zvm_i hwg c.1
      have h6 : gv.toInt ≤ gh.1 := yg14_ok hP c.2 hg
      by_cases hlt : gv.toInt < gh.1
      · refine yh_one (m1 := m0) (r' := r) (List.mem_cons_self) zX.rf hF hc hT fun t ht => ?_
        rcases List.mem_cons.mp ht with rfl | ht
        · exact ⟨_, hg, hlt⟩
        · exact hP t ht
      · refine yh_one (m1 := m0) (r' := r) (List.mem_cons_of_mem _ List.mem_cons_self) zX.rf hF hc hT fun t ht => ?_
        simp only [List.mem_cons] at ht
        rcases ht with rfl | rfl | ht
        · exact ⟨_, hg, show gv.toInt = gh.1 by omega⟩
        · exact ⟨0, zk_d hF 0, show (0 : Int) ≤ gh.2 by omega⟩
        · exact hP t ht
  · cases h
theorem yh_19_ok {a b : Nat} (hok : yOk E Y K N (yPH gh) r m0 mem F es P) (hl : zls r ls als) (h : yh_19 a b als F es P Y N = some L) : ∃ a ∈ L, ∃ r' m1, zX r r' ∧ yOk E Y K N (yPH gh) r' m1 mem a.1 a.2.1 a.2.2 := by
  obtain ⟨hF, hc, hT, hP⟩ := hok
  unfold yh_19 at h
  split at h
  · rename_i g s eg es9
    cases c : (Nat.beq g.1 1 && Nat.beq s.1 1) with
    | false => rw [c] at h; cases h
    | true =>
      rw [c] at h
      simp only [cond_true] at h
      simp only [Bool.and_eq_true] at c
      obtain ⟨wg, -, hwg⟩ := hl _ _ eg
      obtain ⟨ws, -, hws⟩ := hl _ _ es9
      obtain ⟨gv, -, hg⟩ := zvm_i hwg c.1
      obtain ⟨sv, -, hs⟩ := zvm_i hws c.2
      rw [Bool.cond_eq_ite] at h
      split at h
      · rename_i d
        simp only [Bool.and_eq_true] at d
        obtain ⟨⟨d1, d2⟩, d3⟩ := d
        obtain ⟨q1, q2⟩ := ygeq_ok hP d1 hg hs
        unfold ybz0 at d3
        split at d3
        · rename_i z ez
          obtain ⟨zv, z1, z2⟩ := ybz_gh hF hc hT hP hg hs q1 q2 d2 ez
          have := yle_ok hF 2 (a := (1, z, 0)) (x := zv) (zd_some.mpr ⟨zv, z1, by simp⟩) (zk_d hF 0) d3
          simp at z2
          omega
        · cases d3
      · cases d1 : yg14 P 3 s with
        | true =>
          rw [d1] at h
          cases h
          have q : sv.toInt < gh.2 := yg14_ok hP d1 hs
          refine yh_one (m1 := m0) (r' := r) (List.mem_singleton.mpr rfl) zX.rf hF hc hT fun t ht => ?_
          rcases List.mem_cons.mp ht with rfl | ht
          · exact ⟨_, zsh_d hs, show sv.toInt + 1 ≤ gh.2 by omega⟩
          · exact hP t ht
        | false =>
          rw [d1] at h
          simp only [cond_false] at h
          cases d2 : (yg14 P 4 s || yg14 P 5 s) with
          | false => rw [d2] at h; cases h
          | true =>
            rw [d2] at h
            cases h
            have q : (gh.2 : Int) ≤ sv.toInt := by
              rw [Bool.or_eq_true] at d2
              rcases d2 with d2 | d2
              · have : sv.toInt = gh.2 := yg14_ok hP d2 hs
                omega
              · have : (gh.2 : Int) < sv.toInt := yg14_ok hP d2 hs
                omega
            refine yh_one (m1 := m0) (r' := r) (List.mem_singleton.mpr rfl) zX.rf hF hc hT fun t ht => ?_
            rcases List.mem_cons.mp ht with rfl | ht
            · exact ⟨_, zsh_d hs, show (gh.2 : Int) < sv.toInt + 1 by omega⟩
            · exact hP t ht
  · cases h
theorem yh_20_ok {a b : Nat} (hok : yOk E Y K N (yPH gh) r m0 mem F es P) (hl : zls r ls als) (h : yh_20 a b als F es P Y N = some L) : ∃ a ∈ L, ∃ r' m1, zX r r' ∧ yOk E Y K N (yPH gh) r' m1 mem a.1 a.2.1 a.2.2 := by
  obtain ⟨hF, hc, hT, hP⟩ := hok
  unfold yh_20 at h
  split at h
  · rename_i g s eg es9
    cases c : (Nat.beq g.1 1 && Nat.beq s.1 1) with
    | false => rw [c] at h; cases h
    | true =>
      rw [c] at h
      simp only [cond_true] at h
      simp only [Bool.and_eq_true] at c
      obtain ⟨wg, -, hwg⟩ := hl _ _ eg
      obtain ⟨ws, -, hws⟩ := hl _ _ es9
      obtain ⟨gv, -, hg⟩ := zvm_i hwg c.1
      obtain ⟨sv, -, hs⟩ := zvm_i hws c.2
      cases d : yg14 P 0 g with
      | true =>
        rw [d] at h
        cases h
        have q1 : gv.toInt < gh.1 := yg14_ok hP d hg
        refine yh_one (m1 := m0) (r' := r) (List.mem_singleton.mpr rfl) zX.rf hF hc hT fun t ht => ?_
        rcases List.mem_cons.mp ht with rfl | ht
        · exact ⟨_, zsh_d hg, show gv.toInt + 1 ≤ gh.1 by omega⟩
        · exact hP t ht
      | false =>
        rw [d] at h
        simp only [cond_false] at h
        rw [Bool.cond_eq_ite] at h
        split at h
        · rename_i e
          simp only [Bool.and_eq_true] at e
          obtain ⟨⟨⟨e1, e2⟩, e3⟩, e4⟩ := e
          have q2 : sv.toInt ≤ gh.2 := yg14_ok hP e2 hs
          obtain ⟨gr, sg, n1, n2, n3, n4⟩ := yg13_ok hF hc hP e3
          unfold ysg0 at e4
          split at e4
          · rename_i q eq
            obtain ⟨x, x1, x2⟩ := yk9_n (j := 7) hF hc hT (zk_d hF 7) eq
            rw [n2] at x1
            cases x1
            have := yle_ok hF 2 x2 hs e4
            omega
          · cases e4
        · cases d2 : (yg14 P 1 g || yg14 P 2 g) with
          | false => rw [d2] at h; cases h
          | true =>
            rw [d2] at h
            cases h
            have q : (gh.1 : Int) ≤ gv.toInt := by
              rw [Bool.or_eq_true] at d2
              rcases d2 with d2 | d2
              · have : gv.toInt = gh.1 := yg14_ok hP d2 hg
                omega
              · have : (gh.1 : Int) < gv.toInt := yg14_ok hP d2 hg
                omega
            refine yh_one (m1 := m0) (r' := r) (List.mem_singleton.mpr rfl) zX.rf hF hc hT fun t ht => ?_
            rcases List.mem_cons.mp ht with rfl | ht
            · exact ⟨_, zsh_d hg, show (gh.1 : Int) < gv.toInt + 1 by omega⟩
            · exact hP t ht
  · cases h
theorem yh_22_ok (hok : yOk E Y K N (yPH gh) r m0 mem F es P) (h : yh_22 F es P Y N = some L) : ∃ a ∈ L, ∃ r' m1, zX r r' ∧ yOk E Y K N (yPH gh) r' m1 mem a.1 a.2.1 a.2.2 := by
  obtain ⟨hF, hc, hT, hP⟩ := hok
  unfold yh_22 at h
  rw [Bool.cond_eq_ite] at h
  split at h
  · rename_i c
    simp only [List.any_eq_true, Bool.and_eq_true, zbe] at c
    obtain ⟨t, ht, ⟨t1, t2⟩, t3⟩ := c
    have hp := yut_all hF hc t3 (hP t ht)
    unfold yPH at hp
    rw [t1] at hp
    obtain ⟨-, -, -, n, n1, n2, n3, n4⟩ := hp
    rw [t2] at n4
    obtain ⟨p, p1, -⟩ := n4
    split at h
    · rename_i nv en
      obtain ⟨x, x1, x2⟩ := yk9_n (j := 4) hF hc hT (zk_d hF 4) en
      rw [n1] at x1
      cases x1
      cases d : yle 2 F nv (zk 0) with
      | false => rw [d] at h; cases h
      | true =>
        have := yle_ok hF 2 x2 (zk_d hF 0) d
        omega
    · cases h
  · cases h
theorem yh_23_ok (hok : yOk E Y K N (yPH gh) r m0 mem F es P) (h : yh_23 F es P = some L) : ∃ a ∈ L, ∃ r' m1, zX r r' ∧ yOk E Y K N (yPH gh) r' m1 mem a.1 a.2.1 a.2.2 := by
  obtain ⟨hF, hc, hT, hP⟩ := hok
  cases h
  refine yh_one (m1 := m0) (r' := r) (List.mem_singleton.mpr rfl) zX.rf hF hc hT fun t ht => ?_
  rcases List.mem_cons.mp ht with rfl | ht
  · exact ⟨0, zk_d hF 0, show (0 : Int) ≤ gh.1 by omega⟩
  · exact hP t ht
theorem yh_24_ok (hok : yOk E Y K N (yPH gh) r m0 mem F es P) (hs : zlm r st ast) (h : yh_24 ast F es P Y N = some L) : ∃ a ∈ L, ∃ r' m1, zX r r' ∧ yOk E Y K N (yPH gh) r' m1 mem a.1 a.2.1 a.2.2 := by
  obtain ⟨hF, hc, hT, hP⟩ := hok
  unfold yh_24 at h
  split at h
  · rename_i a rr
    obtain ⟨v0, vs, rfl, hv0, -⟩ := zlm_cons hs
    rw [Bool.cond_eq_ite] at h
    split at h
    · rename_i c
      simp only [List.any_eq_true, Bool.and_eq_true] at c
      obtain ⟨⟨⟨c1, c2⟩, c3⟩, e, he, ⟨⟨c4, c5⟩, c7⟩, c6⟩ := c
      obtain ⟨z, rfl, hz⟩ := zvm_i hv0 c1
      obtain ⟨t, ht, t1⟩ := yhp_get c2
      have h15 : yPH gh r m0 (15, 0, 0, zk 0) := by
        have := hP t ht
        unfold yPH at this ⊢
        rw [t1] at this
        exact this
      obtain ⟨ng, n1, n2⟩ := yut_all hF hc c3 h15
      obtain ⟨j, hj⟩ := ych_pl hc e he
      have hl := ylm_2 (ycl9_ok hF hj (yx0_ok c5))
      split at c6
      · rename_i b eb
        obtain ⟨x, x1, x2⟩ := yk9_n hF hc hT hj eb
        rw [zve_d c6, hz] at x2
        have e0 : x = z := Int32.toInt_inj.mp (by simpa using x2.symm)
        subst e0
        have hgr : ((((j - 81) / 7 : Nat)) : Int) < ng.toInt := by
          unfold yh24a at c7
          split at c7
          · rename_i y k q ey eq
            simp only [Bool.and_eq_true, zeq_iff] at c7
            obtain ⟨⟨⟨d1, d2⟩, d3⟩, d4⟩ := c7
            obtain ⟨w, w1, w2, -⟩ := yfc_ok hF hF.2.2.2.2 ey
            obtain ⟨gx, g1, g2⟩ := yk9_n (j := 5) hF hc hT (zk_d hF 5) eq
            rw [n1] at g1
            cases g1
            have a1 := yge_ok hF 2 w1 d3
            have a2 := yle_ok hF 2 (zsh_d w1) g2 d4
            obtain ⟨q1, q2, q3⟩ := zd_some.mp hj
            rw [w2] at q2
            cases q2
            rw [d1, d2] at q3
            omega
          · cases c7
        have := n2 ((j - 81) / 7) (by omega) hgr x (by rw [show 81 + 7 * ((j - 81) / 7) = j by omega]; exact x1)
        obtain ⟨F1, f1, f2⟩ := yas_ok (k0 := 0) hF hz (zk_d hF 0) (by omega)
        rw [f1] at h
        cases h
        exact yh_one (m1 := m0) (r' := r) (List.mem_singleton.mpr rfl) zX.rf f2 hc hT hP
      · cases c6
    · cases h
  · cases h
theorem yh_25_ok {a b : Nat} (hok : yOk E Y K N (yPH gh) r m0 mem F es P) (hl : zls r ls als) (h : yh_25 a b als F es P = some L) : ∃ a ∈ L, ∃ r' m1, zX r r' ∧ yOk E Y K N (yPH gh) r' m1 mem a.1 a.2.1 a.2.2 := by
  obtain ⟨hF, hc, hT, hP⟩ := hok
  unfold yh_25 at h
  split at h
  · rename_i g s eg es9
    cases c : (Nat.beq g.1 1 && Nat.beq s.1 1 && yg14 P 1 g && yg14 P 7 s) with
    | false => rw [c] at h; cases h
    | true =>
      rw [c] at h
      cases h
      simp only [Bool.and_eq_true] at c
      obtain ⟨ws, -, hws⟩ := hl _ _ es9
      obtain ⟨sv, -, hs⟩ := zvm_i hws c.1.1.2
      have q : sv.toInt ≤ gh.2 := yg14_ok hP c.2 hs
      by_cases hlt : sv.toInt < gh.2
      · refine yh_one (m1 := m0) (r' := r) (List.mem_cons_self) zX.rf hF hc hT fun t ht => ?_
        rcases List.mem_cons.mp ht with rfl | ht
        · exact ⟨_, hs, hlt⟩
        · exact hP t ht
      · refine yh_one (m1 := m0) (r' := r) (List.mem_cons_of_mem _ List.mem_cons_self) zX.rf hF hc hT fun t ht => ?_
        rcases List.mem_cons.mp ht with rfl | ht
        · exact ⟨_, hs, show sv.toInt = gh.2 by omega⟩
        · exact hP t ht
  · cases h
theorem yand1 (x : Int32) : 0 ≤ (x &&& 1).toInt ∧ (x &&& 1).toInt ≤ 1 := by
  have h1 : (x &&& 1).toBitVec.toNat = x.toBitVec.toNat % 2 := by
    rw [Int32.toBitVec_and, BitVec.toNat_and]
    show x.toBitVec.toNat &&& 1 = _
    rw [Nat.and_one_is_mod]
  have hlt : x.toBitVec.toNat % 2 < 2 := Nat.mod_lt _ (by decide)
  rw [yn1 (by rw [h1]; omega), h1]
  omega
theorem yh_26_ok (hok : yOk E Y K N (yPH gh) r m0 mem F es P) (hs : zlm r st ast) (h : yh_26 ast F es P = some L) : ∃ a ∈ L, ∃ r' m1, zX r r' ∧ yOk E Y K N (yPH gh) r' m1 mem a.1 a.2.1 a.2.2 := by
  obtain ⟨hF, hc, hT, hP⟩ := hok
  unfold yh_26 at h
  split at h
  · rename_i v rr
    obtain ⟨v0, vs, rfl, hv0, -⟩ := zlm_cons hs
    rw [Bool.cond_eq_ite] at h
    split at h
    · rename_i c
      simp only [List.any_eq_true, Bool.and_eq_true, zeq_iff] at c
      obtain ⟨⟨c1, c2⟩, q, hq, ⟨c3, c4⟩, c5⟩ := c
      obtain ⟨z, rfl, hz⟩ := zvm_i hv0 c1
      obtain ⟨xa, xb, xz, d1, d2, d3, d4⟩ := hF.2.2.2.2 q hq
      rw [zbe.mp c3] at d3
      cases d3
      rw [zve_d c5, zk_d hF 1] at d2
      have eb : xb = 1 := Int32.toInt_inj.mp (by rw [show (1 : Int32).toInt = 1 from rfl]; simpa using d2.symm)
      subst eb
      have hv : zd r v = some (xa &&& 1).toInt := zd_some.mpr ⟨_, by rw [← zbe.mp c4]; exact d4, by rw [c2]; simp⟩
      have hb := yand1 xa
      obtain ⟨F1, f1, f2⟩ := yas_ok (k0 := 0) hF (zk_d hF 0) hv hb.1
      obtain ⟨F2, f3, f4⟩ := yas_ok (k0 := 0) f2 hv (zk_d f2 1) hb.2
      rw [f1] at h
      simp only [f3] at h
      cases h
      exact yh_one (m1 := m0) (r' := r) (List.mem_singleton.mpr rfl) zX.rf f4 hc hT hP
    · cases h
  · cases h
theorem yh_21_ok {a : Nat} (hok : yOk E Y K N (yPH gh) r m0 mem F es P) (hl : zls r ls als) (h : yh_21 a als F es P Y N = some L) : ∃ a ∈ L, ∃ r' m1, zX r r' ∧ yOk E Y K N (yPH gh) r' m1 mem a.1 a.2.1 a.2.2 := by
  obtain ⟨hF, hc, hT, hP⟩ := hok
  unfold yh_21 at h
  split at h
  · rename_i g eg
    cases c : (Nat.beq g.1 1 && yg14 P 6 g && yg13 F es P) with
    | false => rw [c] at h; cases h
    | true =>
      rw [c] at h
      simp only [cond_true] at h
      simp only [Bool.and_eq_true] at c
      obtain ⟨wg, -, hwg⟩ := hl _ _ eg
      obtain ⟨gv, -, hg⟩ := zvm_i hwg c.1.1
      have q1 : gv.toInt ≤ gh.1 := yg14_ok hP c.1.2 hg
      obtain ⟨gr, sg, n1, n2, n3, n4⟩ := yg13_ok hF hc hP c.2
      split at h
      · rename_i q eq
        obtain ⟨x, x1, x2⟩ := yk9_n (j := 5) hF hc hT (zk_d hF 5) eq
        rw [n1] at x1
        cases x1
        cases f : yle 2 F q g with
        | false => rw [f] at h; cases h
        | true =>
          have := yle_ok hF 2 x2 hg f
          omega
      · cases h
  · cases h
end
theorem yhk_ok {E : mEnv} {Y : zT yC 7} {K : List (Nat × yK)} {N : Nat} {RI : List Int → Prop} {ht : Nat → Nat → Option yHt} {dl : List (Nat × Nat × Int)} (hdl : ∀ r, RI r → ∀ q ∈ dl, ∃ u v, r[q.1]? = some u ∧ r[q.2.1]? = some v ∧ u + q.2.2 ≤ v) (L : List (Nat × Nat)) : yHok E Y K N (yPH gh) (fun r => RI r ∧ yln r L) (yhk Y K N ht dl L) := by
  intro mi pc als ast F es P Lo h r ls st m0 mem hr hok hl hs
  unfold yhk at h
  split at h
  · cases h
  · rename_i k a b cs et
    split at h
    · exact yh_1_ok hok hl hs h
    · exact yh_2_ok hok h
    · exact yh_3_ok hok hs h
    · exact yh_4_ok hok h
    · exact yh_5_ok hok h
    · exact yh_6_ok hok h
    · exact yh_7_ok hok h
    · exact yh_8_ok hok hs h
    · cases h
      obtain ⟨h1, h2⟩ := ysy_ok r m0 mem F es P hok
      exact yh_one (m1 := mem) (r' := r) (List.mem_singleton.mpr rfl) (zX.rf) (hok.1) (h1.ch) (hok.2.2.1) (h2)
    · exact yh_10_ok hok hr.2 h
    · cases h
      refine yh_one (m1 := m0) (r' := r) (List.mem_singleton.mpr rfl) (zX.rf) (hok.1) (hok.2.1) (hok.2.2.1) (fun t ht => ?_)
      rcases List.mem_cons.mp ht with rfl | ht
      · exact ⟨0, zk_d hok.1 0, fun j hj => by omega⟩
      · exact hok.2.2.2 t ht
    · exact yh_12_ok hok h
    · exact yh_13_ok hok h
    · exact yh_14_ok hok hs h
    · exact yh_15_ok hok (hdl r hr.1) h
    · exact yh_16_ok hok hl hs h
    · exact yh_17_ok hok hl h
    · exact yh_18_ok hok hl h
    · exact yh_19_ok hok hl h
    · exact yh_20_ok hok hl h
    · exact yh_21_ok hok hl h
    · exact yh_22_ok hok h
    · exact yh_23_ok hok h
    · exact yh_24_ok hok hs h
    · exact yh_25_ok hok hl h
    · exact yh_26_ok hok hs h
    · cases h
end
