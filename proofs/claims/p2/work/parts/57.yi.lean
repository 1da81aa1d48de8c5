/-! hooks are sound -/
theorem yh3a_mem {F : zF} {p : Nat} {i : zV} : ∀ {es : List yE} {e : yE}, yh3a F p i es = some e → e ∈ es
  | [], _, h => by cases h
  | e9 :: es, e, h => by
    unfold yh3a at h
    cases c : (Nat.beq e9.1 p && Nat.beq e9.2.2.2 0 && Nat.beq e9.2.2.1.1 1 && Nat.beq (yal F i e9.2.1) 2 && (yle 2 F i e9.2.1 || yle 2 F e9.2.1 i)) with
    | true => rw [c] at h; cases h; exact List.mem_cons_self
    | false => rw [c] at h; exact List.mem_cons_of_mem _ (yh3a_mem h)
theorem yPH_k {r : List Int} {m : mMem} {t : yQp} {k a : Nat} (h : yPH r m t) (h1 : t.1 = k) (h2 : t.2.1 = a) (n4 : k ≠ 4) (n7 : k ≠ 7) (n8 : k ≠ 8) : yPH r m (k, a, 0, zk 0) := by
  unfold yPH at h ⊢
  rw [h1, h2] at h
  split at h
  · exact h
  · exact h
  · exact h
  · exact absurd rfl n4
  · exact h
  · exact h
  · exact absurd rfl n7
  · exact absurd rfl n8
  · trivial
theorem yPH_p {r : List Int} {m : mMem} {t : yQp} {k : Nat} (h : yPH r m t) (h1 : t.1 = k) (hk : k = 1 ∨ k = 3 ∨ k = 5) : yPH r m (k, 0, 0, zk 0) := by
  unfold yPH at h ⊢
  rw [h1] at h
  rcases hk with rfl | rfl | rfl <;> exact h
theorem yh_one {E : mEnv} {Y : zT yC 7} {K : List (Nat × yK)} {N : Nat} {r r' : List Int} {m1 mem : mMem} {a : yHs} {L : List yHs} (h : a ∈ L) (hx : zX r r') (h1 : zFok r' a.1) (h2 : ych E r' m1 a.2.1 mem) (h3 : yTM Y K N mem) (h4 : ∀ t ∈ a.2.2, yPH r' m1 t) : ∃ a ∈ L, ∃ r' m1, zX r r' ∧ yOk E Y K N yPH r' m1 mem a.1 a.2.1 a.2.2 := ⟨a, h, r', m1, hx, h1, h2, h3, h4⟩
section
variable {E : mEnv} {Y : zT yC 7} {K : List (Nat × yK)} {N : Nat} {r : List Int} {m0 mem : mMem} {F : zF} {es : List yE} {P : yP} {ls : mLs} {als : zL} {st : List Value} {ast : List zV} {L : List yHs}
theorem yh_1_ok {k : Nat} {cs : List Int} (hok : yOk E Y K N yPH r m0 mem F es P) (hl : zls r ls als) (hs : zlm r st ast) (h : yh_1 k cs als ast F es P = some L) : ∃ a ∈ L, ∃ r' m1, zX r r' ∧ yOk E Y K N yPH r' m1 mem a.1 a.2.1 a.2.2 := by
  obtain ⟨hF, hc, hT, hP⟩ := hok
  unfold yh_1 at h
  split at h
  · rename_i v ev
    cases c : Nat.beq v.1 1 with
    | false => rw [c] at h; cases h
    | true =>
      rw [c] at h
      cases h
      obtain ⟨w, hw⟩ := yhv_ok hl hs ev
      obtain ⟨x, -, hx⟩ := zvm_i hw c
      obtain ⟨a, a1, a2, a3⟩ := yhc_ok (es := es) (P := P) hx (l := cs) hF
      exact ⟨a, a1, r, m0, zX.rf, a2, by rw [a3]; exact hc, hT, by rw [a3]; exact hP⟩
  · cases h
theorem yh_2_ok {j : Nat} (hok : yOk E Y K N yPH r m0 mem F es P) (h : yh_2 j ast F es P Y K N = some L) : ∃ a ∈ L, ∃ r' m1, zX r r' ∧ yOk E Y K N yPH r' m1 mem a.1 a.2.1 a.2.2 := by
  obtain ⟨hF, hc, hT, hP⟩ := hok
  unfold yh_2 at h
  split at h
  · rename_i a rr
    cases c : (Nat.beq a.1 2 && Nat.ble (Nat.succ a.2.1) N && Nat.ble (Nat.succ j) (ztg 7 Y a.2.1).2.2.1) with
    | false => rw [c] at h; cases h
    | true =>
      rw [c] at h
      simp only [cond_true] at h
      simp only [Bool.and_eq_true, Nat.ble_eq] at c
      obtain ⟨⟨c1, c2⟩, c3⟩ := c
      split at h
      · cases h
      · split at h
        · rename_i l h9 ez
          cases h
          have hp : a.2.1 < N := by omega
          obtain ⟨v, v1, ⟨⟨q, q1, q2⟩, -⟩⟩ := yva_ex (j := j) hT hp (by omega)
          rw [ez] at q1
          cases q1
          obtain ⟨b, rfl, b1, b2⟩ := q2
          refine yh_one (m1 := m0) (r' := r) (yh2_mem (b := b) (by dsimp only at b1 b2; omega) (by dsimp only at b1 b2; omega)) (zX.rf) (hF) (hc.fact (i := j) (zk_d hF _) (by rw [yvx_va hT hp]; exact v1) (show Value.ref b = .ref b from rfl)) (hT) (hP)
        · cases h
  · cases h
theorem yh_3_ok (hok : yOk E Y K N yPH r m0 mem F es P) (hs : zlm r st ast) (h : yh_3 ast F es P Y N = some L) : ∃ a ∈ L, ∃ r' m1, zX r r' ∧ yOk E Y K N yPH r' m1 mem a.1 a.2.1 a.2.2 := by
  obtain ⟨hF, hc, hT, hP⟩ := hok
  unfold yh_3 at h
  split at h
  · rename_i i a rr
    obtain ⟨v0, vs, rfl, hv0, hvs⟩ := zlm_cons hs
    cases c : (Nat.beq i.1 1 && Nat.beq a.1 2) with
    | false => rw [c] at h; cases h
    | true =>
      rw [c] at h
      simp only [cond_true] at h
      simp only [Bool.and_eq_true] at c
      obtain ⟨x, rfl, hx⟩ := zvm_i hv0 c.1
      split at h
      · cases h
      · rename_i e ee
        split at h
        · rename_i u eu
          cases h
          obtain ⟨k, hk⟩ := ych_pl hc e (yh3a_mem ee)
          obtain ⟨y, y1, y2⟩ := yk9_n hF hc hT hk eu
          by_cases hxk : x.toInt = (k : Int)
          · rw [hxk] at hx
            obtain ⟨F1, e1, h1⟩ := yeqs_ok (k0 := 0) hF hx hk
            have hp : a.2.1 < N := by
              unfold yk9 at eu
              cases c2 : (Nat.ble (Nat.succ a.2.1) N && yin F e.2.1 0 (.ofNat (ztg 7 Y a.2.1).2.2.1 - 1)) with
              | false => rw [c2] at eu; cases eu
              | true => simp only [Bool.and_eq_true, Nat.ble_eq] at c2; omega
            have hu1 : u.1 = 1 := by
              unfold yk9 at eu
              cases c2 : (Nat.ble (Nat.succ a.2.1) N && yin F e.2.1 0 (.ofNat (ztg 7 Y a.2.1).2.2.1 - 1)) with
              | false => rw [c2] at eu; cases eu
              | true =>
                rw [c2] at eu
                simp only [cond_true] at eu
                split at eu
                · rename_i b eb
                  cases c3 : Nat.beq b.1 1 with
                  | false => rw [c3] at eu; cases eu
                  | true => rw [c3] at eu; cases eu; exact zbe.mp c3
                · cases eu
            have hfact : ych E r m0 ((a.2.1, i, u, 0) :: es) mem := hc.fact hx (by rw [yvx_va hT hp]; exact y1) (zvm_int hu1 y2)
            rw [e1]
            cases ev : yk9 F es Y N a.2.1 i with
            | none => exact yh_one (m1 := m0) (r' := r) (List.mem_append_right _ (List.mem_singleton.mpr rfl)) (zX.rf) (h1) (hfact) (hT) (hP)
            | some w =>
              obtain ⟨z, z1, z2⟩ := yk9_n hF hc hT hx ev
              rw [y1] at z1
              cases z1
              obtain ⟨F2, e2, h2⟩ := yeqs_ok (k0 := 0) h1 z2 y2
              simp only [e2]
              exact yh_one (m1 := m0) (r' := r) (List.mem_append_right _ (List.mem_singleton.mpr rfl)) (zX.rf) (h2) (hfact) (hT) (hP)
          · obtain ⟨F1, e1, h1⟩ := ynes_ok (k0 := 0) hF hx hk hxk
            rw [e1]
            exact yh_one (m1 := m0) (r' := r) (List.mem_append_left _ (List.mem_singleton.mpr rfl)) (zX.rf) (h1) (hc) (hT) (hP)
        · cases h
  · cases h
theorem yrc_i {F' : zF} {es' : List yE} {p j : Nat} {a : zV} (hF : zFok r F) (hT : yTM Y K N mem) (hc : ych E r m0 es mem) (h : yrc F es Y K N p j = some (a, F', es')) (ha : Nat.beq a.1 1 = true) :
    ∃ (x : Int32) (r' : List Int), p < N ∧ yva mem p j = some (.int x) ∧ zX r r' ∧ zFok r' F' ∧ ych E r' m0 es' mem ∧ zd r' a = some x.toInt := by
  obtain ⟨v, r', h1, h2, h3, h4, h5, h6⟩ := yrc_ok hF hT hc h
  obtain ⟨x, rfl, hx⟩ := zvm_i h6 ha
  exact ⟨x, r', h1, h2, h3, h4, h5, hx⟩
theorem yh_4_ok (hok : yOk E Y K N yPH r m0 mem F es P) (h : yh_4 F es P Y K N = some L) : ∃ a ∈ L, ∃ r' m1, zX r r' ∧ yOk E Y K N yPH r' m1 mem a.1 a.2.1 a.2.2 := by
  obtain ⟨hF, hc, hT, hP⟩ := hok
  unfold yh_4 at h
  cases c : (yhp P 1 && (es.all (yut F (1, 0, 0, zk 0))) && !(ycE F es Y N) && Nat.ble 63 N) with
  | false => rw [c] at h; cases h
  | true =>
    rw [c] at h
    simp only [cond_true] at h
    simp only [Bool.and_eq_true, Nat.ble_eq] at c
    obtain ⟨⟨⟨c1, c2⟩, -⟩, c4⟩ := c
    obtain ⟨t, ht, t1⟩ := yhp_get c1
    obtain ⟨a0, e0, p1, p2, p3, p4⟩ := yut_all hF hc c2 (yPH_p (hP t ht) t1 (Or.inl rfl))
    split at h
    · rename_i a F1 es1 ea
      cases ca : Nat.beq a.1 1 with
      | false => rw [ca] at h; cases h
      | true =>
        rw [ca] at h
        simp only [cond_true] at h
        obtain ⟨x, r1, -, x1, x2, x3, x4, x5⟩ := yrc_i hF hT hc ea ca
        rw [p1] at x1
        cases x1
        obtain ⟨g1, g2, g3⟩ := zfr_ok (l := 0) (h := 200) (v := (e0 : Int)) x3 (by omega) (by omega)
        have hz : zd (r1 ++ [(e0 : Int)]) (1, F1.1, 0) = some (e0 : Int) := zd_some.mpr ⟨_, g2, by simp⟩
        obtain ⟨F2, f1, f2⟩ := yas_ok (k0 := 0) g1 (g3.den x5) hz p2
        rw [f1] at h
        cases h
        refine yh_one (m1 := m0) (r' := r1 ++ [(e0 : Int)]) (List.mem_singleton.mpr rfl) (x2.tr g3) (f2) ((x4.ex g3).fact (i := e0) hz (by rw [yvx_va hT (by omega)]; exact p4) (zvm_int (x := -1) rfl (zk_d g1 (-1)))) (hT) (fun t ht => yPH_X (x2.tr g3) (hP t ht))
    · cases h
theorem yh_5_ok (hok : yOk E Y K N yPH r m0 mem F es P) (h : yh_5 F es P Y K N = some L) : ∃ a ∈ L, ∃ r' m1, zX r r' ∧ yOk E Y K N yPH r' m1 mem a.1 a.2.1 a.2.2 := by
  obtain ⟨hF, hc, hT, hP⟩ := hok
  unfold yh_5 at h
  cases c : (yhp P 5 && (es.all (yut F (5, 0, 0, zk 0))) && Nat.ble 73 N) with
  | false => rw [c] at h; cases h
  | true =>
    rw [c] at h
    simp only [cond_true] at h
    simp only [Bool.and_eq_true, Nat.ble_eq] at c
    obtain ⟨⟨c1, c2⟩, c4⟩ := c
    obtain ⟨t, ht, t1⟩ := yhp_get c1
    obtain ⟨ca, oa, p1, p2, p3⟩ := yut_all hF hc c2 (yPH_p (hP t ht) t1 (Or.inr (Or.inr rfl)))
    split at h
    · rename_i o F1 es1 eo
      split at h
      · rename_i c F2 es2 ec
        cases cc : (Nat.beq o.1 1 && Nat.beq c.1 1 && yge 2 F2 o 1 && yle 2 F2 c (zk 100)) with
        | false => rw [cc] at h; cases h
        | true =>
          rw [cc] at h
          simp only [cond_true] at h
          simp only [Bool.and_eq_true] at cc
          obtain ⟨⟨⟨d1, d2⟩, d3⟩, d4⟩ := cc
          obtain ⟨x, r1, -, x1, x2, x3, x4, x5⟩ := yrc_i hF hT hc eo d1
          obtain ⟨y, r2, -, y1, y2, y3, y4, y5⟩ := yrc_i x3 hT x4 ec d2
          rw [p2] at x1
          rw [p1] at y1
          cases x1
          cases y1
          have ho := yge_ok y3 2 (y2.den x5) d3
          have h100 := yle_ok y3 2 y5 (zk_d y3 _) d4
          obtain ⟨w, w1, w2, w3, w4⟩ := p3 (oa.toInt - 1).toNat (by omega)
          obtain ⟨g1, g2, g3⟩ := zfr_ok (l := 0) (h := 99) (v := w.toInt) y3 (by omega) (by omega)
          have hz : ∀ k : Int, zd (r2 ++ [w.toInt]) (1, F2.1, k) = some (w.toInt + k) := fun k => zd_some.mpr ⟨_, g2, rfl⟩
          have hz0 : zd (r2 ++ [w.toInt]) (1, F2.1, 0) = some w.toInt := by rw [hz 0]; simp
          obtain ⟨F3, f1, f2⟩ := yas_ok (k0 := 0) g1 (hz 1) (g3.den y5) (by omega)
          rw [f1] at h
          simp only at h
          split at h
          · rename_i z F4 ez
            cases h
            obtain ⟨q, r3, k1, k2, k3, k4, k5⟩ := ybi_ok (x := w) (y := 5) f2 hz0 (zk_d f2 5) ez
            cases k1
            have hm : (w * 5).toInt = w.toInt * 5 := by
              have := zmul_i (x := w) (y := 5) (by rw [show (5 : Int32).toInt = 5 from rfl, zI0e]; omega) (by rw [show (5 : Int32).toInt = 5 from rfl, zI1e]; omega)
              rw [this]
              rfl
            have xx : zX r r3 := (x2.tr y2).tr (g3.tr k2)
            have c1' : ych E r3 m0 ((72, zsh o (-1), (1, F2.1, 0), 0) :: es2) mem := by
              refine (y4.ex (g3.tr k2)).fact (i := (oa.toInt - 1).toNat) ?_ (by rw [yvx_va hT (by omega)]; exact w1) (zvm_int rfl (k2.den hz0))
              have := zsh_d (n := -1) ((y2.tr (g3.tr k2)).den x5)
              rw [this]
              congr 1
              omega
            refine yh_one (m1 := m0) (r' := r3) (List.mem_singleton.mpr rfl) (xx) (k3) (c1'.fact (i := 5 * w.toInt.toNat) ?_ (by rw [yvx_va hT (by omega)]; exact w4) (zvm_int (x := 5) rfl (zk_d k3 5))) (hT) (fun t ht => yPH_X xx (hP t ht))
            rw [k4, hm]
            congr 1
            omega
          · cases h
      · cases h
    · cases h
theorem yh_6_ok (hok : yOk E Y K N yPH r m0 mem F es P) (h : yh_6 F es P Y K N = some L) : ∃ a ∈ L, ∃ r' m1, zX r r' ∧ yOk E Y K N yPH r' m1 mem a.1 a.2.1 a.2.2 := by
  obtain ⟨hF, hc, hT, hP⟩ := hok
  unfold yh_6 at h
  cases c : (yh1 P 6 77 && (es.all (yut F (6, 77, 0, zk 0)))) with
  | false => rw [c] at h; cases h
  | true =>
    rw [c] at h
    simp only [cond_true] at h
    simp only [Bool.and_eq_true] at c
    obtain ⟨t, ht, t1, t2⟩ := yh1_get c.1
    obtain ⟨xa, ya, p1, p2, p3⟩ := yut_all hF hc c.2 (yPH_k (hP t ht) t1 t2 (by decide) (by decide) (by decide))
    split at h
    · rename_i a F1 es1 ea
      split at h
      · rename_i b F2 es2 eb
        cases cc : (Nat.beq a.1 1 && Nat.beq b.1 1) with
        | false => rw [cc] at h; cases h
        | true =>
          rw [cc] at h
          simp only [cond_true] at h
          cases h
          simp only [Bool.and_eq_true] at cc
          obtain ⟨x, r1, -, x1, x2, x3, x4, x5⟩ := yrc_i hF hT hc ea cc.1
          obtain ⟨y, r2, -, y1, y2, y3, y4, y5⟩ := yrc_i x3 hT x4 eb cc.2
          dsimp only at p1 p2
          rw [p1] at x1
          rw [p2] at y1
          cases x1
          cases y1
          have xx := x2.tr y2
          rcases p3 with ⟨q1, q2⟩ | ⟨q1, q2⟩
          · obtain ⟨F3, f1, f2⟩ := yeqs_ok (k0 := 0) y3 (y2.den x5) (by rw [q1]; exact zk_d y3 0)
            obtain ⟨F4, f3, f4⟩ := yeqs_ok (k0 := 0) f2 y5 (by rw [q2]; exact zk_d f2 0)
            rw [f1]
            simp only [f3]
            exact yh_one (m1 := m0) (r' := r2) (List.mem_append_left _ (List.mem_singleton.mpr rfl)) (xx) (f4) (y4) (hT) (fun t ht => yPH_X xx (hP t ht))
          · obtain ⟨F3, f1, f2⟩ := yas_ok (k0 := 0) y3 (zk_d y3 1) (y2.den x5) q1
            obtain ⟨F4, f3, f4⟩ := yas_ok (k0 := 0) f2 (zk_d f2 1) y5 q2
            rw [f1]
            simp only [f3]
            exact yh_one (m1 := m0) (r' := r2) (List.mem_append_right _ (List.mem_singleton.mpr rfl)) (xx) (f4) (y4) (hT) (fun t ht => yPH_X xx (hP t ht))
      · cases h
    · cases h
theorem yh_7_ok (hok : yOk E Y K N yPH r m0 mem F es P) (h : yh_7 ast F es P Y N = some L) : ∃ a ∈ L, ∃ r' m1, zX r r' ∧ yOk E Y K N yPH r' m1 mem a.1 a.2.1 a.2.2 := by
  obtain ⟨hF, hc, hT, hP⟩ := hok
  unfold yh_7 at h
  split at h
  · rename_i i rr
    split at h
    · rename_i e ee
      have he := List.mem_of_find?_eq_some ee
      have hq := List.find?_some ee
      simp only [List.any_eq_true, Bool.and_eq_true] at hq
      obtain ⟨X, -, ⟨⟨⟨q1, q2⟩, q3⟩, q4⟩, q5⟩ := hq
      split at q5
      · rename_i o v eo ev
        simp only [Bool.and_eq_true] at q5
        obtain ⟨t, ht, t1, t2⟩ := yh1_get q3
        have hp := yut_all hF hc q4 (yPH_k (hP t ht) t1 t2 (by decide) (by decide) (by decide))
        obtain ⟨j, hj⟩ := ych_pl hc e he
        obtain ⟨x, x1, x2⟩ := yk9_n hF hc hT hj eo
        obtain ⟨y, y1, y2⟩ := yk9_n hF hc hT hj ev
        obtain ⟨b1, b2⟩ := yin_ok hF x2 q5.1
        obtain ⟨d1, d2⟩ := hp j x y x1 y1 (by omega)
        have hi : zd r i = some y.toInt := by rw [← zve_d q5.2]; exact y2
        obtain ⟨F1, f1, f2⟩ := yas_ok (k0 := 0) hF (zk_d hF 0) hi d1
        obtain ⟨F2, f3, f4⟩ := yas_ok (k0 := 0) f2 hi (zk_d f2 9) d2
        rw [f1] at h
        simp only [f3] at h
        cases h
        exact yh_one (m1 := m0) (r' := r) (List.mem_singleton.mpr rfl) (zX.rf) (f4) (hc) (hT) (hP)
      · cases q5
    · cases h
  · cases h
theorem yh_8_ok (hok : yOk E Y K N yPH r m0 mem F es P) (hs : zlm r st ast) (h : yh_8 ast F es P Y K N = some L) : ∃ a ∈ L, ∃ r' m1, zX r r' ∧ yOk E Y K N yPH r' m1 mem a.1 a.2.1 a.2.2 := by
  obtain ⟨hF, hc, hT, hP⟩ := hok
  unfold yh_8 at h
  split at h
  · rename_i i rr
    obtain ⟨v0, vs, rfl, hv0, -⟩ := zlm_cons hs
    split at h
    · rename_i x ex
      cases cc : ((zeq i.2.2 1 || zeq i.2.2 2) && Nat.beq i.1 1 && yin F i 0 499 && yhp P 3 && (es.all (yut F (3, 0, 0, zk 0))) && Nat.ble 72 N && Nat.beq (ztg 7 Y 71).2.2.1 500 && yh8a F es Y N i.2.1) with
      | false => rw [cc] at h; cases h
      | true =>
        rw [cc] at h
        simp only [cond_true] at h
        simp only [Bool.and_eq_true, Nat.ble_eq, Bool.or_eq_true, zeq_iff] at cc
        obtain ⟨⟨⟨⟨⟨⟨⟨c1, c2⟩, c3⟩, c4⟩, c5⟩, c6⟩, c7⟩, c8⟩ := cc
        obtain ⟨z, rfl, hz⟩ := zvm_i hv0 c2
        obtain ⟨u, u1, u2, u3, u4, u5⟩ := yrx_ok hF hz ex
        obtain ⟨b1, b2⟩ := yin_ok hF hz c3
        obtain ⟨t, ht, t1⟩ := yhp_get c4
        have hp := yut_all hF hc c5 (yPH_p (hP t ht) t1 (Or.inr (Or.inl rfl)))
        have hu : u = ((u.toNat : Nat) : Int) := by omega
        have hk := hp u.toNat (by omega)
        unfold yh8a at c8
        split at c8
        · rename_i k ek
          have hz5 : zd r (1, i.2.1, 0) = some ((5 * u.toNat : Nat) : Int) := zd_some.mpr ⟨u * 5, u2, by show _ = u * 5 + 0; omega⟩
          obtain ⟨y, y1, y2⟩ := yk9_n hF hc hT hz5 ek
          obtain ⟨d1, d2⟩ := yin_ok hF y2 c8
          obtain ⟨g1, g2⟩ := hk y y1 d2
          have hp71 : 71 < N := by omega
          obtain ⟨w, w1, w2⟩ := yva_ex (j := z.toInt.toNat) hT hp71 (by rw [zbe.mp c7]; omega)
          have hzn : zd r i = some ((z.toInt.toNat : Nat) : Int) := by rw [hz]; congr 1; omega
          split at h
          · rename_i v F1 es1 ev
            cases cv : Nat.beq v.1 1 with
            | false => rw [cv] at h; cases h
            | true =>
              rw [cv] at h
              simp only [cond_true] at h
              obtain ⟨r1, k1, k2, k3, k4⟩ := yrp_ok (n := 500) (es0 := []) hF hc (m1 := mem) rfl hzn (by rw [yvx_va hT hp71]; exact w1) w2 (zk_d hF 500) (by omega) ev
              obtain ⟨q, rfl, hq⟩ := zvm_i k4 cv
              have h7 : q.toInt ≤ 7 := by
                rcases c1 with c1 | c1
                · exact g1 q (by rw [show 5 * u.toNat + 1 = z.toInt.toNat by omega]; exact w1)
                · exact g2 q (by rw [show 5 * u.toNat + 2 = z.toInt.toNat by omega]; exact w1)
              obtain ⟨F2, f1, f2⟩ := yas_ok (k0 := 0) k2 hq (zk_d k2 7) h7
              rw [f1] at h
              cases h
              exact yh_one (m1 := m0) (r' := r1) (List.mem_singleton.mpr rfl) (k1) (f2) (k3) (hT) (fun t ht => yPH_X k1 (hP t ht))
          · cases h
        · cases c8
    · cases h
  · cases h
theorem yh_10_ok {Q : List (Nat × Nat)} (hok : yOk E Y K N yPH r m0 mem F es P) (hL : yln r Q) (h : yh_10 Q F es P = some L) : ∃ a ∈ L, ∃ r' m1, zX r r' ∧ yOk E Y K N yPH r' m1 mem a.1 a.2.1 a.2.2 := by
  obtain ⟨hF, hc, hT, hP⟩ := hok
  unfold yh_10 at h
  split at h
  · rename_i q
    split at h
    · rename_i p ep
      obtain ⟨u, v, u1, v1, huv⟩ := hL q List.mem_cons_self
      have dv : zd r (1, q.2, 0) = some v := zd_some.mpr ⟨v, v1, by simp⟩
      have du : zd r (1, q.1, 0) = some u := zd_some.mpr ⟨u, u1, by simp⟩
      have := (zlh_ok (l := p.1) (h := p.2) hF ep dv).2
      obtain ⟨F1, f1, f2⟩ := yas_ok (k0 := 0) hF du (zk_d hF (p.2 / 2)) (by omega)
      rw [f1] at h
      cases h
      exact yh_one (m1 := m0) (r' := r) (List.mem_singleton.mpr rfl) (zX.rf) (f2) (hc) (hT) (hP)
    · cases h
  · cases h
theorem yh_12_ok {p j : Nat} {cs : List Int} (hok : yOk E Y K N yPH r m0 mem F es P) (h : yh_12 p j cs F es P Y K N = some L) : ∃ a ∈ L, ∃ r' m1, zX r r' ∧ yOk E Y K N yPH r' m1 mem a.1 a.2.1 a.2.2 := by
  obtain ⟨hF, hc, hT, hP⟩ := hok
  unfold yh_12 at h
  split at h
  · rename_i v F1 es1 ev
    cases cv : Nat.beq v.1 1 with
    | false => rw [cv] at h; cases h
    | true =>
      rw [cv] at h
      cases h
      obtain ⟨x, r1, -, -, x2, x3, x4, x5⟩ := yrc_i hF hT hc ev cv
      obtain ⟨a, a1, a2, a3⟩ := yhc_ok (es := es1) (P := P) x5 (l := cs) x3
      exact ⟨a, a1, r1, m0, x2, a2, by rw [a3]; exact x4, hT, by rw [a3]; exact fun t ht => yPH_X x2 (hP t ht)⟩
  · cases h
end
theorem yhk_ok {E : mEnv} {Y : zT yC 7} {K : List (Nat × yK)} {N : Nat} {RI : List Int → Prop} {ht : Nat → Nat → Option yHt} (L : List (Nat × Nat)) : yHok E Y K N yPH (fun r => RI r ∧ yln r L) (yhk Y K N ht L) := by
  intro mi pc als ast F es P Lo h r ls st m0 mem hr hok hl hs
  unfold yhk at h
  split at h
  · cases h
  · rename_i k a b cs et
    split at h
    · exact yh_1_ok hok hl hs h
    · exact yh_2_ok hok h
    · exact yh_3_ok hok hs h
    · exact yh_4_ok hok h
    · exact yh_5_ok hok h
    · exact yh_6_ok hok h
    · exact yh_7_ok hok h
    · exact yh_8_ok hok hs h
    · cases h
      obtain ⟨h1, h2⟩ := ysy_ok r m0 mem F es P hok
      exact yh_one (m1 := mem) (r' := r) (List.mem_singleton.mpr rfl) (zX.rf) (hok.1) (h1.ch) (hok.2.2.1) (h2)
    · exact yh_10_ok hok hr.2 h
    · cases h
      refine yh_one (m1 := m0) (r' := r) (List.mem_singleton.mpr rfl) (zX.rf) (hok.1) (hok.2.1) (hok.2.2.1) (fun t ht => ?_)
      rcases List.mem_cons.mp ht with rfl | ht
      · exact ⟨0, zk_d hok.1 0, fun j hj => by omega⟩
      · exact hok.2.2.2 t ht
    · exact yh_12_ok hok h
    · cases h
