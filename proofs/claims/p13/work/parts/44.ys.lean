/-! steps over typed memory -/
theorem yset_wr {mem : mMem} {p i : Nat} {c c' : mCell} {v : Value} (hc : mem[p]? = some c) (h : ∀ j, yv1 c' j = if j = i then some v else yv1 c j) : ywr mem p i v (mem.set p c') := by
  intro q j
  have hlt := (List.getElem?_eq_some_iff.mp hc).1
  unfold yva
  by_cases hq : q = p
  · subst hq
    rw [List.getElem?_set_self hlt, hc]
    simp only
    rw [h j]
    by_cases hj : j = i
    · rw [if_pos hj, if_pos ⟨trivial, hj⟩]
    · rw [if_neg hj, if_neg (fun e => hj e.2)]
  · rw [List.getElem?_set_ne (fun e => hq e.symm), if_neg (fun e => hq e.1)]
theorem yset_tm {Y : zT yC 7} {K : List (Nat × yK)} {N p i : Nat} {mem : mMem} {c c' : mCell} {v : Value} (hT : yTM Y K N mem) (hc : mem[p]? = some c) (hs : ysh (ztg 7 Y p) c → ysh (ztg 7 Y p) c') (h : ∀ j, yv1 c' j = if j = i then some v else yv1 c j)
    (hv : yok (ykk K (ztg 7 Y p).2.2.2) i v) : yTM Y K N (mem.set p c') := by
  have hlt := (List.getElem?_eq_some_iff.mp hc).1
  refine ⟨by rw [List.length_set]; exact hT.1, hT.2.1, ?_⟩
  intro q d hd
  by_cases hq : q = p
  · subst hq
    rw [List.getElem?_set_self hlt] at hd
    cases hd
    obtain ⟨s1, s2⟩ := hT.2.2 _ c hc
    refine ⟨hs s1, fun j w hw => ?_⟩
    rw [h j] at hw
    by_cases hj : j = i
    · rw [if_pos hj] at hw
      cases hw
      rw [hj]
      exact hv
    · rw [if_neg hj] at hw
      exact s2 j w hw
  · rw [List.getElem?_set_ne (fun e => hq e.symm)] at hd
    exact hT.2.2 q d hd
theorem yix {r : List Int} {i : zV} {x : Int32} {n : Nat} (hx : zd r i = some x.toInt) (h0 : 0 ≤ x.toInt) (h1 : x.toInt < n) : mIn x n = true ∧ zd r i = some (x.toNatClampNeg : Int) ∧ x.toNatClampNeg < n := by
  have e0 : (x.toNatClampNeg : Int) = x.toInt := by
    have : x.toNatClampNeg = x.toInt.toNat := rfl
    rw [this]; omega
  have hlt : x.toNatClampNeg < n := by omega
  refine ⟨?_, by rw [e0]; exact hx, hlt⟩
  unfold mIn
  have n1 : ¬ x < 0 := by
    rw [Int32.lt_iff_toInt_lt]
    have : (0 : Int32).toInt = 0 := rfl
    rw [this]; omega
  have n2 : ¬ n ≤ x.toNatClampNeg := by omega
  simp only [n1, n2, decide_false, Bool.or_self, Bool.not_false]
def yld (t : Nat) (st : List zV) (F : zF) (es : List yE) (Y : zT yC 7) (K : List (Nat × yK)) (N : Nat) (ro : yQ) : Option (zV × List zV × zF × List yE) := match st with
  | i :: a :: rr => bif Nat.beq i.1 1 && Nat.beq a.1 2 then (match yar Y K N ro a.2.1 with
    | some (t', nv, k, es0) => bif Nat.beq t' t && yge 2 F i 0 && yle 2 F (zsh i 1) nv then (match yrp F es es0 k nv a.2.1 i with
      | some (c, F', es') => bif ztt t c then some (c, rr, F', es') else none
      | none => none) else none
    | none => none) else none
  | _ => none
theorem yld_ok {E : mEnv} {r : List Int} {ro : yQ} {t : Nat} {st : List Value} {ast rr : List zV} {mem m0 : mMem} {F F' : zF} {es es' : List yE} {Y : zT yC 7} {K : List (Nat × yK)} {N : Nat} {c : zV}
    (hr : yRo E r ro) (hF : zFok r F) (hs : zlm r st ast) (hT : yTM Y K N mem) (hc : ych E r m0 es mem) (h : yld t ast F es Y K N ro = some (c, rr, F', es')) :
    ∃ (x : Int32) (p : Nat) (us : List Value) (n : Nat) (f : Nat → Value) (r' : List Int), st = .int x :: .ref p :: us ∧ marr E mem p = some (t, n, f) ∧ mIn x n = true ∧ zX r r' ∧ zFok r' F' ∧ zlm r' us rr ∧ ych E r' m0 es' mem ∧ zvm r' (f x.toNatClampNeg) c ∧ ztt t c = true := by
  unfold yld at h
  split at h
  · rename_i i a rr'
    obtain ⟨v, vs, rfl, hv, hvs⟩ := zlm_cons hs
    obtain ⟨u, us, rfl, hu, hus⟩ := zlm_cons hvs
    cases c1 : (Nat.beq i.1 1 && Nat.beq a.1 2) with
    | false => rw [c1] at h; cases h
    | true =>
      rw [c1] at h
      simp only [cond_true] at h
      simp only [Bool.and_eq_true] at c1
      obtain ⟨x, rfl, hx⟩ := zvm_i hv c1.1
      have eu := zvm_r hu c1.2
      subst eu
      split at h
      · rename_i t' nv k es0 ea
        obtain ⟨n, f, a1, a2, a3, a4, a5, a6, a7, -⟩ := yar_ok hF hT hr ea
        cases c2 : (Nat.beq t' t && yge 2 F i 0 && yle 2 F (zsh i 1) nv) with
        | false => rw [c2] at h; cases h
        | true =>
          rw [c2] at h
          simp only [cond_true] at h
          simp only [Bool.and_eq_true] at c2
          obtain rfl := zbe.mp c2.1.1
          have i0 := yge_ok hF 2 hx c2.1.2
          have i1 := yle_ok hF 2 (zsh_d hx) a4 c2.2
          obtain ⟨k1, k2, k3⟩ := yix hx i0 (n := n) (by omega)
          split at h
          · rename_i c' F'' es'' er
            cases c3 : ztt t' c' with
            | false => rw [c3] at h; cases h
            | true =>
              rw [c3] at h
              simp only [cond_true] at h
              cases h
              obtain ⟨r', g1, g2, g3, g4⟩ := yrp_ok hF hc (a7 mem) k2 (a5 _ k3) (a6 _ k3) a4 k3 er
              exact ⟨x, a.2.1, us, n, f, r', rfl, a1, k1, g1, g2, hus.ex g1, g3, g4, c3⟩
          · cases h
      · cases h
  · cases h
/-- an array is written: where it may -/
def ysi (t : Nat) (i a v : zV) (F : zF) (es : List yE) (Y : zT yC 7) (K : List (Nat × yK)) (N : Nat) (mods : List (Nat × Nat × Nat)) : Bool :=
  Nat.beq i.1 1 && Nat.beq a.1 2 && Nat.ble (Nat.succ a.2.1) N && ztt t v && Nat.beq (ztg 7 Y a.2.1).1 1 && Nat.beq (ztg 7 Y a.2.1).2.1 t && yge 2 F i 0 && yle 2 F (zsh i 1) (zk (.ofNat (ztg 7 Y a.2.1).2.2.1)) && yft F es Y K N a.2.1 i v && yim F a.2.1 i mods
theorem ysi_ok {E : mEnv} {r : List Int} {t : Nat} {i a v : zV} {x : Int32} {w u : Value} {mem m0 : mMem} {F : zF} {es : List yE} {Y : zT yC 7} {K : List (Nat × yK)} {N : Nat} {mods : List (Nat × Nat × Nat)}
    (hF : zFok r F) (hT : yTM Y K N mem) (hc : ych E r m0 es mem) (hx : zd r i = some x.toInt) (hu : zvm r u a) (hw : zvm r w v) (h : ysi t i a v F es Y K N mods = true) :
    ∃ (n : Nat) (f : Nat → Value), u = .ref a.2.1 ∧ mem[a.2.1]? = some (.inl (t, n, f)) ∧ mIn x n = true ∧ ych E r m0 ((a.2.1, i, v, 1) :: es) (mem.set a.2.1 (.inl (t, n, mup f x.toNatClampNeg w))) ∧ yTM Y K N (mem.set a.2.1 (.inl (t, n, mup f x.toNatClampNeg w))) ∧
      ∀ p j, ¬ yMi mods p j → yva (mem.set a.2.1 (.inl (t, n, mup f x.toNatClampNeg w))) p j = yva mem p j := by
  unfold ysi at h
  simp only [Bool.and_eq_true, Nat.ble_eq] at h
  obtain ⟨⟨⟨⟨⟨⟨⟨⟨⟨h1, h2⟩, h3⟩, h4⟩, h5⟩, h6⟩, h7⟩, h8⟩, h9⟩, h10⟩ := h
  have hlt : a.2.1 < mem.length := by rw [hT.1]; omega
  obtain ⟨s1, s2⟩ := hT.2.2 a.2.1 mem[a.2.1] (List.getElem?_eq_getElem hlt)
  have h128 := hT.2.1
  cases hm : mem[a.2.1] with
  | inr q =>
    rw [hm] at s1
    have := s1.1
    rw [zbe.mp h5] at this
    omega
  | inl q =>
    obtain ⟨t', n, f⟩ := q
    rw [hm] at s1 s2
    obtain ⟨-, e1, e2⟩ := s1
    have et : t' = t := by rw [← e1]; exact zbe.mp h6
    subst et
    have hm' : mem[a.2.1]? = some (.inl (t', n, f)) := by rw [List.getElem?_eq_getElem hlt, hm]
    have i0 := yge_ok hF 2 hx h7
    have i1 := yle_ok hF 2 (zsh_d hx) (zk_d hF _) h8
    simp only [Int.ofNat_eq_natCast] at i1
    obtain ⟨k1, k2, k3⟩ := yix hx i0 (n := n) (by omega)
    have hy : ∀ j, yv1 (.inl (t', n, mup f x.toNatClampNeg w)) j = if j = x.toNatClampNeg then some w else yv1 (.inl (t', n, f)) j := by
      intro j
      unfold yv1 mup
      simp only
      by_cases hj : j = x.toNatClampNeg
      · rw [if_pos hj, if_pos (by omega), if_pos hj]
      · rw [if_neg hj, if_neg hj]
    have hwr := yset_wr hm' hy
    have hok := yft_ok hF hT hc k2 (by omega) hw (s2 _ (f x.toNatClampNeg) (by simp only [yv1, k3, if_true])) h9
    refine ⟨n, f, zvm_r hu h2, hm', k1, hc.write (by omega) k2 hw hwr, yset_tm hT hm' (fun s => s) hy hok, ?_⟩
    intro p j hp
    rw [hwr p j, if_neg]
    rintro ⟨rfl, rfl⟩
    exact hp (yim_ok hF k2 h10)
/-- a field is read -/
def ygf (q : mIns) (st : List zV) (F : zF) (es : List yE) (Y : zT yC 7) (K : List (Nat × yK)) (N : Nat) : Option (zV × List zV × zF × List yE) := match st with
  | a :: rr => bif Nat.beq a.1 2 && Nat.ble (Nat.succ a.2.1) N && Nat.beq (ztg 7 Y a.2.1).1 0 && Nat.beq (ztg 7 Y a.2.1).2.1 q.2.2.2.2.1 && Nat.ble (Nat.succ q.2.2.2.2.2.1) (ztg 7 Y a.2.1).2.2.1 then
      (match yrp F es [] (ykk K (ztg 7 Y a.2.1).2.2.2) (zk (.ofNat (ztg 7 Y a.2.1).2.2.1)) a.2.1 (zk (.ofNat q.2.2.2.2.2.1)) with
      | some (c, F', es') => bif Nat.beq c.1 0 then none else some (c, rr, F', es')
      | none => none) else none
  | _ => none
theorem yobj {Y : zT yC 7} {K : List (Nat × yK)} {N p : Nat} {mem : mMem} (hT : yTM Y K N mem) (hp : p < N) (hk : (ztg 7 Y p).1 = 0) : ∃ fs, mem[p]? = some (.inr ((ztg 7 Y p).2.1, fs)) ∧ fs.length = (ztg 7 Y p).2.2.1 ∧ ∀ j v, fs[j]? = some v → yok (ykk K (ztg 7 Y p).2.2.2) j v := by
  have hlt : p < mem.length := by rw [hT.1]; exact hp
  obtain ⟨s1, s2⟩ := hT.2.2 p mem[p] (List.getElem?_eq_getElem hlt)
  cases hm : mem[p] with
  | inl q =>
    rw [hm] at s1
    obtain ⟨t, n, f⟩ := q
    have := s1.1
    omega
  | inr q =>
    obtain ⟨ci, fs⟩ := q
    rw [hm] at s1 s2
    obtain ⟨-, e1, e2⟩ := s1
    exact ⟨fs, by rw [List.getElem?_eq_getElem hlt, hm, e1], e2.symm, s2⟩
theorem zvm_k {r : List Int} {v : Value} {a : zV} (h : zvm r v a) (h0 : Nat.beq a.1 0 = false) : (mkind 0 v || mkind 1 v || mkind 2 v) = true := by
  unfold zvm at h
  split at h
  · rename_i e; rw [e] at h0; cases h0
  · obtain ⟨x, rfl, -⟩ := h; rfl
  · rw [h]; rfl
  · obtain ⟨x, rfl, -⟩ := h; rfl
  · obtain ⟨x, rfl⟩ := h; rfl
theorem ygf_ok {E : mEnv} {r : List Int} {q : mIns} {st : List Value} {ast rr : List zV} {mem m0 : mMem} {F F' : zF} {es es' : List yE} {Y : zT yC 7} {K : List (Nat × yK)} {N : Nat} {c : zV}
    (hF : zFok r F) (hs : zlm r st ast) (hT : yTM Y K N mem) (hc : ych E r m0 es mem) (h : ygf q ast F es Y K N = some (c, rr, F', es')) :
    ∃ (p : Nat) (us fs : List Value) (v : Value) (r' : List Int), st = .ref p :: us ∧ mem[p]? = some (.inr (q.2.2.2.2.1, fs)) ∧ fs[q.2.2.2.2.2.1]? = some v ∧ (mkind 0 v || mkind 1 v || mkind 2 v) = true ∧ zX r r' ∧ zFok r' F' ∧ zlm r' us rr ∧ ych E r' m0 es' mem ∧ zvm r' v c := by
  unfold ygf at h
  split at h
  · rename_i a rr'
    obtain ⟨u, us, rfl, hu, hus⟩ := zlm_cons hs
    cases c1 : (Nat.beq a.1 2 && Nat.ble (Nat.succ a.2.1) N && Nat.beq (ztg 7 Y a.2.1).1 0 && Nat.beq (ztg 7 Y a.2.1).2.1 q.2.2.2.2.1 && Nat.ble (Nat.succ q.2.2.2.2.2.1) (ztg 7 Y a.2.1).2.2.1) with
    | false => rw [c1] at h; cases h
    | true =>
      rw [c1] at h
      simp only [cond_true] at h
      simp only [Bool.and_eq_true, Nat.ble_eq] at c1
      obtain ⟨⟨⟨⟨d1, d2⟩, d3⟩, d4⟩, d5⟩ := c1
      have eu := zvm_r hu d1
      subst eu
      obtain ⟨fs, f1, f2, f3⟩ := yobj hT (by omega) (zbe.mp d3)
      rw [zbe.mp d4] at f1
      have hlt : q.2.2.2.2.2.1 < fs.length := by omega
      have hv : fs[q.2.2.2.2.2.1]? = some fs[q.2.2.2.2.2.1] := List.getElem?_eq_getElem hlt
      have h128 := hT.2.1
      have hx : yvx E mem a.2.1 q.2.2.2.2.2.1 = some fs[q.2.2.2.2.2.1] := by
        unfold yvx yva
        rw [if_pos (by omega), f1]
        exact hv
      split at h
      · rename_i c' F'' es'' er
        cases c3 : Nat.beq c'.1 0 with
        | true => rw [c3] at h; cases h
        | false =>
          rw [c3] at h
          simp only [cond_false] at h
          cases h
          obtain ⟨r', g1, g2, g3, g4⟩ := yrp_ok (n := (ztg 7 Y a.2.1).2.2.1) (es0 := []) hF hc (m1 := mem) rfl (zk_d hF _) hx (f3 _ _ hv) (zk_d hF _) (by omega) er
          exact ⟨a.2.1, us, fs, _, r', rfl, f1, hv, zvm_k g4 c3, g1, g2, hus.ex g1, g3, g4⟩
      · cases h
  · cases h
def yf9 (F : zF) (v : zV) : Option FieldType → Bool
  | some ty => zft F ty v
  | none => false
/-- a field is written -/
def ypf (ft : Nat → List FieldType) (q : mIns) (st : List zV) (F : zF) (es : List yE) (Y : zT yC 7) (K : List (Nat × yK)) (N : Nat) (mods : List (Nat × Nat × Nat)) : Option (List zV × List yE) := match st with
  | v :: a :: rr => bif Nat.beq a.1 2 && Nat.ble (Nat.succ a.2.1) N && Nat.beq (ztg 7 Y a.2.1).1 0 && Nat.beq (ztg 7 Y a.2.1).2.1 q.2.2.2.2.1 && Nat.ble (Nat.succ q.2.2.2.2.2.1) (ztg 7 Y a.2.1).2.2.1 &&
      yf9 F v (ft q.2.2.2.2.1)[q.2.2.2.2.2.1]? && yft F es Y K N a.2.1 (zk (.ofNat q.2.2.2.2.2.1)) v && yim F a.2.1 (zk (.ofNat q.2.2.2.2.2.1)) mods then some (rr, (a.2.1, zk (.ofNat q.2.2.2.2.2.1), v, 1) :: es) else none
  | _ => none
theorem ypf_ok {E : mEnv} {r : List Int} {q : mIns} {st : List Value} {ast rr : List zV} {mem m0 : mMem} {F : zF} {es es' : List yE} {Y : zT yC 7} {K : List (Nat × yK)} {N : Nat} {mods : List (Nat × Nat × Nat)}
    (hF : zFok r F) (hs : zlm r st ast) (hT : yTM Y K N mem) (hc : ych E r m0 es mem) (h : ypf E.2.1 q ast F es Y K N mods = some (rr, es')) :
    ∃ (v : Value) (p : Nat) (us fs : List Value) (ty : FieldType), st = v :: .ref p :: us ∧ mem[p]? = some (.inr (q.2.2.2.2.1, fs)) ∧ (E.2.1 q.2.2.2.2.1)[q.2.2.2.2.2.1]? = some ty ∧ mfit ty v = true ∧ (mkind 0 v || mkind 1 v || mkind 2 v) = true ∧ q.2.2.2.2.2.1 < fs.length ∧
      zlm r us rr ∧ ych E r m0 es' (mem.set p (.inr (q.2.2.2.2.1, fs.set q.2.2.2.2.2.1 v))) ∧ yTM Y K N (mem.set p (.inr (q.2.2.2.2.1, fs.set q.2.2.2.2.2.1 v))) ∧ ∀ p' j, ¬ yMi mods p' j → yva (mem.set p (.inr (q.2.2.2.2.1, fs.set q.2.2.2.2.2.1 v))) p' j = yva mem p' j := by
  unfold ypf at h
  split at h
  · rename_i av a rr'
    obtain ⟨v, vs, rfl, hv, hvs⟩ := zlm_cons hs
    obtain ⟨u, us, rfl, hu, hus⟩ := zlm_cons hvs
    rw [Bool.cond_eq_ite] at h
    split at h
    · rename_i c1
      cases h
      simp only [Bool.and_eq_true, Nat.ble_eq] at c1
      obtain ⟨⟨⟨⟨⟨⟨⟨d1, d2⟩, d3⟩, d4⟩, d5⟩, d6⟩, d7⟩, d8⟩ := c1
      have eu := zvm_r hu d1
      subst eu
      obtain ⟨fs, f1, f2, f3⟩ := yobj hT (by omega) (zbe.mp d3)
      rw [zbe.mp d4] at f1
      have h128 := hT.2.1
      have hlt : q.2.2.2.2.2.1 < fs.length := by omega
      cases ety : (E.2.1 q.2.2.2.2.1)[q.2.2.2.2.2.1]? with
      | some ty =>
        rw [ety] at d6
        obtain ⟨g1, g2⟩ := zft_ok hF hv d6
        have hy : ∀ j, yv1 (.inr (q.2.2.2.2.1, fs.set q.2.2.2.2.2.1 v)) j = if j = q.2.2.2.2.2.1 then some v else yv1 (.inr (q.2.2.2.2.1, fs)) j := by
          intro j
          show (fs.set q.2.2.2.2.2.1 v)[j]? = if j = q.2.2.2.2.2.1 then some v else fs[j]?
          by_cases hj : j = q.2.2.2.2.2.1
          · rw [if_pos hj, hj, List.getElem?_set_self hlt]
          · rw [if_neg hj, List.getElem?_set_ne (fun e => hj e.symm)]
        have hwr := yset_wr f1 hy
        have hi : zd r (zk (.ofNat q.2.2.2.2.2.1)) = some ((q.2.2.2.2.2.1 : Nat) : Int) := zk_d hF _
        have hok := yft_ok hF hT hc hi (by omega) hv (f3 _ _ (List.getElem?_eq_getElem hlt)) d7
        refine ⟨v, a.2.1, us, fs, ty, rfl, f1, rfl, g1, g2, hlt, hus, hc.write (by omega) hi hv hwr, yset_tm hT f1 (fun s => ⟨s.1, s.2.1, by rw [List.length_set]; exact s.2.2⟩) hy hok, ?_⟩
        intro p j hp
        rw [hwr p j, if_neg]
        rintro ⟨rfl, rfl⟩
        exact hp (yim_ok hF hi d8)
      | none => rw [ety] at d6; cases d6
    · cases h
  · cases h
