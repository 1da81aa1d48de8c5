/-! the contract of a burst -/
theorem zbu_core {E : mEnv} (hE1 : E.1 = zmt) (hE2 : E.2.1 = zft_) (hE4 : E.2.2.2 = zxn) {mi ref : Nat} {W2 W3 : zT zC 7} {V : List Int} {pl ph sv : Int} (hb : zbR mi ref W2 W3 V pl ph sv) {g p s m : Int32} {x : Int64}
    (g1 : 0 ≤ g.toInt) (g2 : g.toInt ≤ 3) (p1 : pl ≤ p.toInt) (p2 : p.toInt ≤ ph) (s1 : s.toInt = sv) (m1 : 1 ≤ m.toInt) (m2 : m.toInt ≤ 50) {mem : mMem} (hm : zmm (zr2 g p s m x) mem (85, W2)) {d : Nat} (hd : 200 ≤ d) {nc0 ns0 : Nat} (hnc : nc0 ≤ 500000) (hns : ns0 ≤ 7000000) :
    mGd E (fun res => ∃ r' o, zX (zr2 g p s m x) r' ∧ zbo W3 V o = true ∧ zuo E r' o res) d mi 0 (lv_args 0 [.ref ref, .int g, .int p, .int s, .int m]) [] mem nc0 ns0 := by
  refine mGd_deep (d := 200) hd ?_
  refine hb hE1 hE2 hE4 ⟨?_, trivial, zbF_ok g1 g2 p1 p2 s1 m1 m2, hm, hnc, hns⟩
  refine zarg_ok 0 ⟨rfl, ?_, ?_, ?_, ?_, trivial⟩ rfl
  · exact ⟨g, rfl, zd_some.mpr ⟨g.toInt, rfl, by dsimp only; omega⟩⟩
  · exact ⟨p, rfl, zd_some.mpr ⟨p.toInt, rfl, by dsimp only; omega⟩⟩
  · exact ⟨s, rfl, zd_some.mpr ⟨s.toInt, rfl, by dsimp only; omega⟩⟩
  · exact ⟨m, rfl, zd_some.mpr ⟨m.toInt, rfl, by dsimp only; omega⟩⟩
theorem zs4 {sv : Int} (h1 : 0 ≤ sv) (h2 : sv ≤ 3) : sv = 0 ∨ sv = 1 ∨ sv = 2 ∨ sv = 3 := by omega
theorem zw2_77 : ztg 7 zw2 77 = .inl (0, 969, zmB, zxt zvt ++ zmE) := Eq.trans (show ztg 7 zw2 77 = zw2c_77 from rfl) zmB_2
theorem zw2_84 : ztg 7 zw2 84 = .inl (1, 1, [(1, 3, 0, 0)], [((1, 0, 0), (3, 5, 0))]) := rfl
theorem zbu_c7 {r r2 : List Int} (h0 : r[0]? = some 0) (h2 : r2[0]? = some 0) {t : Nat} (h6 : r2[6]? = some ((7 * t : Nat) : Int)) (ht : t ≤ 3) {cc : mCell} (q2 : zcm r cc (.inl (0, 969, zmB, zmE))) : zcm r2 cc (.inl (0, 969, zmB, zxt zvt ++ zmE)) := by
  obtain ⟨f7, rfl, hf7⟩ := q2
  exact ⟨f7, rfl, fun j hj => zxt_ok h6 zvt (fun q hq => z7_ok h0 h2 hf7 ht q hq) (zakc h0 h2 zmB_c (hf7 j hj))⟩
theorem zbu_c84 {r2 : List Int} (h2 : r2[0]? = some 0) {x : Int64} (h5 : r2[5]? = some x.toInt) {f : Nat → Value} (hx : f 0 = .long x) : zcm r2 (.inl (1, 1, f)) (.inl (1, 1, [(1, 3, 0, 0)], [((1, 0, 0), (3, 5, 0))])) := by
  refine ⟨f, rfl, fun j hj => ⟨0, zd_some.mpr ⟨0, h2, rfl⟩, ?_⟩⟩
  have hj0 : j = 0 := by omega
  subst hj0
  rw [if_pos rfl, hx]
  exact ⟨x, rfl, zd_some.mpr ⟨x.toInt, h5, by dsimp only; omega⟩⟩
/-- what an end says, without its names -/
theorem zbo_ok {W3 : zT zC 7} {V : List Int} {o : zU} (h : zbo W3 V o = true) : (o.1 = 1 ∧ o.2.1.1 = 1 ∧ o.2.1.2.1 = 0) ∧ (∃ l, zlh o.2.2.1 (1, 4, 0) = some (l, l) ∧ zlv V l = some o.2.1.2.2) ∧ o.2.2.2.1.1 = 85 ∧
    zaln 84 (fun p => zsb (ztg 7 o.2.2.2.1.2 p) (ztg 7 W3 p)) = true ∧ eC (ztg 7 o.2.2.2.1.2 84) zw2c_84 = true ∧ o.2.2.2.2.1 ≤ 500000 ∧ o.2.2.2.2.2 ≤ 7000000 := by
  unfold zbo at h
  generalize zw2c_84 = C84 at h ⊢
  simp only [Bool.and_eq_true] at h
  obtain ⟨o1, o2, o3, o4, o5, o6, o7, o8, o9⟩ := h
  refine ⟨⟨zbe.mp o1, zbe.mp o2, zbe.mp o3⟩, ?_, zbe.mp o5, o6, o7, Nat.le_of_ble_eq_true o8, Nat.le_of_ble_eq_true o9⟩
  split at o4
  · rename_i l hh el
    rw [Bool.and_eq_true, zeq_iff] at o4
    obtain ⟨t1, t2⟩ := o4
    subst t1
    split at t2
    · rename_i v ev
      exact ⟨l, el, by rw [ev, zeq_iff.mp t2]⟩
    · cases t2
  · cases o4
def zbQ (W3 : zT zC 7) (V : List Int) (m : Int32) (x : Int64) (res : mRes) : Prop :=
  (∃ y : Int32, res.1 = .inr (some (.int y)) ∧ zlv V m.toInt = some y.toInt) ∧ res.2.2.1 ≤ 500000 ∧ res.2.2.2 ≤ 7000000 ∧ res.2.1.length = 85 ∧
    (∀ q, q < 84 → ∃ cc, res.2.1[q]? = some cc ∧ ∀ r2 : List Int, r2[0]? = some 0 → zcm r2 cc (ztg 7 W3 q)) ∧ ∃ f, res.2.1[84]? = some (.inl (1, 1, f)) ∧ f 0 = .long x
theorem zbQ_gen {W3 : zT zC 7} {E : mEnv} {V : List Int} {g p s m : Int32} {x : Int64} {r' : List Int} {o : zU} {res : mRes} (hX : zX (zr2 g p s m x) r')
    (ho : (o.1 = 1 ∧ o.2.1.1 = 1 ∧ o.2.1.2.1 = 0) ∧ (∃ l, zlh o.2.2.1 (1, 4, 0) = some (l, l) ∧ zlv V l = some o.2.1.2.2) ∧ o.2.2.2.1.1 = 85 ∧ zaln 84 (fun p => zsb (ztg 7 o.2.2.2.1.2 p) (ztg 7 W3 p)) = true ∧
      ztg 7 o.2.2.2.1.2 84 = .inl (1, 1, [(1, 3, 0, 0)], [((1, 0, 0), (3, 5, 0))]) ∧ o.2.2.2.2.1 ≤ 500000 ∧ o.2.2.2.2.2 ≤ 7000000)
    (hu : zuo E r' o res) : zbQ W3 V m x res := by
  obtain ⟨⟨o1, o2, o3⟩, ⟨l, el, ev⟩, o5, o6, o7, o8, o9⟩ := ho
  obtain ⟨v1, v2, v3, v4, v5⟩ := hu
  have h0' : r'[0]? = some 0 := v1.2.1
  have h4 : r'[4]? = some m.toInt := hX.get (i := 4) rfl
  have h5 : r'[5]? = some x.toInt := hX.get (i := 5) rfl
  rw [o1] at v5
  obtain ⟨v, e1, e2⟩ := v5
  obtain ⟨y, rfl, hy⟩ := zvm_i e2 (by rw [o2]; rfl)
  refine ⟨⟨y, e1, ?_⟩, Nat.le_trans v3 o8, Nat.le_trans v4 o9, by rw [v2.1, o5], fun q hq => ?_, ?_⟩
  · have hm := zlh_ok v1 el (x := m.toInt) (zd_some.mpr ⟨m.toInt, h4, by dsimp only; omega⟩)
    have hlm : l = m.toInt := by omega
    obtain ⟨u, w1, w2⟩ := zd_some.mp hy
    rw [o3, h0'] at w1
    cases w1
    rw [← hlm, ev]
    congr 1
    omega
  · obtain ⟨cc, q1, q2⟩ := v2.2.2 q (by rw [o5]; omega)
    exact ⟨cc, q1, fun r2 h2 => zsb_ok h0' h2 (zaln_ok o6 q hq) q2⟩
  · obtain ⟨cc, q1, q2⟩ := v2.2.2 84 (by rw [o5]; decide)
    rw [o7] at q2
    obtain ⟨f, rfl, hf⟩ := q2
    refine ⟨f, q1, ?_⟩
    obtain ⟨i, i1, i2⟩ := hf 0 (by decide)
    obtain ⟨u0, w1, w2⟩ := zd_some.mp i1
    have w1 : r'[0]? = some u0 := w1
    have w2 : (i : Int) = u0 + 0 := w2
    rw [h0'] at w1
    cases w1
    have hi : 0 = i := by omega
    rw [if_pos hi] at i2
    obtain ⟨z, e3, e4⟩ := i2
    obtain ⟨u1, w3, w4⟩ := zd_some.mp e4
    have w3 : r'[5]? = some u1 := w3
    have w4 : z.toInt = u1 + 0 := w4
    rw [h5] at w3
    cases w3
    have hz : z = x := Int64.toInt_inj.mp (by omega)
    rw [e3, hz]
theorem zbQ_ok {W3 : zT zC 7} {E : mEnv} {V : List Int} {g p s m : Int32} {x : Int64} {r' : List Int} {o : zU} {res : mRes} (hX : zX (zr2 g p s m x) r') (ho : zbo W3 V o = true) (hu : zuo E r' o res) : zbQ W3 V m x res := by
  obtain ⟨h1, h2, h3, h4, h5, h6, h7⟩ := zbo_ok ho
  have h5 := eC_ok _ _ h5
  exact zbQ_gen hX ⟨h1, h2, h3, h4, h5.trans (show zw2c_84 = .inl (1, 1, [(1, 3, 0, 0)], [((1, 0, 0), (3, 5, 0))]) from rfl), h6, h7⟩ hu
theorem zbu_Q {E : mEnv} (hE1 : E.1 = zmt) (hE2 : E.2.1 = zft_) (hE4 : E.2.2.2 = zxn) {mi ref : Nat} {W2 W3 : zT zC 7} {V : List Int} {pl ph sv : Int} (hb : zbR mi ref W2 W3 V pl ph sv) {g p s m : Int32} {x : Int64}
    (g1 : 0 ≤ g.toInt) (g2 : g.toInt ≤ 3) (p1 : pl ≤ p.toInt) (p2 : p.toInt ≤ ph) (s1 : s.toInt = sv) (m1 : 1 ≤ m.toInt) (m2 : m.toInt ≤ 50) {mem : mMem} (hm : zmm (zr2 g p s m x) mem (85, W2)) {d : Nat} (hd : 200 ≤ d) {nc0 ns0 : Nat} (hnc : nc0 ≤ 500000) (hns : ns0 ≤ 7000000) :
    mGd E (zbQ W3 V m x) d mi 0 (lv_args 0 [.ref ref, .int g, .int p, .int s, .int m]) [] mem nc0 ns0 :=
  mGd_imp (fun res h => by obtain ⟨r', o, hX, ho, hu⟩ := h; exact zbQ_ok hX ho hu) (zbu_core hE1 hE2 hE4 hb g1 g2 p1 p2 s1 m1 m2 hm hd hnc hns)
/-- the memory that burst runs from, out of one that is told alike -/
theorem zbu_m2 {W2 : zT zC 7} {C1 : zC} {r r2 : List Int} (h0 : r[0]? = some 0) (h2 : r2[0]? = some 0) {mem : mMem} {w : zW} (hm : zmm r mem w) (w85 : w.1 = 85)
    (b1 : zaln 77 (fun p => zsb (ztg 7 w.2 p) (ztg 7 W2 p)) = true) (b2 : eC (ztg 7 w.2 77) C1 = true) (b3 : zaln 6 (fun p => zsb (ztg 7 w.2 (78 + p)) (ztg 7 W2 (78 + p))) = true)
    (h77 : ∀ cc, zcm r cc C1 → zcm r2 cc (ztg 7 W2 77)) (h84 : ∀ cc, mem[84]? = some cc → zcm r2 cc (ztg 7 W2 84)) : zmm r2 mem (85, W2) := by
  refine ⟨hm.1.trans w85, (by decide : (85 : Nat) ≤ 128), fun q hq => ?_⟩
  have hq : q < 85 := hq
  obtain ⟨cc, q1, q2⟩ := hm.2.2 q (by omega)
  refine ⟨cc, q1, ?_⟩
  show zcm r2 cc (ztg 7 W2 q)
  by_cases e1 : q < 77
  · exact zsb_ok h0 h2 (zaln_ok b1 q e1) q2
  · by_cases e2 : q = 77
    · subst e2
      rw [eC_ok _ _ b2] at q2
      exact h77 cc q2
    · by_cases e3 : q = 84
      · subst e3
        exact h84 cc q1
      · have hk := zaln_ok b3 (q - 78) (by omega)
        have e4 : 78 + (q - 78) = q := by omega
        rw [e4] at hk
        exact zsb_ok h0 h2 hk q2
def zbvl (pl ph : Int) : Option (List Int) := bif zeq pl 0 && zeq ph 0 then some zV0 else bif zle 1 pl && zle ph 3 then some zV1 else none
theorem zbvl_ok {mi ref : Nat} {W2 W3 : zT zC 7} (h0 : ∀ sv, 0 ≤ sv → sv ≤ 3 → zbR mi ref W2 W3 zV0 0 0 sv) (h1 : ∀ sv, 0 ≤ sv → sv ≤ 3 → zbR mi ref W2 W3 zV1 1 3 sv) {pl ph : Int} {V : List Int} (h : zbvl pl ph = some V) {sv : Int} (s1 : 0 ≤ sv) (s2 : sv ≤ 3) :
    V.length = 50 ∧ ∃ pl' ph', zbR mi ref W2 W3 V pl' ph' sv ∧ pl' ≤ pl ∧ ph ≤ ph' := by
  unfold zbvl at h
  cases c : (zeq pl 0 && zeq ph 0) with
  | true =>
    rw [c] at h
    rw [Bool.and_eq_true, zeq_iff, zeq_iff] at c
    cases h
    exact ⟨rfl, 0, 0, h0 sv s1 s2, by omega, by omega⟩
  | false =>
    rw [c] at h
    rw [cond_false] at h
    cases c2 : (zle 1 pl && zle ph 3) with
    | false => rw [c2] at h; cases h
    | true =>
      rw [c2] at h
      rw [Bool.and_eq_true, zle_iff, zle_iff] at c2
      cases h
      exact ⟨rfl, 1, 3, h1 sv s1 s2, c2.1, c2.2⟩
def zen : List Int → Int → Int → Int → List (Int × Int)
  | [], _, _, _ => []
  | v :: l, k, lo, hi => bif zle lo k && zle k hi then (k, v) :: zen l (k + 1) lo hi else zen l (k + 1) lo hi
theorem zen_ok : ∀ {l : List Int} {k lo hi m v : Int}, zlv l (m - k + 1) = some v → lo ≤ m → m ≤ hi → (m, v) ∈ zen l k lo hi
  | [], _, _, _, _, _, h, _, _ => by cases h
  | u :: l, k, lo, hi, m, v, h, h1, h2 => by
    unfold zlv at h
    unfold zen
    cases c : zeq (m - k + 1) 1 with
    | true =>
      rw [c] at h
      cases h
      have c := zeq_iff.mp c
      have e : m = k := by omega
      subst e
      have c3 : (zle lo m && zle m hi) = true := by rw [Bool.and_eq_true, zle_iff, zle_iff]; exact ⟨h1, h2⟩
      rw [c3]
      exact List.mem_cons_self
    | false =>
      rw [c] at h
      rw [cond_false, show m - k + 1 - 1 = m - (k + 1) + 1 from by omega] at h
      have k9 := zen_ok h h1 h2
      cases (zle lo k && zle k hi) with
      | true => exact List.mem_cons_of_mem _ k9
      | false => exact k9
def zFk (F : zF) (m : zV) (k : Int) : zF := match m.2.1 with
  | 0 => F
  | s + 1 => (F.1, (Nat.succ s, k - m.2.2, k - m.2.2) :: F.2.1, F.2.2.1, F.2.2.2)
theorem zFk_ok {r : List Int} {F : zF} (hF : zFok r F) {m : zV} {k : Int} (h : zd r m = some k) : zFok r (zFk F m k) := by
  unfold zFk
  obtain ⟨v, h1, h2⟩ := zd_some.mp h
  split
  · exact hF
  · rename_i s e
    rw [e] at h1
    exact hF.bd h1 (by omega) (by omega)
def zbq1 (ref : Nat) (W2 : zT zC 7) (C1 : zC) (M g p s m : zV) (w : zW) (nc ns : Nat) : Bool := Nat.beq M.1 2 && (Nat.beq M.2.1 ref && (Nat.beq g.1 1 && (Nat.beq p.1 1 && (Nat.beq s.1 1 && (Nat.beq m.1 1 && (Nat.beq w.1 85 && (Nat.ble nc 500000 && (Nat.ble ns 7000000 &&
  (zaln 77 (fun p => zsb (ztg 7 w.2 p) (ztg 7 W2 p)) && (eC (ztg 7 w.2 77) C1 && zaln 6 (fun p => zsb (ztg 7 w.2 (78 + p)) (ztg 7 W2 (78 + p)))))))))))))
theorem zbq1_ok {ref : Nat} {W2 : zT zC 7} {C1 : zC} {M g p s m : zV} {w : zW} {nc ns : Nat} (h : zbq1 ref W2 C1 M g p s m w nc ns = true) : (Nat.beq M.1 2 = true ∧ M.2.1 = ref ∧ Nat.beq g.1 1 = true ∧ Nat.beq p.1 1 = true ∧ Nat.beq s.1 1 = true ∧ Nat.beq m.1 1 = true) ∧ w.1 = 85 ∧ nc ≤ 500000 ∧ ns ≤ 7000000 ∧
    zaln 77 (fun p => zsb (ztg 7 w.2 p) (ztg 7 W2 p)) = true ∧ eC (ztg 7 w.2 77) C1 = true ∧ zaln 6 (fun p => zsb (ztg 7 w.2 (78 + p)) (ztg 7 W2 (78 + p))) = true := by
  unfold zbq1 at h
  simp only [Bool.and_eq_true] at h
  obtain ⟨a1, a2, a3, a4, a5, a6, a7, a8, a9, b1, b2, b3⟩ := h
  exact ⟨⟨a1, zbe.mp a2, a3, a4, a5, a6⟩, zbe.mp a7, Nat.le_of_ble_eq_true a8, Nat.le_of_ble_eq_true a9, b1, b2, b3⟩
def zbq2 (t n : Nat) (c : zV) (gl gh sl sh ml mh : Int) : Bool := Nat.beq t 1 && (Nat.beq n 1 && (Nat.beq c.1 3 && (zle 0 gl && (zle gh 3 && (zeq sl sh && (zle 0 sl && (zle sl 3 && (zle 1 ml && zle mh 50))))))))
theorem zbq2_ok {t n : Nat} {c : zV} {gl gh sl sh ml mh : Int} (h : zbq2 t n c gl gh sl sh ml mh = true) : t = 1 ∧ n = 1 ∧ c.1 = 3 ∧ 0 ≤ gl ∧ gh ≤ 3 ∧ sl = sh ∧ 0 ≤ sl ∧ sl ≤ 3 ∧ 1 ≤ ml ∧ mh ≤ 50 := by
  unfold zbq2 at h
  simp only [Bool.and_eq_true, zbe, zle_iff, zeq_iff] at h
  exact h
def zbug (ref : Nat) (W2 W3 : zT zC 7) (C1 : zC) (args : List zV) (F : zF) (w : zW) (nc ns : Nat) : Option (List zU) := match args with
  | [M, g, p, s, m] => bif zbq1 ref W2 C1 M g p s m w nc ns then
      (match ztg 7 w.2 84 with
      | .inl (t, n, b, es) => (match zrd F b es (zk 0), zlh F g, zlh F p, zlh F s, zlh F m with
        | some (c, _, _), some (gl, gh), some (pl, ph), some (sl, sh), some (ml, mh) => bif zbq2 t n c gl gh sl sh ml mh then
            (match zbvl pl ph with
            | some V => some ((zen V 1 ml mh).map fun q => (1, (1, 0, q.2), zFk F m q.1, (85, zts 7 W3 84 (.inl (t, n, b, es))), 500000, 7000000))
            | none => none) else none
        | _, _, _, _, _ => none)
      | .inr _ => none) else none
  | _ => none
/-- the end, told in the names of the start -/
theorem zbug_end {W3 : zT zC 7} {V : List Int} {E : mEnv} {mx : Int32} {x : Int64} {res : mRes} (hQ : zbQ W3 V mx x res) {r : List Int} {F : zF} (hF : zFok r F) {b : List zR} {es : zN} {f : Nat → Value} (hf : ∀ j, j < 1 → zak r b es j (f j)) (hx0 : f 0 = .long x) {v : Int} (hzv : zlv V mx.toInt = some v) :
    zuo E r (1, (1, 0, v), F, (85, zts 7 W3 84 (.inl (1, 1, b, es))), 500000, 7000000) res := by
  obtain ⟨⟨y, y1, y2⟩, n1, n2, n3, n4, f', f1, f2⟩ := hQ
  have h0 : r[0]? = some 0 := hF.2.1
  refine ⟨hF, ⟨n3, (by decide : (85 : Nat) ≤ 128), fun q hq => ?_⟩, n1, n2, .int y, y1, ?_⟩
  · have hq : q < 85 := hq
    have hz : ztg 7 (zts 7 W3 84 (.inl (1, 1, b, es))) q = if q = 84 then (.inl (1, 1, b, es) : zC) else ztg 7 W3 q := ztg_s 7 W3 84 q _ (by decide) (by omega)
    show ∃ c, res.2.1[q]? = some c ∧ zcm r c (ztg 7 (zts 7 W3 84 (.inl (1, 1, b, es))) q)
    rw [hz]
    by_cases e3 : q = 84
    · rw [if_pos e3, e3]
      refine ⟨_, f1, f', rfl, fun j hj => ?_⟩
      have hj0 : j = 0 := by omega
      subst hj0
      rw [f2, ← hx0]
      exact hf 0 hj
    · rw [if_neg e3]
      obtain ⟨cc, q1, q2⟩ := n4 q (by omega)
      exact ⟨cc, q1, q2 r h0⟩
  · rw [hzv] at y2
    cases y2
    exact ⟨y, rfl, zd_some.mpr ⟨0, h0, by dsimp only; omega⟩⟩
set_option maxHeartbeats 1600000 in
theorem zbug_ok {E : mEnv} (hE1 : E.1 = zmt) (hE2 : E.2.1 = zft_) (hE4 : E.2.2.2 = zxn) {mi ref : Nat} {W2 W3 : zT zC 7} {C1 : zC} {d : Nat} (hd : 200 ≤ d)
    (hR0 : ∀ sv, 0 ≤ sv → sv ≤ 3 → zbR mi ref W2 W3 zV0 0 0 sv) (hR1 : ∀ sv, 0 ≤ sv → sv ≤ 3 → zbR mi ref W2 W3 zV1 1 3 sv)
    (h77 : ∀ {r : List Int}, r[0]? = some 0 → ∀ {g p s m : Int32} {x : Int64}, 0 ≤ g.toInt → g.toInt ≤ 3 → ∀ cc, zcm r cc C1 → zcm (zr2 g p s m x) cc (ztg 7 W2 77))
    (h84 : ∀ {g p s m : Int32} {x : Int64} {f : Nat → Value}, f 0 = .long x → zcm (zr2 g p s m x) (.inl (1, 1, f)) (ztg 7 W2 84))
    {args : List zV} {F : zF} {w : zW} {nc ns : Nat} {L : List zU} (h : zbug ref W2 W3 C1 args F w nc ns = some L) {r : List Int} {vs : List Value} {mem : mMem} {nc0 ns0 : Nat} (hF : zFok r F) (hl : zlm r vs args) (hm : zmm r mem w) (hnc : nc0 ≤ nc) (hns : ns0 ≤ ns) :
    ∃ n res, mrun E n d mi 0 (lv_args 0 vs) [] mem nc0 ns0 = some res ∧ ∃ o ∈ L, ∃ r', zX r r' ∧ zuo E r' o res := by
  unfold zbug at h
  split at h
  · rename_i M g p s m
    obtain ⟨u1, vs1, rfl, hu1, hvs1⟩ := zlm_cons hl
    obtain ⟨u2, vs2, rfl, hu2, hvs2⟩ := zlm_cons hvs1
    obtain ⟨u3, vs3, rfl, hu3, hvs3⟩ := zlm_cons hvs2
    obtain ⟨u4, vs4, rfl, hu4, hvs4⟩ := zlm_cons hvs3
    obtain ⟨u5, vs5, rfl, hu5, hvs5⟩ := zlm_cons hvs4
    cases vs5 with
    | cons _ _ => exact hvs5.elim
    | nil =>
    cases hc1 : zbq1 ref W2 C1 M g p s m w nc ns with
    | false => rw [hc1] at h; cases h
    | true =>
      rw [hc1] at h
      rw [cond_true] at h
      obtain ⟨⟨a1, a2, a3, a4, a5, a6⟩, w85, a8, a9, b1, b2, b3⟩ := zbq1_ok hc1
      obtain rfl := zvm_r hu1 a1
      rw [a2]
      obtain ⟨gx, rfl, hg⟩ := zvm_i hu2 a3
      obtain ⟨px, rfl, hp⟩ := zvm_i hu3 a4
      obtain ⟨sx, rfl, hs⟩ := zvm_i hu4 a5
      obtain ⟨mx, rfl, hmx⟩ := zvm_i hu5 a6
      obtain ⟨c84, q84, z84⟩ := hm.2.2 84 (by omega)
      split at h
      · rename_i t n b es ez
        split at h
        · rename_i c F9 es9 gl gh pl ph sl sh ml mh y1 y2 y3 y4 y5
          cases hc2 : zbq2 t n c gl gh sl sh ml mh with
          | false => rw [hc2] at h; cases h
          | true =>
            rw [hc2] at h
            rw [cond_true] at h
            obtain ⟨k1, k2, k3, k4, k5, k6, k7, k8, l1, l2⟩ := zbq2_ok hc2
            subst k1
            subst k2
            rw [ez] at z84
            obtain ⟨f, rfl, hf⟩ := z84
            obtain ⟨r9, -, hF9, hv9, -, -⟩ := zrd_ok (j := 0) hF (zk_d hF 0) (hf 0 (by decide)) y1
            obtain ⟨x, hx0⟩ := zvm_l hv9 (by rw [k3]; rfl)
            have bg := zlh_ok hF y2 hg
            have bp := zlh_ok hF y3 hp
            have bs := zlh_ok hF y4 hs
            have bm := zlh_ok hF y5 hmx
            split at h
            · rename_i V ev
              obtain ⟨hVl, pl', ph', hbr, hp1, hp2⟩ := zbvl_ok hR0 hR1 (sv := sl) ev k7 k8
              have h0 : r[0]? = some 0 := hF.2.1
              have hm2 : zmm (zr2 gx px sx mx x) mem (85, W2) := by
                refine zbu_m2 h0 rfl hm w85 b1 b2 b3 (fun cc hc => h77 h0 (by omega) (by omega) cc hc) (fun cc hc => ?_)
                rw [q84] at hc
                cases hc
                exact h84 hx0
              obtain ⟨nn, res, hr, hQ⟩ := zbu_Q hE1 hE2 hE4 hbr (g := gx) (p := px) (s := sx) (m := mx) (x := x) (by omega) (by omega) (by omega) (by omega) (by omega) (by omega) (by omega) hm2 hd (Nat.le_trans hnc a8) (Nat.le_trans hns a9)
              obtain ⟨⟨y, y1, y2⟩, hQ'⟩ := id hQ
              cases h
              have hmem : (mx.toInt, y.toInt) ∈ zen V 1 ml mh := zen_ok (by rw [show mx.toInt - 1 + 1 = mx.toInt from by omega]; exact y2) bm.1 bm.2
              exact ⟨nn, res, hr, _, List.mem_map_of_mem hmem, r, zX.rf, zbug_end hQ (zFk_ok hF hmx) hf hx0 y2⟩
            · cases h
        · cases h
      · cases h
  · cases h
theorem zbu_77 {r : List Int} (h0 : r[0]? = some 0) {g p s m : Int32} {x : Int64} (g1 : 0 ≤ g.toInt) (g2 : g.toInt ≤ 3) (cc : mCell) (q2 : zcm r cc zw1c_77) : zcm (zr2 g p s m x) cc (ztg 7 zw2 77) := by
  rw [zmB_1] at q2
  rw [zw2_77]
  have h6 : (zr2 g p s m x)[6]? = some ((7 * g.toInt.toNat : Nat) : Int) := by
    show some (7 * g.toInt) = _
    congr 1
    omega
  exact zbu_c7 h0 rfl h6 (by omega) q2
theorem zbu_84 {g p s m : Int32} {x : Int64} {f : Nat → Value} (hx : f 0 = .long x) : zcm (zr2 g p s m x) (.inl (1, 1, f)) (ztg 7 zw2 84) := by
  rw [zw2_84]
  exact zbu_c84 rfl rfl hx
theorem zc2_84 : ztg 7 zc2 84 = .inl (1, 1, [(1, 3, 0, 0)], [((1, 0, 0), (3, 5, 0))]) := rfl
theorem zbu_84c {g p s m : Int32} {x : Int64} {f : Nat → Value} (hx : f 0 = .long x) : zcm (zr2 g p s m x) (.inl (1, 1, f)) (ztg 7 zc2 84) := by
  rw [zc2_84]
  exact zbu_c84 rfl rfl hx
theorem zc2_77 : zsb zw1c_77 (ztg 7 zc2 77) = true := by decide +kernel
theorem zbu_77c {r : List Int} (h0 : r[0]? = some 0) {g p s m : Int32} {x : Int64} (cc : mCell) (q2 : zcm r cc zw1c_77) : zcm (zr2 g p s m x) cc (ztg 7 zc2 77) := zsb_ok h0 rfl zc2_77 q2
theorem zRr0 (sv : Int) (h1 : 0 ≤ sv) (h2 : sv ≤ 3) : zbR 232 75 zw2 zw3 zV0 0 0 sv := by
  rcases zs4 h1 h2 with rfl | rfl | rfl | rfl
  · exact zRr_0_0
  · exact zRr_0_1
  · exact zRr_0_2
  · exact zRr_0_3
theorem zRr1 (sv : Int) (h1 : 0 ≤ sv) (h2 : sv ≤ 3) : zbR 232 75 zw2 zw3 zV1 1 3 sv := by
  rcases zs4 h1 h2 with rfl | rfl | rfl | rfl
  · exact zRr_1_0
  · exact zRr_1_1
  · exact zRr_1_2
  · exact zRr_1_3
theorem zRc0 (sv : Int) (h1 : 0 ≤ sv) (h2 : sv ≤ 3) : zbR 133 0 zc2 zc3 zV0 0 0 sv := by
  rcases zs4 h1 h2 with rfl | rfl | rfl | rfl
  · exact zRc_0_0
  · exact zRc_0_1
  · exact zRc_0_2
  · exact zRc_0_3
theorem zRc1 (sv : Int) (h1 : 0 ≤ sv) (h2 : sv ≤ 3) : zbR 133 0 zc2 zc3 zV1 1 3 sv := by
  rcases zs4 h1 h2 with rfl | rfl | rfl | rfl
  · exact zRc_1_0
  · exact zRc_1_1
  · exact zRc_1_2
  · exact zRc_1_3
def zcon6 : zK := fun mi args F w nc ns => bif Nat.beq mi 232 then zbug 75 zw2 zw3 zw1c_77 args F w nc ns else bif Nat.beq mi 133 then zbug 0 zc2 zc3 zw1c_77 args F w nc ns else zcon4 mi args F w nc ns
theorem zcon6_ok {E : mEnv} (hE : E.1 = zmt) (hE2 : E.2.1 = zft_) (hE4 : E.2.2.2 = zxn) {ro : zQ} : zCon E ro 200 zcon6 := by
  intro d mi args F w nc ns L hd h r vs mem nc0 ns0 hro hF hl hm hnc hns
  unfold zcon6 at h
  cases c0 : Nat.beq mi 232 with
  | true =>
    rw [c0] at h
    rw [cond_true] at h
    obtain rfl := zbe.mp c0
    exact zbug_ok hE hE2 hE4 hd zRr0 zRr1 (fun {_} h0 {_ _ _ _ _} g1 g2 cc hc => zbu_77 h0 g1 g2 cc hc) (fun {_ _ _ _ _ _} hx => zbu_84 hx) h hF hl hm hnc hns
  | false =>
    rw [c0] at h
    rw [cond_false] at h
    cases c1 : Nat.beq mi 133 with
    | true =>
      rw [c1] at h
      rw [cond_true] at h
      obtain rfl := zbe.mp c1
      exact zbug_ok hE hE2 hE4 hd zRc0 zRc1 (fun {_} h0 {_ _ _ _ _} _ _ cc hc => zbu_77c h0 cc hc) (fun {_ _ _ _ _ _} hx => zbu_84c hx) h hF hl hm hnc hns
    | false =>
      rw [c1] at h
      rw [cond_false] at h
      exact zcon4_ok hE hE2 hE4 d mi args F w nc ns L (by omega) h r vs mem nc0 ns0 hro hF hl hm hnc hns
