/-! the reference's burst: its contract -/
theorem zbu_core {E : mEnv} (hE1 : E.1 = zmt) (hE2 : E.2.1 = zft_) (hE4 : E.2.2.2 = zxn) {V : List Int} {pl ph sv : Int} (hb : zbr V pl ph sv = true) {g p s m : Int32} {x : Int64}
    (g1 : 0 ≤ g.toInt) (g2 : g.toInt ≤ 3) (p1 : pl ≤ p.toInt) (p2 : p.toInt ≤ ph) (s1 : s.toInt = sv) (m1 : 1 ≤ m.toInt) (m2 : m.toInt ≤ 50) {mem : mMem} (hm : zmm (zr2 g p s m x) mem (85, zw2)) {d : Nat} (hd : 200 ≤ d) {nc0 ns0 : Nat} (hnc : nc0 ≤ 500000) (hns : ns0 ≤ 7000000) :
    mGd E (fun res => ∃ r' o, zX (zr2 g p s m x) r' ∧ zbo V o = true ∧ zuo E r' o res) d 232 0 (lv_args 0 [.ref 75, .int g, .int p, .int s, .int m]) [] mem nc0 ns0 := by
  unfold zbr at hb
  split at hb
  · rename_i L e
    unfold zbx zEb at e
    have he : E = (zmt, zft_, E.2.2.1, zxn) := by rw [← hE1, ← hE2, ← hE4]
    rw [yex_env (c' := E.2.2.1), ← he, yex_eq] at e
    refine mGd_deep (d := 200) hd ?_
    refine zex_ok (dn := 100) (con := zcon4) (ro := fun _ => none) (zcon4_ok hE1 hE2 hE4) (fun mi M hM => zmt_sr hE1 mi M hM) _ _ _ _ _ _ _ _ _ _ _ _ _ e (by rw [hE1]; rfl) ⟨[], rfl⟩ (zr2 g p s m x) _ _ _ _ _ _ (fun p t n b es e => (by cases e)) (zbF_ok g1 g2 p1 p2 s1 m1 m2) ?_ trivial hm hnc hns (fun o ho r' res hx hu => ⟨r', o, hx, List.all_eq_true.mp hb o ho, hu⟩)
    refine zarg_ok 0 ⟨rfl, ?_, ?_, ?_, ?_, trivial⟩ rfl
    · exact ⟨g, rfl, zd_some.mpr ⟨g.toInt, rfl, by dsimp only; omega⟩⟩
    · exact ⟨p, rfl, zd_some.mpr ⟨p.toInt, rfl, by dsimp only; omega⟩⟩
    · exact ⟨s, rfl, zd_some.mpr ⟨s.toInt, rfl, by dsimp only; omega⟩⟩
    · exact ⟨m, rfl, zd_some.mpr ⟨m.toInt, rfl, by dsimp only; omega⟩⟩
  · cases hb
def zbv (pl ph m : Int) : Option Int := bif zeq pl 0 && zeq ph 0 then zlv zV0 m else bif zle 1 pl && zle ph 3 then zlv zV1 m else none
theorem zs4 {sv : Int} (h1 : 0 ≤ sv) (h2 : sv ≤ 3) : sv = 0 ∨ sv = 1 ∨ sv = 2 ∨ sv = 3 := by omega
theorem zbv_ok {pl ph ml v sv : Int} (h : zbv pl ph ml = some v) (s1 : 0 ≤ sv) (s2 : sv ≤ 3) : ∃ V pl' ph', zbr V pl' ph' sv = true ∧ zlv V ml = some v ∧ pl' ≤ pl ∧ ph ≤ ph' := by
  unfold zbv at h
  cases c : (zeq pl 0 && zeq ph 0) with
  | true =>
    rw [c] at h
    simp only [Bool.and_eq_true, zeq_iff] at c
    refine ⟨zV0, 0, 0, ?_, h, by omega, by omega⟩
    rcases zs4 s1 s2 with rfl | rfl | rfl | rfl
    · exact zbr_0_0
    · exact zbr_0_1
    · exact zbr_0_2
    · exact zbr_0_3
  | false =>
    rw [c] at h
    simp only [cond_false] at h
    cases c2 : (zle 1 pl && zle ph 3) with
    | false => rw [c2] at h; cases h
    | true =>
      rw [c2] at h
      simp only [Bool.and_eq_true, zle_iff] at c2
      refine ⟨zV1, 1, 3, ?_, h, c2.1, c2.2⟩
      rcases zs4 s1 s2 with rfl | rfl | rfl | rfl
      · exact zbr_1_0
      · exact zbr_1_1
      · exact zbr_1_2
      · exact zbr_1_3
theorem zw2_77 : ztg 7 zw2 77 = .inl (0, 969, zmB, zxt zvt ++ zmE) := Eq.trans (show ztg 7 zw2 77 = zw2c_77 from rfl) zmB_2
theorem zw2_84 : ztg 7 zw2 84 = .inl (1, 1, [(1, 3, 0, 0)], [((1, 0, 0), (3, 5, 0))]) := rfl
theorem zbu_c7 {r r2 : List Int} (h0 : r[0]? = some 0) (h2 : r2[0]? = some 0) {t : Nat} (h6 : r2[6]? = some ((7 * t : Nat) : Int)) (ht : t ≤ 3) {cc : mCell} (q2 : zcm r cc (.inl (0, 969, zmB, zmE))) : zcm r2 cc (.inl (0, 969, zmB, zxt zvt ++ zmE)) := by
  obtain ⟨f7, rfl, hf7⟩ := q2
  exact ⟨f7, rfl, fun j hj => zxt_ok h6 zvt (fun q hq => z7_ok h0 h2 hf7 ht q hq) (zakc h0 h2 zmB_c (hf7 j hj))⟩
theorem zbu_c84 {r2 : List Int} (h2 : r2[0]? = some 0) {x : Int64} (h5 : r2[5]? = some x.toInt) {f : Nat → Value} (hx : f 0 = .long x) : zcm r2 (.inl (1, 1, f)) (.inl (1, 1, [(1, 3, 0, 0)], [((1, 0, 0), (3, 5, 0))])) := by
  refine ⟨f, rfl, fun j hj => ⟨0, zd_some.mpr ⟨0, h2, rfl⟩, ?_⟩⟩
  have hj0 : j = 0 := by omega
  subst hj0
  rw [if_pos rfl, hx]
  exact ⟨x, rfl, zd_some.mpr ⟨x.toInt, h5, by dsimp only; omega⟩⟩
/-- what an end says, without its names -/
theorem zbo_ok {V : List Int} {o : zU} (h : zbo V o = true) : (o.1 = 1 ∧ o.2.1.1 = 1 ∧ o.2.1.2.1 = 0) ∧ (∃ l, zlh o.2.2.1 (1, 4, 0) = some (l, l) ∧ zlv V l = some o.2.1.2.2) ∧ o.2.2.2.1.1 = 85 ∧
    zaln 84 (fun p => zsb (ztg 7 o.2.2.2.1.2 p) (ztg 7 zw3 p)) = true ∧ eC (ztg 7 o.2.2.2.1.2 84) zw2c_84 = true ∧ o.2.2.2.2.1 ≤ 500000 ∧ o.2.2.2.2.2 ≤ 7000000 := by
  unfold zbo at h
  generalize zw3 = W3 at h ⊢
  generalize zw2c_84 = C84 at h ⊢
  simp only [Bool.and_eq_true] at h
  obtain ⟨o1, o2, o3, o4, o5, o6, o7, o8, o9⟩ := h
  refine ⟨⟨zbe.mp o1, zbe.mp o2, zbe.mp o3⟩, ?_, zbe.mp o5, o6, o7, Nat.le_of_ble_eq_true o8, Nat.le_of_ble_eq_true o9⟩
  split at o4
  · rename_i l hh el
    rw [Bool.and_eq_true, zeq_iff] at o4
    obtain ⟨t1, t2⟩ := o4
    subst t1
    split at t2
    · rename_i v ev
      exact ⟨l, el, by rw [ev, zeq_iff.mp t2]⟩
    · cases t2
  · cases o4
def zbQ (W3 : zT zC 7) (V : List Int) (m : Int32) (x : Int64) (res : mRes) : Prop :=
  (∃ y : Int32, res.1 = .inr (some (.int y)) ∧ zlv V m.toInt = some y.toInt) ∧ res.2.2.1 ≤ 500000 ∧ res.2.2.2 ≤ 7000000 ∧ res.2.1.length = 85 ∧
    (∀ q, q < 84 → ∃ cc, res.2.1[q]? = some cc ∧ ∀ r2 : List Int, r2[0]? = some 0 → zcm r2 cc (ztg 7 W3 q)) ∧ ∃ f, res.2.1[84]? = some (.inl (1, 1, f)) ∧ f 0 = .long x
theorem zbQ_gen {W3 : zT zC 7} {E : mEnv} {V : List Int} {g p s m : Int32} {x : Int64} {r' : List Int} {o : zU} {res : mRes} (hX : zX (zr2 g p s m x) r')
    (ho : (o.1 = 1 ∧ o.2.1.1 = 1 ∧ o.2.1.2.1 = 0) ∧ (∃ l, zlh o.2.2.1 (1, 4, 0) = some (l, l) ∧ zlv V l = some o.2.1.2.2) ∧ o.2.2.2.1.1 = 85 ∧ zaln 84 (fun p => zsb (ztg 7 o.2.2.2.1.2 p) (ztg 7 W3 p)) = true ∧
      ztg 7 o.2.2.2.1.2 84 = .inl (1, 1, [(1, 3, 0, 0)], [((1, 0, 0), (3, 5, 0))]) ∧ o.2.2.2.2.1 ≤ 500000 ∧ o.2.2.2.2.2 ≤ 7000000)
    (hu : zuo E r' o res) : zbQ W3 V m x res := by
  obtain ⟨⟨o1, o2, o3⟩, ⟨l, el, ev⟩, o5, o6, o7, o8, o9⟩ := ho
  obtain ⟨v1, v2, v3, v4, v5⟩ := hu
  have h0' : r'[0]? = some 0 := v1.2.1
  have h4 : r'[4]? = some m.toInt := hX.get (i := 4) rfl
  have h5 : r'[5]? = some x.toInt := hX.get (i := 5) rfl
  rw [o1] at v5
  obtain ⟨v, e1, e2⟩ := v5
  obtain ⟨y, rfl, hy⟩ := zvm_i e2 (by rw [o2]; rfl)
  refine ⟨⟨y, e1, ?_⟩, Nat.le_trans v3 o8, Nat.le_trans v4 o9, by rw [v2.1, o5], fun q hq => ?_, ?_⟩
  · have hm := zlh_ok v1 el (x := m.toInt) (zd_some.mpr ⟨m.toInt, h4, by dsimp only; omega⟩)
    have hlm : l = m.toInt := by omega
    obtain ⟨u, w1, w2⟩ := zd_some.mp hy
    rw [o3, h0'] at w1
    cases w1
    rw [← hlm, ev]
    congr 1
    omega
  · obtain ⟨cc, q1, q2⟩ := v2.2.2 q (by rw [o5]; omega)
    exact ⟨cc, q1, fun r2 h2 => zsb_ok h0' h2 (zaln_ok o6 q hq) q2⟩
  · obtain ⟨cc, q1, q2⟩ := v2.2.2 84 (by rw [o5]; decide)
    rw [o7] at q2
    obtain ⟨f, rfl, hf⟩ := q2
    refine ⟨f, q1, ?_⟩
    obtain ⟨i, i1, i2⟩ := hf 0 (by decide)
    obtain ⟨u0, w1, w2⟩ := zd_some.mp i1
    have w1 : r'[0]? = some u0 := w1
    have w2 : (i : Int) = u0 + 0 := w2
    rw [h0'] at w1
    cases w1
    have hi : 0 = i := by omega
    rw [if_pos hi] at i2
    obtain ⟨z, e3, e4⟩ := i2
    obtain ⟨u1, w3, w4⟩ := zd_some.mp e4
    have w3 : r'[5]? = some u1 := w3
    have w4 : z.toInt = u1 + 0 := w4
    rw [h5] at w3
    cases w3
    have hz : z = x := Int64.toInt_inj.mp (by omega)
    rw [e3, hz]
theorem zbQ_ok {E : mEnv} {V : List Int} {g p s m : Int32} {x : Int64} {r' : List Int} {o : zU} {res : mRes} (hX : zX (zr2 g p s m x) r') (ho : zbo V o = true) (hu : zuo E r' o res) : zbQ zw3 V m x res := by
  obtain ⟨h1, h2, h3, h4, h5, h6, h7⟩ := zbo_ok ho
  have h5 := eC_ok _ _ h5
  exact zbQ_gen hX ⟨h1, h2, h3, h4, h5.trans (show zw2c_84 = .inl (1, 1, [(1, 3, 0, 0)], [((1, 0, 0), (3, 5, 0))]) from rfl), h6, h7⟩ hu
theorem zbu_Q {E : mEnv} (hE1 : E.1 = zmt) (hE2 : E.2.1 = zft_) (hE4 : E.2.2.2 = zxn) {V : List Int} {pl ph sv : Int} (hb : zbr V pl ph sv = true) {g p s m : Int32} {x : Int64}
    (g1 : 0 ≤ g.toInt) (g2 : g.toInt ≤ 3) (p1 : pl ≤ p.toInt) (p2 : p.toInt ≤ ph) (s1 : s.toInt = sv) (m1 : 1 ≤ m.toInt) (m2 : m.toInt ≤ 50) {mem : mMem} (hm : zmm (zr2 g p s m x) mem (85, zw2)) {d : Nat} (hd : 200 ≤ d) {nc0 ns0 : Nat} (hnc : nc0 ≤ 500000) (hns : ns0 ≤ 7000000) :
    mGd E (zbQ zw3 V m x) d 232 0 (lv_args 0 [.ref 75, .int g, .int p, .int s, .int m]) [] mem nc0 ns0 :=
  mGd_imp (fun res h => by obtain ⟨r', o, hX, ho, hu⟩ := h; exact zbQ_ok hX ho hu) (zbu_core hE1 hE2 hE4 hb g1 g2 p1 p2 s1 m1 m2 hm hd hnc hns)
/-- the memory that burst runs from, out of one that is told alike -/
theorem zbu_m2 {W2 : zT zC 7} {C1 : zC} {r r2 : List Int} (h0 : r[0]? = some 0) (h2 : r2[0]? = some 0) {mem : mMem} {w : zW} (hm : zmm r mem w) (w85 : w.1 = 85)
    (b1 : zaln 77 (fun p => zsb (ztg 7 w.2 p) (ztg 7 W2 p)) = true) (b2 : eC (ztg 7 w.2 77) C1 = true) (b3 : zaln 6 (fun p => zsb (ztg 7 w.2 (78 + p)) (ztg 7 W2 (78 + p))) = true)
    (h77 : ∀ cc, zcm r cc C1 → zcm r2 cc (ztg 7 W2 77)) (h84 : ∀ cc, mem[84]? = some cc → zcm r2 cc (ztg 7 W2 84)) : zmm r2 mem (85, W2) := by
  refine ⟨hm.1.trans w85, (by decide : (85 : Nat) ≤ 128), fun q hq => ?_⟩
  have hq : q < 85 := hq
  obtain ⟨cc, q1, q2⟩ := hm.2.2 q (by omega)
  refine ⟨cc, q1, ?_⟩
  show zcm r2 cc (ztg 7 W2 q)
  by_cases e1 : q < 77
  · exact zsb_ok h0 h2 (zaln_ok b1 q e1) q2
  · by_cases e2 : q = 77
    · subst e2
      rw [eC_ok _ _ b2] at q2
      exact h77 cc q2
    · by_cases e3 : q = 84
      · subst e3
        exact h84 cc q1
      · have hk := zaln_ok b3 (q - 78) (by omega)
        have e4 : 78 + (q - 78) = q := by omega
        rw [e4] at hk
        exact zsb_ok h0 h2 hk q2
