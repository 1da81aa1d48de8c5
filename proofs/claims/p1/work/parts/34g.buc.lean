/-! burst's contract -/
def zbq1 (W2 : zT zC 7) (C1 : zC) (M g p s m : zV) (w : zW) (nc ns : Nat) : Bool := Nat.beq M.1 2 && (Nat.beq M.2.1 75 && (Nat.beq g.1 1 && (Nat.beq p.1 1 && (Nat.beq s.1 1 && (Nat.beq m.1 1 && (Nat.beq w.1 85 && (Nat.ble nc 500000 && (Nat.ble ns 7000000 &&
  (zaln 77 (fun p => zsb (ztg 7 w.2 p) (ztg 7 W2 p)) && (eC (ztg 7 w.2 77) C1 && zaln 6 (fun p => zsb (ztg 7 w.2 (78 + p)) (ztg 7 W2 (78 + p)))))))))))))
theorem zbq1_ok {W2 : zT zC 7} {C1 : zC} {M g p s m : zV} {w : zW} {nc ns : Nat} (h : zbq1 W2 C1 M g p s m w nc ns = true) : (Nat.beq M.1 2 = true ∧ M.2.1 = 75 ∧ Nat.beq g.1 1 = true ∧ Nat.beq p.1 1 = true ∧ Nat.beq s.1 1 = true ∧ Nat.beq m.1 1 = true) ∧ w.1 = 85 ∧ nc ≤ 500000 ∧ ns ≤ 7000000 ∧
    zaln 77 (fun p => zsb (ztg 7 w.2 p) (ztg 7 W2 p)) = true ∧ eC (ztg 7 w.2 77) C1 = true ∧ zaln 6 (fun p => zsb (ztg 7 w.2 (78 + p)) (ztg 7 W2 (78 + p))) = true := by
  unfold zbq1 at h
  simp only [Bool.and_eq_true] at h
  obtain ⟨a1, a2, a3, a4, a5, a6, a7, a8, a9, b1, b2, b3⟩ := h
  exact ⟨⟨a1, zbe.mp a2, a3, a4, a5, a6⟩, zbe.mp a7, Nat.le_of_ble_eq_true a8, Nat.le_of_ble_eq_true a9, b1, b2, b3⟩
def zbq2 (t n : Nat) (c : zV) (gl gh sl sh ml mh : Int) : Bool := Nat.beq t 1 && (Nat.beq n 1 && (Nat.beq c.1 3 && (zle 0 gl && (zle gh 3 && (zeq sl sh && (zle 0 sl && (zle sl 3 && (zeq ml mh && (zle 1 ml && zle ml 50)))))))))
theorem zbq2_ok {t n : Nat} {c : zV} {gl gh sl sh ml mh : Int} (h : zbq2 t n c gl gh sl sh ml mh = true) : t = 1 ∧ n = 1 ∧ c.1 = 3 ∧ 0 ≤ gl ∧ gh ≤ 3 ∧ sl = sh ∧ 0 ≤ sl ∧ sl ≤ 3 ∧ ml = mh ∧ 1 ≤ ml ∧ ml ≤ 50 := by
  unfold zbq2 at h
  simp only [Bool.and_eq_true, zbe, zle_iff, zeq_iff] at h
  exact h
def zbug (W2 W3 : zT zC 7) (C1 : zC) (args : List zV) (F : zF) (w : zW) (nc ns : Nat) : Option (List zU) := match args with
  | [M, g, p, s, m] => bif zbq1 W2 C1 M g p s m w nc ns then
      (match ztg 7 w.2 84 with
      | .inl (t, n, b, es) => (match zrd F b es (zk 0), zlh F g, zlh F p, zlh F s, zlh F m with
        | some (c, _, _), some (gl, gh), some (pl, ph), some (sl, sh), some (ml, mh) => bif zbq2 t n c gl gh sl sh ml mh then
            (match zbv pl ph ml with
            | some v => some [(1, (1, 0, v), F, (85, zts 7 W3 84 (.inl (t, n, b, es))), 500000, 7000000)]
            | none => none) else none
        | _, _, _, _, _ => none)
      | .inr _ => none) else none
  | _ => none
/-- the end, told in the names of the start -/
theorem zbug_end {W3 : zT zC 7} {V : List Int} {E : mEnv} {mx : Int32} {x : Int64} {res : mRes} (hQ : zbQ W3 V mx x res) {r : List Int} {F : zF} (hF : zFok r F) {b : List zR} {es : zN} {f : Nat → Value} (hf : ∀ j, j < 1 → zak r b es j (f j)) (hx0 : f 0 = .long x) {v : Int} (hzv : zlv V mx.toInt = some v) :
    zuo E r (1, (1, 0, v), F, (85, zts 7 W3 84 (.inl (1, 1, b, es))), 500000, 7000000) res := by
  obtain ⟨⟨y, y1, y2⟩, n1, n2, n3, n4, f', f1, f2⟩ := hQ
  have h0 : r[0]? = some 0 := hF.2.1
  refine ⟨hF, ⟨n3, (by decide : (85 : Nat) ≤ 128), fun q hq => ?_⟩, n1, n2, .int y, y1, ?_⟩
  · have hq : q < 85 := hq
    have hz : ztg 7 (zts 7 W3 84 (.inl (1, 1, b, es))) q = if q = 84 then (.inl (1, 1, b, es) : zC) else ztg 7 W3 q := ztg_s 7 W3 84 q _ (by decide) (by omega)
    show ∃ c, res.2.1[q]? = some c ∧ zcm r c (ztg 7 (zts 7 W3 84 (.inl (1, 1, b, es))) q)
    rw [hz]
    by_cases e3 : q = 84
    · rw [if_pos e3, e3]
      refine ⟨_, f1, f', rfl, fun j hj => ?_⟩
      have hj0 : j = 0 := by omega
      subst hj0
      rw [f2, ← hx0]
      exact hf 0 hj
    · rw [if_neg e3]
      obtain ⟨cc, q1, q2⟩ := n4 q (by omega)
      exact ⟨cc, q1, q2 r h0⟩
  · rw [hzv] at y2
    cases y2
    exact ⟨y, rfl, zd_some.mpr ⟨0, h0, by dsimp only; omega⟩⟩
set_option maxHeartbeats 1600000 in
theorem zbug_ok {E : mEnv} {W2 W3 : zT zC 7} {C1 : zC} {d : Nat}
    (hcore : ∀ {V : List Int} {pl ph sv : Int}, zbr V pl ph sv = true → ∀ {g p s m : Int32} {x : Int64}, 0 ≤ g.toInt → g.toInt ≤ 3 → pl ≤ p.toInt → p.toInt ≤ ph → s.toInt = sv → 1 ≤ m.toInt → m.toInt ≤ 50 → ∀ {mem : mMem}, zmm (zr2 g p s m x) mem (85, W2) → ∀ {nc0 ns0 : Nat}, nc0 ≤ 500000 → ns0 ≤ 7000000 →
      mGd E (zbQ W3 V m x) d 232 0 (lv_args 0 [.ref 75, .int g, .int p, .int s, .int m]) [] mem nc0 ns0)
    (h77 : ∀ {r : List Int}, r[0]? = some 0 → ∀ {g p s m : Int32} {x : Int64}, 0 ≤ g.toInt → g.toInt ≤ 3 → ∀ cc, zcm r cc C1 → zcm (zr2 g p s m x) cc (ztg 7 W2 77))
    (h84 : ∀ {g p s m : Int32} {x : Int64} {f : Nat → Value}, f 0 = .long x → zcm (zr2 g p s m x) (.inl (1, 1, f)) (ztg 7 W2 84))
    {args : List zV} {F : zF} {w : zW} {nc ns : Nat} {L : List zU} (h : zbug W2 W3 C1 args F w nc ns = some L) {r : List Int} {vs : List Value} {mem : mMem} {nc0 ns0 : Nat} (hF : zFok r F) (hl : zlm r vs args) (hm : zmm r mem w) (hnc : nc0 ≤ nc) (hns : ns0 ≤ ns) :
    ∃ n res, mrun E n d 232 0 (lv_args 0 vs) [] mem nc0 ns0 = some res ∧ ∃ o ∈ L, ∃ r', zX r r' ∧ zuo E r' o res := by
  unfold zbug at h
  split at h
  · rename_i M g p s m
    obtain ⟨u1, vs1, rfl, hu1, hvs1⟩ := zlm_cons hl
    obtain ⟨u2, vs2, rfl, hu2, hvs2⟩ := zlm_cons hvs1
    obtain ⟨u3, vs3, rfl, hu3, hvs3⟩ := zlm_cons hvs2
    obtain ⟨u4, vs4, rfl, hu4, hvs4⟩ := zlm_cons hvs3
    obtain ⟨u5, vs5, rfl, hu5, hvs5⟩ := zlm_cons hvs4
    cases vs5 with
    | cons _ _ => exact hvs5.elim
    | nil =>
    cases hc1 : zbq1 W2 C1 M g p s m w nc ns with
    | false => rw [hc1] at h; cases h
    | true =>
      rw [hc1] at h
      rw [cond_true] at h
      obtain ⟨⟨a1, a2, a3, a4, a5, a6⟩, w85, a8, a9, b1, b2, b3⟩ := zbq1_ok hc1
      obtain rfl := zvm_r hu1 a1
      rw [a2]
      obtain ⟨gx, rfl, hg⟩ := zvm_i hu2 a3
      obtain ⟨px, rfl, hp⟩ := zvm_i hu3 a4
      obtain ⟨sx, rfl, hs⟩ := zvm_i hu4 a5
      obtain ⟨mx, rfl, hmx⟩ := zvm_i hu5 a6
      obtain ⟨c84, q84, z84⟩ := hm.2.2 84 (by omega)
      split at h
      · rename_i t n b es ez
        split at h
        · rename_i c F9 es9 gl gh pl ph sl sh ml mh y1 y2 y3 y4 y5
          cases hc2 : zbq2 t n c gl gh sl sh ml mh with
          | false => rw [hc2] at h; cases h
          | true =>
            rw [hc2] at h
            rw [cond_true] at h
            obtain ⟨k1, k2, k3, k4, k5, k6, k7, k8, k9, l1, l2⟩ := zbq2_ok hc2
            subst k1
            subst k2
            rw [ez] at z84
            obtain ⟨f, rfl, hf⟩ := z84
            obtain ⟨r9, -, hF9, hv9, -, -⟩ := zrd_ok (j := 0) hF (zk_d hF 0) (hf 0 (by decide)) y1
            obtain ⟨x, hx0⟩ := zvm_l hv9 (by rw [k3]; rfl)
            have bg := zlh_ok hF y2 hg
            have bp := zlh_ok hF y3 hp
            have bs := zlh_ok hF y4 hs
            have bm := zlh_ok hF y5 hmx
            split at h
            · rename_i v ev
              obtain ⟨V, pl', ph', hbr, hzv, hp1, hp2⟩ := zbv_ok (sv := sl) ev k7 k8
              have h0 : r[0]? = some 0 := hF.2.1
              have hmm : ml = mx.toInt := by omega
              have hm2 : zmm (zr2 gx px sx mx x) mem (85, W2) := by
                refine zbu_m2 h0 rfl hm w85 b1 b2 b3 (fun cc hc => h77 h0 (by omega) (by omega) cc hc) (fun cc hc => ?_)
                rw [q84] at hc
                cases hc
                exact h84 hx0
              obtain ⟨nn, res, hr, hQ⟩ := hcore hbr (g := gx) (p := px) (s := sx) (m := mx) (x := x) (by omega) (by omega) (by omega) (by omega) (by omega) (by omega) (by omega) hm2 (Nat.le_trans hnc a8) (Nat.le_trans hns a9)
              rw [hmm] at hzv
              cases h
              exact ⟨nn, res, hr, _, List.mem_cons_self, r, zX.rf, zbug_end hQ hF hf hx0 hzv⟩
            · cases h
        · cases h
      · cases h
  · cases h
def zbuc (args : List zV) (F : zF) (w : zW) (nc ns : Nat) : Option (List zU) := zbug zw2 zw3 zw1c_77 args F w nc ns
theorem zbu_77 {r : List Int} (h0 : r[0]? = some 0) {g p s m : Int32} {x : Int64} (g1 : 0 ≤ g.toInt) (g2 : g.toInt ≤ 3) (cc : mCell) (q2 : zcm r cc zw1c_77) : zcm (zr2 g p s m x) cc (ztg 7 zw2 77) := by
  rw [zmB_1] at q2
  rw [zw2_77]
  have h6 : (zr2 g p s m x)[6]? = some ((7 * g.toInt.toNat : Nat) : Int) := by
    show some (7 * g.toInt) = _
    congr 1
    omega
  exact zbu_c7 h0 rfl h6 (by omega) q2
theorem zbu_84 {g p s m : Int32} {x : Int64} {f : Nat → Value} (hx : f 0 = .long x) : zcm (zr2 g p s m x) (.inl (1, 1, f)) (ztg 7 zw2 84) := by
  rw [zw2_84]
  exact zbu_c84 rfl rfl hx
theorem zbuc_ok {E : mEnv} (hE1 : E.1 = zmt) (hE2 : E.2.1 = zft_) (hE4 : E.2.2.2 = zxn) {d : Nat} (hd : 200 ≤ d) {args : List zV} {F : zF} {w : zW} {nc ns : Nat} {L : List zU} (h : zbuc args F w nc ns = some L) {r : List Int} {vs : List Value} {mem : mMem} {nc0 ns0 : Nat} (hF : zFok r F) (hl : zlm r vs args) (hm : zmm r mem w) (hnc : nc0 ≤ nc) (hns : ns0 ≤ ns) :
    ∃ n res, mrun E n d 232 0 (lv_args 0 vs) [] mem nc0 ns0 = some res ∧ ∃ o ∈ L, ∃ r', zX r r' ∧ zuo E r' o res :=
  zbug_ok (fun {_ _ _ _} hb {_ _ _ _ _} g1 g2 p1 p2 s1 m1 m2 {_} hm {_ _} hnc hns => zbu_Q hE1 hE2 hE4 hb g1 g2 p1 p2 s1 m1 m2 hm hd hnc hns) (fun {_} h0 {_ _ _ _ _} g1 g2 cc hc => zbu_77 h0 g1 g2 cc hc) (fun {_ _ _ _ _ _} hx => zbu_84 hx) h hF hl hm hnc hns
def zcon5 : zK := fun mi args F w nc ns => bif Nat.beq mi 232 then zbuc args F w nc ns else zcon4 mi args F w nc ns
theorem zcon5_ok {E : mEnv} (hE : E.1 = zmt) (hE2 : E.2.1 = zft_) (hE4 : E.2.2.2 = zxn) {ro : zQ} : zCon E ro 200 zcon5 := by
  intro d mi args F w nc ns L hd h r vs mem nc0 ns0 hro hF hl hm hnc hns
  unfold zcon5 at h
  cases c0 : Nat.beq mi 232 with
  | true =>
    rw [c0] at h
    obtain rfl := zbe.mp c0
    exact zbuc_ok hE hE2 hE4 hd h hF hl hm hnc hns
  | false =>
    rw [c0] at h
    exact zcon4_ok hE hE2 hE4 d mi args F w nc ns L (by omega) h r vs mem nc0 ns0 hro hF hl hm hnc hns
