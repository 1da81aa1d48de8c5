/-! what is known of cells without names goes over to other names -/
theorem zaln_ok : ∀ {n : Nat} {f : Nat → Bool}, zaln n f = true → ∀ i, i < n → f i = true
  | 0, _, _, _, hi => absurd hi (Nat.not_lt_zero _)
  | n + 1, f, h, i, hi => by
    simp only [zaln, Bool.and_eq_true] at h
    by_cases e : i = n
    · rw [e]; exact h.1
    · exact zaln_ok h.2 i (by omega)
theorem zdc {r r2 : List Int} (h0 : r[0]? = some 0) (h2 : r2[0]? = some 0) {a : zV} (h : a.2.1 = 0) : zd r2 a = zd r a := by
  unfold zd
  rw [h, h0, h2]
theorem zcc_ok {r r2 : List Int} (h0 : r[0]? = some 0) (h2 : r2[0]? = some 0) {a : zV} {v : Value} (hc : zcc a = true) (hv : zvm r v a) : zvm r2 v a := by
  simp only [zcc, Bool.or_eq_true, zbe] at hc
  unfold zvm at hv ⊢
  rcases hc with hc | hc
  · rw [hc] at hv ⊢; exact hv
  · split at hv
    · trivial
    · rw [zdc h0 h2 hc]; exact hv
    · exact hv
    · rw [zdc h0 h2 hc]; exact hv
    · exact hv
theorem zakc {r r2 : List Int} (h0 : r[0]? = some 0) (h2 : r2[0]? = some 0) {b : List zR} {j : Nat} {v : Value} : ∀ {es : zN}, (es.all fun e => Nat.beq e.1.2.1 0 && zcc e.2) = true → zak r b es j v → zak r2 b es j v
  | [], _, hv => hv
  | e :: es, h, hv => by
    simp only [List.all_cons, Bool.and_eq_true, zbe] at h
    obtain ⟨i, g1, g2⟩ := hv
    refine ⟨i, by rw [zdc h0 h2 h.1.1]; exact g1, ?_⟩
    by_cases hj : j = i
    · rw [if_pos hj] at g2 ⊢; exact zcc_ok h0 h2 h.1.2 g2
    · rw [if_neg hj] at g2 ⊢; exact zakc h0 h2 (by simpa only [Bool.and_eq_true, zbe] using h.2) g2
theorem zlmc {r r2 : List Int} (h0 : r[0]? = some 0) (h2 : r2[0]? = some 0) : ∀ {vs : List Value} {as bs : List zV}, eLs (fun a b => Nat.beq b.1 0 || (eV a b && zcc a)) as bs = true → zlm r vs as → zlm r2 vs bs
  | [], [], [], _, _ => trivial
  | v :: vs, a :: as, b :: bs, h, hl => by
    simp only [eLs, Bool.and_eq_true, Bool.or_eq_true, zbe] at h
    refine ⟨?_, zlmc h0 h2 h.2 hl.2⟩
    rcases h.1 with h1 | h1
    · unfold zvm; rw [h1]; trivial
    · rw [← eV_ok h1.1]; exact zcc_ok h0 h2 h1.2 hl.1
  | _ :: _, [], _, _, hl => hl.elim
  | [], _ :: _, _, _, hl => hl.elim
  | _, [], _ :: _, h, _ => by cases h
  | _, _ :: _, [], h, _ => by cases h
theorem zsb_ok {r r2 : List Int} (h0 : r[0]? = some 0) (h2 : r2[0]? = some 0) {c : mCell} : ∀ {z z2 : zC}, zsb z z2 = true → zcm r c z → zcm r2 c z2
  | .inl (t, n, b, es), .inl (t', n', b', es'), h, hv => by
    simp only [zsb, Bool.and_eq_true, Bool.or_eq_true] at h
    obtain ⟨k1, k2, h⟩ := h
    obtain rfl := zbe.mp k1
    obtain rfl := zbe.mp k2
    obtain ⟨f, rfl, hf⟩ := hv
    refine ⟨f, rfl, fun j hj => ?_⟩
    rcases h with ⟨he, hb⟩ | ⟨hb, he, hc⟩
    · cases es' with
      | cons _ _ => cases he
      | nil =>
        split at hb
        · rename_i q
          simp only [Bool.and_eq_true, zbe] at hb
          refine ⟨q.2.1, q.2.2.1, q.2.2.2, ?_, ?_⟩
          · unfold zba
            rw [show Nat.ble (Nat.succ j) q.1 = true from by rw [Nat.ble_eq]; omega]
            rfl
          · rw [hb.2]; trivial
        · cases hb
    · have eb := eLs_ok eR_ok hb
      have ee := eLs_ok eE_ok he
      rw [← eb, ← ee]
      exact zakc h0 h2 hc (hf j hj)
  | .inr (ci, fs), .inr (ci', fs'), h, hv => by
    simp only [zsb, Bool.and_eq_true] at h
    obtain rfl := zbe.mp h.1
    obtain ⟨gs, rfl, hl⟩ := hv
    exact ⟨gs, rfl, zlmc h0 h2 h.2 hl⟩
  | .inl _, .inr _, h, _ => by cases h
  | .inr _, .inl _, h, _ => by cases h
def zmB : List zR := [(20, 1, 0, 0), (27, 1, 0, 0), (969, 1, 0, 0)]
def zmE : zN := [((1, 0, 134), (1, 0, (-1))), ((1, 0, 129), (1, 0, (-1))), ((1, 0, 127), (1, 0, (-1))), ((1, 0, 122), (1, 0, (-1))), ((1, 0, 120), (1, 0, (-1))), ((1, 0, 115), (1, 0, (-1))), ((1, 0, 113), (1, 0, (-1))), ((1, 0, 108), (1, 0, (-1))), ((1, 0, 106), (1, 0, (-1))), ((1, 0, 101), (1, 0, (-1))), ((1, 0, 99), (1, 0, (-1))), ((1, 0, 94), (1, 0, (-1))), ((1, 0, 92), (1, 0, (-1))), ((1, 0, 87), (1, 0, (-1))), ((1, 0, 85), (1, 0, (-1))), ((1, 0, 80), (1, 0, (-1))), ((1, 0, 41), (1, 0, (-1))), ((1, 0, 40), (1, 0, (-1))), ((1, 0, 39), (1, 0, (-1))), ((1, 0, 3), (1, 0, 4)), ((1, 0, 25), (1, 0, 1)), ((1, 0, 23), (1, 0, 2)), ((1, 0, 22), (1, 0, 3)), ((1, 0, 21), (1, 0, 6)), ((1, 0, 20), (1, 0, 2))]
theorem zmB_1 : zw1c_77 = .inl (0, 969, zmB, zmE) := rfl
def zvt : List (Nat × Int) := [(0, -1), (1, 0), (2, 0), (3, 0), (4, 0), (5, -1), (6, 0)]
def zxt (l : List (Nat × Int)) : zN := l.map fun q => ((1, 6, ((80 + q.1 : Nat) : Int)), (1, 0, q.2))
theorem zmB_2 : zw2c_77 = .inl (0, 969, zmB, zxt zvt ++ zmE) := rfl
theorem zmB_c : (zmE.all fun e => Nat.beq e.1.2.1 0 && zcc e.2) = true := by decide +kernel
def z7b : Bool := [0, 1, 2, 3].all fun g => zvt.all fun q => match zrd (1, [], [], []) zmB zmE (zk ((80 + q.1 + 7 * g : Nat) : Int)) with
  | some (c, _, _) => eV c (1, 0, q.2)
  | none => false
set_option maxRecDepth 1000000 in
theorem z7 : z7b = true := by decide +kernel
theorem z7_ok {r r2 : List Int} (h0 : r[0]? = some 0) (h2 : r2[0]? = some 0) {f : Nat → Value} (hf : ∀ j, j < 969 → zak r zmB zmE j (f j)) {g : Nat} (hg : g ≤ 3) : ∀ q ∈ zvt, zvm r2 (f (80 + q.1 + 7 * g)) (1, 0, q.2) := by
  intro q hq
  have hg' : g ∈ [0, 1, 2, 3] := by simp; omega
  have h := List.all_eq_true.mp (List.all_eq_true.mp z7 g hg') q hq
  split at h
  · rename_i c F9 es9 e
    have hq6 : q.1 ≤ 6 := by simp [zvt] at hq; rcases hq with rfl | rfl | rfl | rfl | rfl | rfl | rfl <;> decide
    have F0 : zFok [0] (1, [], [], []) := ⟨rfl, rfl, fun e he => (by cases he), fun e he => (by cases he), fun e he => (by cases he)⟩
    obtain ⟨r', hx, hF', hv, -, -⟩ := zrd_ok (j := 80 + q.1 + 7 * g) F0 (zk_d F0 _) (zakc (r2 := [0]) h0 rfl zmB_c (hf _ (by omega))) e
    rw [eV_ok h] at hv
    exact zcc_ok (hx.get (i := 0) rfl) h2 rfl hv
  · cases h
theorem zxt_ok {r2 : List Int} {b : List zR} {es : zN} {f : Nat → Value} {t : Nat} (h6 : r2[6]? = some (t : Int)) {j : Nat} : ∀ (l : List (Nat × Int)), (∀ q ∈ l, zvm r2 (f (80 + q.1 + t)) (1, 0, q.2)) → zak r2 b es j (f j) → zak r2 b (zxt l ++ es) j (f j)
  | [], _, hv => hv
  | q :: l, h, hv => by
    refine ⟨80 + q.1 + t, zd_some.mpr ⟨t, h6, by dsimp only; omega⟩, ?_⟩
    by_cases hj : j = 80 + q.1 + t
    · rw [if_pos hj, hj]; exact h q List.mem_cons_self
    · rw [if_neg hj]; exact zxt_ok h6 l (fun q hq => h q (List.mem_cons_of_mem _ hq)) hv
def zr2 (g p s m : Int32) (x : Int64) : List Int := [0, g.toInt, p.toInt, s.toInt, m.toInt, x.toInt, 7 * g.toInt]
theorem zg4 {g : Int32} (h1 : 0 ≤ g.toInt) (h2 : g.toInt ≤ 3) : g = 0 ∨ g = 1 ∨ g = 2 ∨ g = 3 := by
  rcases (show g.toInt = 0 ∨ g.toInt = 1 ∨ g.toInt = 2 ∨ g.toInt = 3 by omega) with h | h | h | h
  · exact Or.inl (Int32.toInt_inj.mp h)
  · exact Or.inr (Or.inl (Int32.toInt_inj.mp h))
  · exact Or.inr (Or.inr (Or.inl (Int32.toInt_inj.mp h)))
  · exact Or.inr (Or.inr (Or.inr (Int32.toInt_inj.mp h)))
def zbF (pl ph s : Int) : zF := (7, [(1, 0, 3), (2, pl, ph), (3, s, s), (4, 1, 50), (6, 0, 21)], [], [(3, (1, 0, 7), (1, 1, 0), 6)])
theorem zbF_ok {g p s m : Int32} {x : Int64} {pl ph sv : Int} (g1 : 0 ≤ g.toInt) (g2 : g.toInt ≤ 3) (p1 : pl ≤ p.toInt) (p2 : p.toInt ≤ ph) (s1 : s.toInt = sv) (m1 : 1 ≤ m.toInt) (m2 : m.toInt ≤ 50) : zFok (zr2 g p s m x) (zbF pl ph sv) := by
  refine ⟨rfl, rfl, ?_, fun e he => (by cases he), ?_⟩
  · intro e he
    simp only [zbF, List.mem_cons, List.not_mem_nil, or_false] at he
    rcases he with rfl | rfl | rfl | rfl | rfl
    · exact ⟨_, rfl, g1, g2⟩
    · exact ⟨_, rfl, p1, p2⟩
    · exact ⟨_, rfl, by dsimp only; omega, by dsimp only; omega⟩
    · exact ⟨_, rfl, m1, m2⟩
    · exact ⟨_, rfl, by dsimp only; omega, by dsimp only; omega⟩
  · intro e he
    simp only [zbF, List.mem_cons, List.not_mem_nil, or_false] at he
    subst he
    refine ⟨7, g, 7 * g, zd_some.mpr ⟨0, rfl, rfl⟩, zd_some.mpr ⟨g.toInt, rfl, by dsimp only; omega⟩, rfl, ?_⟩
    show some (7 * g.toInt) = some (7 * g).toInt
    rcases zg4 g1 g2 with rfl | rfl | rfl | rfl <;> rfl
