/-! what is known of cells without names goes over to other names -/
theorem zaln_ok : ∀ {n : Nat} {f : Nat → Bool}, zaln n f = true → ∀ i, i < n → f i = true
  | 0, _, _, _, hi => absurd hi (Nat.not_lt_zero _)
  | n + 1, f, h, i, hi => by
    simp only [zaln, Bool.and_eq_true] at h
    by_cases e : i = n
    · rw [e]; exact h.1
    · exact zaln_ok h.2 i (by omega)
theorem zdc {r r2 : List Int} (h0 : r[0]? = some 0) (h2 : r2[0]? = some 0) {a : zV} (h : a.2.1 = 0) : zd r2 a = zd r a := by
  unfold zd
  rw [h, h0, h2]
theorem zcc_ok {r r2 : List Int} (h0 : r[0]? = some 0) (h2 : r2[0]? = some 0) {a : zV} {v : Value} (hc : zcc a = true) (hv : zvm r v a) : zvm r2 v a := by
  simp only [zcc, Bool.or_eq_true, zbe] at hc
  unfold zvm at hv ⊢
  rcases hc with hc | hc
  · rw [hc] at hv ⊢; exact hv
  · split at hv
    · trivial
    · rw [zdc h0 h2 hc]; exact hv
    · exact hv
    · rw [zdc h0 h2 hc]; exact hv
    · exact hv
theorem zakc {r r2 : List Int} (h0 : r[0]? = some 0) (h2 : r2[0]? = some 0) {b : List zR} {j : Nat} {v : Value} : ∀ {es : zN}, (es.all fun e => Nat.beq e.1.2.1 0 && zcc e.2) = true → zak r b es j v → zak r2 b es j v
  | [], _, hv => hv
  | e :: es, h, hv => by
    simp only [List.all_cons, Bool.and_eq_true, zbe] at h
    obtain ⟨i, g1, g2⟩ := hv
    refine ⟨i, by rw [zdc h0 h2 h.1.1]; exact g1, ?_⟩
    by_cases hj : j = i
    · rw [if_pos hj] at g2 ⊢; exact zcc_ok h0 h2 h.1.2 g2
    · rw [if_neg hj] at g2 ⊢; exact zakc h0 h2 (by simpa only [Bool.and_eq_true, zbe] using h.2) g2
theorem zlmc {r r2 : List Int} (h0 : r[0]? = some 0) (h2 : r2[0]? = some 0) : ∀ {vs : List Value} {as bs : List zV}, eLs (fun a b => Nat.beq b.1 0 || (eV a b && zcc a)) as bs = true → zlm r vs as → zlm r2 vs bs
  | [], [], [], _, _ => trivial
  | v :: vs, a :: as, b :: bs, h, hl => by
    simp only [eLs, Bool.and_eq_true, Bool.or_eq_true, zbe] at h
    refine ⟨?_, zlmc h0 h2 h.2 hl.2⟩
    rcases h.1 with h1 | h1
    · unfold zvm; rw [h1]; trivial
    · rw [← eV_ok h1.1]; exact zcc_ok h0 h2 h1.2 hl.1
  | _ :: _, [], _, _, hl => hl.elim
  | [], _ :: _, _, _, hl => hl.elim
  | _, [], _ :: _, h, _ => by cases h
  | _, _ :: _, [], h, _ => by cases h
theorem zsb_ok {r r2 : List Int} (h0 : r[0]? = some 0) (h2 : r2[0]? = some 0) {c : mCell} : ∀ {z z2 : zC}, zsb z z2 = true → zcm r c z → zcm r2 c z2
  | .inl (t, n, b, es), .inl (t', n', b', es'), h, hv => by
    simp only [zsb, Bool.and_eq_true, Bool.or_eq_true] at h
    obtain ⟨k1, k2, h⟩ := h
    obtain rfl := zbe.mp k1
    obtain rfl := zbe.mp k2
    obtain ⟨f, rfl, hf⟩ := hv
    refine ⟨f, rfl, fun j hj => ?_⟩
    rcases h with ⟨he, hb⟩ | ⟨hb, he, hc⟩
    · cases es' with
      | cons _ _ => cases he
      | nil =>
        split at hb
        · rename_i q
          simp only [Bool.and_eq_true, zbe] at hb
          refine ⟨q.2.1, q.2.2.1, q.2.2.2, ?_, ?_⟩
          · unfold zba
            rw [show Nat.ble (Nat.succ j) q.1 = true from by rw [Nat.ble_eq]; omega]
            rfl
          · rw [hb.2]; trivial
        · cases hb
    · have eb := eLs_ok eR_ok hb
      have ee := eLs_ok eE_ok he
      rw [← eb, ← ee]
      exact zakc h0 h2 hc (hf j hj)
  | .inr (ci, fs), .inr (ci', fs'), h, hv => by
    simp only [zsb, Bool.and_eq_true] at h
    obtain rfl := zbe.mp h.1
    obtain ⟨gs, rfl, hl⟩ := hv
    exact ⟨gs, rfl, zlmc h0 h2 h.2 hl⟩
  | .inl _, .inr _, h, _ => by cases h
  | .inr _, .inl _, h, _ => by cases h
