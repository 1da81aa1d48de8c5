/-! the history's contract, as the checker takes it -/
theorem zlh_ex {r : List Int} {F : zF} {a : zV} {l h : Int} (hF : zFok r F) (hl : zlh F a = some (l, h)) : ∃ x, zd r a = some x ∧ l ≤ x ∧ x ≤ h := by
  have key : ∃ v, r[a.2.1]? = some v := by
    unfold zlh at hl
    cases hs : a.2.1 with
    | zero => exact ⟨0, hF.2.1⟩
    | succ s =>
      rw [hs] at hl
      simp only at hl
      cases hb : zbn F.2.1 (Nat.succ s) with
      | none => rw [hb] at hl; cases hl
      | some p =>
        obtain ⟨v, e, -⟩ := hF.2.2.1 _ (zbn_mem hb)
        exact ⟨v, e⟩
  obtain ⟨v, hv⟩ := key
  have hx : zd r a = some (v + a.2.2) := zd_some.mpr ⟨v, hv, rfl⟩
  exact ⟨_, hx, zlh_ok hF hl hx⟩
def zrk (F : zF) : zN → Option zN
  | [] => some []
  | e :: es => match zlh F e.1, zrk F es with
    | some (l, h), some es' => bif zle 0 l && zle h 711 then some (e :: es') else bif zle 712 l then some es' else none
    | _, _ => none
theorem zrk_lo {r : List Int} {F : zF} {base base' : List zR} (hF : zFok r F) {j : Nat} {v : Value} (hj : j < 712) (hb : ∀ z, zba base j = some z → zba base' j = some z) : ∀ {es es' : zN}, zrk F es = some es' → zak r base es j v → zak r base' es' j v
  | [], es', h, hv => by
    cases h
    obtain ⟨t, l, hh, e, hv⟩ := hv
    exact ⟨t, l, hh, hb _ e, hv⟩
  | e :: es, es', h, hv => by
    unfold zrk at h
    split at h
    · rename_i l hh es1 e1 e2
      obtain ⟨i, h1, h2⟩ := hv
      obtain ⟨b1, b2⟩ := zlh_ok hF e1 h1
      cases c1 : (zle 0 l && zle hh 711) with
      | true =>
        rw [c1] at h
        cases h
        refine ⟨i, h1, ?_⟩
        by_cases hi : j = i
        · rw [if_pos hi] at h2 ⊢; exact h2
        · rw [if_neg hi] at h2 ⊢; exact zrk_lo hF hj hb e2 h2
      | false =>
        rw [c1] at h
        simp only [cond_false] at h
        cases c2 : zle 712 l with
        | false => rw [c2] at h; cases h
        | true =>
          rw [c2] at h
          cases h
          have := zle_iff.mp c2
          rw [if_neg (by omega)] at h2
          exact zrk_lo hF hj hb e2 h2
    · cases h
theorem zrk_hi {r : List Int} {F : zF} {base' : List zR} (hF : zFok r F) {j : Nat} {v : Value} (hj : 712 ≤ j) (hb : zak r base' [] j v) : ∀ {es es' : zN}, zrk F es = some es' → zak r base' es' j v
  | [], es', h => by cases h; exact hb
  | e :: es, es', h => by
    unfold zrk at h
    split at h
    · rename_i l hh es1 e1 e2
      cases c1 : (zle 0 l && zle hh 711) with
      | true =>
        rw [c1] at h
        cases h
        simp only [Bool.and_eq_true, zle_iff] at c1
        obtain ⟨x, hx, b1, b2⟩ := zlh_ex hF e1
        refine ⟨x.toNat, by rw [hx]; congr 1; omega, ?_⟩
        rw [if_neg (by omega)]
        exact zrk_hi hF hj hb e2
      | false =>
        rw [c1] at h
        simp only [cond_false] at h
        cases c2 : zle 712 l with
        | false => rw [c2] at h; cases h
        | true => rw [c2] at h; cases h; exact zrk_hi hF hj hb e2
    · cases h
def zrb : List zR → Option (List zR)
  | [] => none
  | q :: l => bif Nat.ble q.1 711 then (match zrb l with
    | some l' => some (q :: l')
    | none => none) else some [(712, q.2), (969, 1, zI0, zI1)]
theorem zrb_lo : ∀ {base base' : List zR}, zrb base = some base' → ∀ {j : Nat}, j < 712 → ∀ (z : Nat × Int × Int), zba base j = some z → zba base' j = some z
  | [], _, h, _, _, _, _ => by cases h
  | q :: l, base', h, j, hj, z, hz => by
    unfold zrb at h
    cases c : Nat.ble q.1 711 with
    | true =>
      rw [c] at h
      simp only [cond_true] at h
      split at h
      · rename_i l' e
        cases h
        unfold zba at hz ⊢
        cases c2 : Nat.ble (Nat.succ j) q.1 with
        | true => rw [c2] at hz; exact hz
        | false => rw [c2] at hz; exact zrb_lo e hj z hz
      · cases h
    | false =>
      rw [c] at h
      cases h
      have hq : ¬ q.1 ≤ 711 := fun e => by rw [Nat.ble_eq.mpr e] at c; cases c
      unfold zba at hz ⊢
      rw [show Nat.ble (Nat.succ j) q.1 = true from by rw [Nat.ble_eq]; omega] at hz
      rw [show Nat.ble (Nat.succ j) 712 = true from by rw [Nat.ble_eq]; omega]
      exact hz
theorem zrb_h0 : ∀ {base base' : List zR}, zrb base = some base' → ∀ {j : Nat}, 712 ≤ j → j < 969 → zba base' j = some (1, zI0, zI1)
  | [], _, h, _, _, _ => by cases h
  | q :: l, base', h, j, h1, h2 => by
    unfold zrb at h
    cases c : Nat.ble q.1 711 with
    | true =>
      rw [c] at h
      simp only [cond_true] at h
      split at h
      · rename_i l' e
        cases h
        rw [Nat.ble_eq] at c
        unfold zba
        rw [show Nat.ble (Nat.succ j) q.1 = false from by rw [Bool.eq_false_iff, ne_eq, Nat.ble_eq]; omega]
        exact zrb_h0 e h1 h2
      · cases h
    | false =>
      rw [c] at h
      cases h
      simp only [zba]
      rw [show Nat.ble (Nat.succ j) 712 = false from by rw [Bool.eq_false_iff, ne_eq, Nat.ble_eq]; omega, show Nat.ble (Nat.succ j) 969 = true from by rw [Nat.ble_eq]; omega]
      rfl
theorem zrb_hi {r : List Int} {base base' : List zR} (h : zrb base = some base') {j : Nat} (h1 : 712 ≤ j) (h2 : j < 969) (x : Int32) : zak r base' [] j (.int x) :=
  ⟨1, zI0, zI1, zrb_h0 h h1 h2, x, rfl, by have := x.le_toInt; unfold zI0; omega, by have := x.toInt_lt; show x.toInt ≤ 2147483647; omega⟩
def zremc (args : List zV) (F : zF) (w : zW) (nc ns : Nat) : Option (List zU) := match args with
  | [x, g, p, s, v] => bif Nat.beq x.1 2 && Nat.beq g.1 1 && Nat.beq p.1 1 && Nat.beq s.1 1 && Nat.beq v.1 1 && Nat.ble (Nat.succ x.2.1) w.1 then (match ztg 7 w.2 x.2.1 with
    | .inr (ci, fs) => (match zln fs 2 with
      | some mm => bif Nat.beq ci 11 && Nat.beq mm.1 2 && !(Nat.beq mm.2.1 x.2.1) && Nat.ble (Nat.succ mm.2.1) w.1 then
        (match ztg 7 w.2 mm.2.1 with
        | .inl (t, n, base, es) => bif Nat.beq t 0 && Nat.beq n 969 && zallI base es then (match zrd F base es (zk 712), zrb base, zrk F es with
          | some (c, _, _), some base', some es' => bif Nat.beq c.1 1 && Nat.beq c.2.1 0 && zle 0 c.2.2 && zle c.2.2 64 then
              some [(0, (0, 0, 0), F, (w.1, zts 7 w.2 mm.2.1 (.inl (0, 969, base', (zk 712, zk (zmin c.2.2 63 + 1)) :: es'))), nc, ns)] else none
          | _, _, _ => none) else none
        | .inr _ => none) else none
      | none => none)
    | .inl _ => none) else none
  | _ => none
theorem zremc_ok {E : mEnv} (h225 : E.1 225 = some zm_225) (h181 : E.1 181 = some zm_181) {d : Nat} (hd : 1 ≤ d) {args : List zV} {F : zF} {w : zW} {nc ns : Nat} {L : List zU} (h : zremc args F w nc ns = some L) {r : List Int} {vs : List Value} {mem : mMem} {nc0 ns0 : Nat} (hF : zFok r F) (hl : zlm r vs args) (hm : zmm r mem w) (hnc : nc0 ≤ nc) (hns : ns0 ≤ ns) :
    ∃ n res, mrun E n d 225 0 (lv_args 0 vs) [] mem nc0 ns0 = some res ∧ ∃ o ∈ L, ∃ r', zX r r' ∧ zuo E r' o res := by
  unfold zremc at h
  split at h
  · rename_i x g p s v
    obtain ⟨u1, vs1, rfl, hu1, hvs1⟩ := zlm_cons hl
    obtain ⟨u2, vs2, rfl, hu2, hvs2⟩ := zlm_cons hvs1
    obtain ⟨u3, vs3, rfl, hu3, hvs3⟩ := zlm_cons hvs2
    obtain ⟨u4, vs4, rfl, hu4, hvs4⟩ := zlm_cons hvs3
    obtain ⟨u5, vs5, rfl, hu5, hvs5⟩ := zlm_cons hvs4
    cases vs5 with
    | cons _ _ => exact hvs5.elim
    | nil =>
    cases c1 : (Nat.beq x.1 2 && Nat.beq g.1 1 && Nat.beq p.1 1 && Nat.beq s.1 1 && Nat.beq v.1 1 && Nat.ble (Nat.succ x.2.1) w.1) with
    | false => rw [c1] at h; cases h
    | true =>
      rw [c1] at h
      simp only [cond_true] at h
      simp only [Bool.and_eq_true, Nat.ble_eq] at c1
      obtain ⟨⟨⟨⟨⟨k1, k2⟩, k3⟩, k4⟩, k5⟩, k6⟩ := c1
      obtain rfl := zvm_r hu1 k1
      obtain ⟨gx, rfl, -⟩ := zvm_i hu2 k2
      obtain ⟨px, rfl, -⟩ := zvm_i hu3 k3
      obtain ⟨sx, rfl, -⟩ := zvm_i hu4 k4
      obtain ⟨vx, rfl, -⟩ := zvm_i hu5 k5
      obtain ⟨cc, q1, q2⟩ := hm.2.2 x.2.1 (by omega)
      split at h
      · rename_i ci fs ez
        rw [ez] at q2
        obtain ⟨fs', rfl, hfs⟩ := q2
        split at h
        · rename_i mm e1
          cases c2 : (Nat.beq ci 11 && Nat.beq mm.1 2 && !(Nat.beq mm.2.1 x.2.1) && Nat.ble (Nat.succ mm.2.1) w.1) with
          | false => rw [c2] at h; cases h
          | true =>
            rw [c2] at h
            simp only [cond_true] at h
            simp only [Bool.and_eq_true, Nat.ble_eq, Bool.not_eq_true'] at c2
            obtain ⟨⟨⟨j1, j2⟩, j3⟩, j4⟩ := c2
            obtain rfl := zbe.mp j1
            obtain ⟨um, g1, v1⟩ := zln_ok hfs e1
            obtain rfl := zvm_r v1 j2
            have n2 : mm.2.1 ≠ x.2.1 := fun e => by rw [zbe.mpr e] at j3; cases j3
            obtain ⟨cm, m1, z1⟩ := hm.2.2 mm.2.1 (by omega)
            split at h
            · rename_i t n base es x1
              cases c3 : (Nat.beq t 0 && Nat.beq n 969 && zallI base es) with
              | false => rw [c3] at h; cases h
              | true =>
                rw [c3] at h
                simp only [cond_true] at h
                simp only [Bool.and_eq_true, zbe] at c3
                obtain ⟨⟨rfl, rfl⟩, ka⟩ := c3
                rw [x1] at z1
                obtain ⟨f, rfl, hf⟩ := z1
                split at h
                · rename_i c F9 es9 base' es' y1 y2 y3
                  cases c4 : (Nat.beq c.1 1 && Nat.beq c.2.1 0 && zle 0 c.2.2 && zle c.2.2 64) with
                  | false => rw [c4] at h; cases h
                  | true =>
                    rw [c4] at h
                    simp only [cond_true, Option.some.injEq] at h
                    simp only [Bool.and_eq_true, zle_iff] at c4
                    obtain ⟨⟨⟨b1, b2⟩, b3⟩, b4⟩ := c4
                    obtain ⟨r9, -, hF9, hv9, -, -⟩ := zrd_ok (j := 712) hF (zk_d hF 712) (hf 712 (by decide)) y1
                    obtain ⟨xi, hxi, hd9⟩ := zvm_i hv9 b1
                    have ex : xi.toInt = c.2.2 := by
                      obtain ⟨u, w1, w2⟩ := zd_some.mp hd9
                      rw [zbe.mp b2, hF9.2.1] at w1
                      cases w1
                      omega
                    have ei : xi = Int32.ofNat c.2.2.toNat := by
                      apply Int32.toInt_inj.mp
                      rw [zi32n (by omega), ex]
                      omega
                    have hz : zmin c.2.2 63 + 1 = ((min c.2.2.toNat 63 + 1 : Nat) : Int) := by
                      have := zmin_l c.2.2 63
                      unfold zmin
                      cases cz : zle c.2.2 63 with
                      | true => have := zle_iff.mp cz; simp only [cond_true]; omega
                      | false => have : ¬ c.2.2 ≤ 63 := fun e => by rw [zle_iff.mpr e] at cz; cases cz
                                 simp only [cond_false]; omega
                    obtain ⟨d, rfl⟩ : ∃ d', d = d' + 1 := ⟨d - 1, by omega⟩
                    refine zrA (P := fun res => ∃ o ∈ L, ∃ r', zX r r' ∧ zuo E r' o res) h225 h181 (n0 := c.2.2.toNat) (by rw [hm.1]; exact hm.2.1) q1 g1 n2 m1 (fun j hj => zallI_ok ka (hf j hj)) (by omega) (by rw [hxi, ei]) rfl rfl rfl rfl rfl ?_
                    intro h' w1 w2 w3
                    subst h
                    refine ⟨_, List.mem_singleton.mpr rfl, r, zX.rf, hF, ?_, hnc, hns, rfl⟩
                    refine hm.set (by omega) (c := .inl (0, 969, h')) (z := .inl (0, 969, base', (zk 712, zk (zmin c.2.2 63 + 1)) :: es')) ⟨h', rfl, fun j hj => ⟨712, zk_d hF 712, ?_⟩⟩
                    by_cases hj7 : j = 712
                    · rw [if_pos hj7, hj7, w2]
                      refine ⟨_, rfl, ?_⟩
                      rw [zi32n (by omega), hz]
                      exact zk_d hF _
                    · rw [if_neg hj7]
                      by_cases hlo : j < 712
                      · rw [w1 j hlo]
                        exact zrk_lo hF hlo (fun z => zrb_lo y2 hlo z) y3 (hf j hj)
                      · obtain ⟨xx, hxx⟩ := w3 j hj
                        rw [hxx]
                        exact zrk_hi hF (by omega) (zrb_hi y2 (by omega) hj xx) y3
                · cases h
            · cases h
        · cases h
      · cases h
  · cases h
def zcon3 : zK := fun mi args F w nc ns => bif Nat.beq mi 225 then zremc args F w nc ns else zcon2 mi args F w nc ns
theorem zcon3_ok {E : mEnv} (hE : E.1 = zmt) (hE2 : E.2.1 = zft_) {ro : zQ} : zCon E ro 100 zcon3 := by
  intro d mi args F w nc ns L hd h r vs mem nc0 ns0 hro hF hl hm hnc hns
  unfold zcon3 at h
  cases c0 : Nat.beq mi 225 with
  | true =>
    rw [c0] at h
    obtain rfl := zbe.mp c0
    exact zremc_ok (by rw [hE]; rfl) (by rw [hE]; rfl) (by omega) h hF hl hm hnc hns
  | false =>
    rw [c0] at h
    exact zcon2_ok hE hE2 d mi args F w nc ns L hd h r vs mem nc0 ns0 hro hF hl hm hnc hns
