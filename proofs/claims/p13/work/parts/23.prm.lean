/-! new cells, what is done at once, arguments -/
theorem zbase0 {r : List Int} {n j t : Nat} (hj : j < n) {v : Value} (hv : zrm v t 0 0) : zak r [(n, t, 0, 0)] [] j v := by
  refine ⟨t, 0, 0, ?_, hv⟩
  unfold zba
  have : Nat.ble (Nat.succ j) n = true := by rw [Nat.ble_eq]; omega
  simp only [this, cond_true]
theorem zao_ok {E : mEnv} {r : List Int} {nL pc : Nat} {q : mIns} {ls : mLs} {st : List Value} {ast ast' : List zV} {mem : mMem} {F : zF} {w w' : zW} {k ms : Nat}
    (hF : zFok r F) (hs : zlm r st ast) (hm : zmm r mem w) (h : zao E.2.1 q ast F w = some (k, ast', w', ms)) :
    mplain E nL q pc ls st mem = none ∧ mem.length < 999 ∧ ∃ st' mem', malloc E q st mem = some (k, st', mem', ms) ∧ zlm r st' ast' ∧ zmm r mem' w' := by
  unfold zao at h
  cases c0 : Nat.ble (Nat.succ w.1) 127 with
  | false => rw [c0] at h; cases h
  | true =>
    rw [c0] at h
    simp only [cond_true] at h
    rw [Nat.ble_eq] at c0
    have hlen := hm.1
    refine ⟨?_, by omega, ?_⟩
    · split at h
      · rename_i t e; exact mplain_newarray e
      · rename_i t e; exact mplain_new e
      · cases h
    · unfold malloc
      split at h
      · rename_i t e
        simp only [e]
        split at h
        · rename_i a rr
          obtain ⟨v, vs, rfl, hv, hvs⟩ := zlm_cons hs
          cases c1 : (Nat.beq a.1 1 && Nat.beq a.2.1 0 && zle 0 a.2.2 && zle a.2.2 (.ofNat 100000)) with
          | false => rw [c1] at h; cases h
          | true =>
            rw [c1] at h
            simp only [cond_true, zfn_eq] at h
            simp only [Bool.and_eq_true, zle_iff, zbe, Int.ofNat_eq_natCast] at c1
            obtain ⟨⟨⟨d1, d2⟩, d3⟩, d4⟩ := c1
            obtain ⟨x, rfl, hx⟩ := zvm_i hv (zbe.mpr d1)
            obtain ⟨u, hu, hxu⟩ := zd_some.mp hx
            rw [d2, hF.2.1] at hu
            cases hu
            have en : x.toNatClampNeg = a.2.2.toNat := by
              have : x.toNatClampNeg = x.toInt.toNat := rfl
              rw [this, hxu]; simp
            have hno : ¬ (x < 0 ∨ 100000 < x.toNatClampNeg) := by
              rw [Int32.lt_iff_toInt_lt]
              have : (0 : Int32).toInt = 0 := rfl
              rw [this, en]
              omega
            have href : zlm r (.ref mem.length :: vs) ((2, w.1, 0) :: rr) := ⟨by rw [hlen]; rfl, hvs⟩
            simp only
            rw [if_neg hno]
            split at h
            · cases h
              refine ⟨_, _, by rw [en], href, hm.add (by omega) ⟨_, rfl, fun j hj => zbase0 hj ⟨0, rfl, by decide, by decide⟩⟩⟩
            · cases h
              refine ⟨_, _, by rw [en], href, hm.add (by omega) ⟨_, rfl, fun j hj => zbase0 hj ⟨0, rfl, by decide, by decide⟩⟩⟩
            · cases h
              refine ⟨_, _, by rw [en], href, hm.add (by omega) ⟨_, rfl, fun j hj => zbase0 hj ⟨0, rfl, by decide, by decide⟩⟩⟩
            · cases h
        · cases h
      · rename_i t e
        simp only [e]
        cases h
        exact ⟨_, _, rfl, ⟨by rw [hlen]; rfl, hs⟩, hm.add (by omega) ⟨_, rfl, zdv_l hF _⟩⟩
      · cases h
def zk0 (a : zV) : Bool := Nat.beq a.1 1 && Nat.beq a.2.1 0 && zeq a.2.2 0
def zpr (kind : Nat) (st : List zV) (w : zW) : Option (List zV × zW) := match kind with
  | 1 => (match st with
    | a :: rr => bif Nat.beq a.1 2 then some (rr, w) else none
    | _ => none)
  | 4 => (match st with
    | n :: dp :: d :: sp :: a :: rr => bif Nat.beq n.1 1 && Nat.beq n.2.1 0 && zk0 dp && zk0 sp && Nat.beq d.1 2 && Nat.beq a.1 2 && Nat.ble (Nat.succ d.2.1) w.1 && Nat.ble (Nat.succ a.2.1) w.1 && !(Nat.beq a.2.1 d.2.1) then
      (match ztg 7 w.2 a.2.1, ztg 7 w.2 d.2.1 with
      | .inl (t, N, base, es), .inl (t', N', _, _) => bif Nat.beq t t' && Nat.ble t 1 && Nat.beq N N' && zeq n.2.2 (.ofNat N) then some (rr, (w.1, zts 7 w.2 d.2.1 (.inl (t', N', base, es)))) else none
      | _, _ => none) else none
    | _ => none)
  | _ => none
theorem zk0_ok {r : List Int} {F : zF} {v : Value} {a : zV} (hF : zFok r F) (hv : zvm r v a) (h : zk0 a = true) : v = .int 0 := by
  simp only [zk0, Bool.and_eq_true, zbe, zeq_iff] at h
  obtain ⟨x, rfl, hx⟩ := zvm_i hv (zbe.mpr h.1.1)
  obtain ⟨u, hu, hxu⟩ := zd_some.mp hx
  rw [h.1.2, hF.2.1] at hu
  cases hu
  rw [h.2] at hxu
  have : x = 0 := Int32.toInt_inj.mp (by rw [hxu]; rfl)
  rw [this]
theorem zpr_ok {E : mEnv} {r : List Int} {kind : Nat} {st : List Value} {ast ast' : List zV} {mem : mMem} {F : zF} {w w' : zW}
    (hF : zFok r F) (hs : zlm r st ast) (hm : zmm r mem w) (h : zpr kind ast w = some (ast', w')) :
    ∃ st' mem', mprim E kind st mem = some (st', mem') ∧ zlm r st' ast' ∧ zmm r mem' w' := by
  unfold zpr at h
  split at h
  · split at h
    · rename_i a rr
      obtain ⟨v, vs, rfl, hv, hvs⟩ := zlm_cons hs
      cases c : Nat.beq a.1 2 with
      | false => rw [c] at h; cases h
      | true =>
        rw [c] at h
        cases h
        have ev := zvm_r hv c
        subst ev
        exact ⟨vs, mem, rfl, hvs, hm⟩
    · cases h
  · split at h
    · rename_i n dp d sp a rr
      obtain ⟨v1, vs1, rfl, hv1, hvs1⟩ := zlm_cons hs
      obtain ⟨v2, vs2, rfl, hv2, hvs2⟩ := zlm_cons hvs1
      obtain ⟨v3, vs3, rfl, hv3, hvs3⟩ := zlm_cons hvs2
      obtain ⟨v4, vs4, rfl, hv4, hvs4⟩ := zlm_cons hvs3
      obtain ⟨v5, vs5, rfl, hv5, hvs5⟩ := zlm_cons hvs4
      cases c : (Nat.beq n.1 1 && Nat.beq n.2.1 0 && zk0 dp && zk0 sp && Nat.beq d.1 2 && Nat.beq a.1 2 && Nat.ble (Nat.succ d.2.1) w.1 && Nat.ble (Nat.succ a.2.1) w.1 && !(Nat.beq a.2.1 d.2.1)) with
      | false => rw [c] at h; cases h
      | true =>
        rw [c] at h
        simp only [cond_true] at h
        simp only [Bool.and_eq_true, Nat.ble_eq, Bool.not_eq_true'] at c
        obtain ⟨⟨⟨⟨⟨⟨⟨⟨k1, k2⟩, k3⟩, k4⟩, k5⟩, k6⟩, k7⟩, k8⟩, k9⟩ := c
        obtain ⟨x, rfl, hx⟩ := zvm_i hv1 k1
        have e2 := zk0_ok hF hv2 k3
        have e3 := zvm_r hv3 k5
        have e4 := zk0_ok hF hv4 k4
        have e5 := zvm_r hv5 k6
        subst e2 e3 e4 e5
        obtain ⟨ca, ea, ha⟩ := hm.2.2 a.2.1 (by omega)
        obtain ⟨cd, ed, hd⟩ := hm.2.2 d.2.1 (by omega)
        split at h
        · rename_i t N base es t' N' b' e' za zd9
          rw [za] at ha
          rw [zd9] at hd
          obtain ⟨f, rfl, hf⟩ := ha
          obtain ⟨g, rfl, hg⟩ := hd
          cases c2 : (Nat.beq t t' && Nat.ble t 1 && Nat.beq N N' && zeq n.2.2 (.ofNat N)) with
          | false => rw [c2] at h; cases h
          | true =>
            rw [c2] at h
            simp only [cond_true] at h
            cases h
            simp only [Bool.and_eq_true, Nat.ble_eq, zbe, zeq_iff] at c2
            obtain ⟨⟨⟨rfl, m2⟩, rfl⟩, m4⟩ := c2
            obtain ⟨u, hu, hxu⟩ := zd_some.mp hx
            rw [zbe.mp k2, hF.2.1] at hu
            cases hu
            have en : x.toNatClampNeg = N := by
              have : x.toNatClampNeg = x.toInt.toNat := rfl
              rw [this, hxu, m4]; simp
            have e0 : (0 : Int32).toNatClampNeg = 0 := rfl
            have hx0 : ¬ x < 0 := by
              rw [Int32.lt_iff_toInt_lt]
              have : (0 : Int32).toInt = 0 := rfl
              rw [this, hxu, m4]; simp
            have h00 : ¬ ((0 : Int32) < 0) := by decide
            have had : ¬ a.2.1 = d.2.1 := fun e => by rw [zbe.mpr e] at k9; cases k9
            refine ⟨vs5, mem.set d.2.1 (.inl (t, N, va_cpy f g 0 0 N)), ?_, hvs5, ?_⟩
            · unfold mprim
              simp only [ea, ed, en, e0]
              rw [if_pos ⟨trivial, by omega, had, hx0, h00, h00, by omega, by omega⟩]
            · refine hm.set (by omega) ⟨_, rfl, fun j hj => ?_⟩
              have : va_cpy f g 0 0 N j = f j := by
                unfold va_cpy
                rw [if_pos ⟨Nat.zero_le _, by omega⟩]
                simp
              rw [this]
              exact hf j hj
        · cases h
    · cases h
  · cases h
/-- arguments -/
def zarg : Nat → List zV → zL
  | _, [] => []
  | i, a :: as => (i, a) :: (bif Nat.ble 3 a.1 then zfn (i + 2) fun j => zarg j as else zfn (i + 1) fun j => zarg j as)
def znz : List zV → Bool
  | [] => true
  | a :: l => !(Nat.beq a.1 0) && znz l
def zcat : List zV → Nat
  | [] => 0
  | a :: l => bif Nat.ble 3 a.1 then zcat l + 2 else zcat l + 1
theorem zvm_cat {r : List Int} {v : Value} {a : zV} (h : zvm r v a) (h0 : Nat.beq a.1 0 = false) : v.category = if 3 ≤ a.1 then 2 else 1 := by
  unfold zvm at h
  split at h
  · rename_i e; rw [e] at h0; cases h0
  · rename_i e; obtain ⟨x, rfl, -⟩ := h; rw [e]; rfl
  · rename_i e; rw [h, e]; rfl
  · rename_i e; obtain ⟨x, rfl, -⟩ := h; rw [e]; rfl
  · rename_i n0 n1 n2 n3
    obtain ⟨x, rfl⟩ := h
    have : a.1 ≠ 0 := n0
    have : a.1 ≠ 1 := n1
    have : a.1 ≠ 2 := n2
    rw [if_pos (by omega)]; rfl
theorem zcat_ok {r : List Int} : ∀ {vs : List Value} {as : List zV}, zlm r vs as → znz as = true → mcat vs = zcat as
  | [], [], _, _ => rfl
  | v :: vs, a :: as, hl, hn => by
    simp only [znz, Bool.and_eq_true, Bool.not_eq_true'] at hn
    have hc := zvm_cat hl.1 hn.1
    have ih := zcat_ok hl.2 hn.2
    have e : mcat (v :: vs) = v.category + mcat vs := by simp [mcat]
    rw [e, ih, hc]
    show _ = (bif Nat.ble 3 a.1 then zcat as + 2 else zcat as + 1)
    by_cases h3 : 3 ≤ a.1
    · have : Nat.ble 3 a.1 = true := by rw [Nat.ble_eq]; exact h3
      rw [if_pos h3, this]
      simp only [cond_true]; omega
    · have : Nat.ble 3 a.1 = false := by rw [← Bool.not_eq_true, Nat.ble_eq]; exact h3
      rw [if_neg h3, this]
      simp only [cond_false]; omega
theorem zarg_ok {r : List Int} : ∀ {vs : List Value} {as : List zV} (k : Nat), zlm r vs as → znz as = true → zls r (lv_args k vs) (zarg k as)
  | [], [], _, _, _ => fun i a h => by cases h
  | v :: vs, a :: as, k, hl, hn => by
    simp only [znz, Bool.and_eq_true, Bool.not_eq_true'] at hn
    have hc := zvm_cat hl.1 hn.1
    intro i b hb
    unfold zarg zld at hb
    show ∃ v', mld ((k, v) :: lv_args (if v.category = 2 then k + 2 else k + 1) vs) i = some v' ∧ zvm r v' b
    unfold mld
    cases c : Nat.beq k i with
    | true =>
      rw [c] at hb
      cases hb
      rw [if_pos (zbe.mp c)]
      exact ⟨v, rfl, hl.1⟩
    | false =>
      rw [c] at hb
      have : ¬ k = i := fun e => by rw [zbe.mpr e] at c; cases c
      rw [if_neg this]
      simp only [cond_false, zfn_eq] at hb
      by_cases h3 : 3 ≤ a.1
      · have e3 : Nat.ble 3 a.1 = true := by rw [Nat.ble_eq]; exact h3
        rw [e3] at hb
        rw [hc, if_pos h3, if_pos rfl]
        exact zarg_ok (k + 2) hl.2 hn.2 i b hb
      · have e3 : Nat.ble 3 a.1 = false := by rw [← Bool.not_eq_true, Nat.ble_eq]; exact h3
        rw [e3] at hb
        rw [hc, if_neg h3, if_neg (by omega)]
        exact zarg_ok (k + 1) hl.2 hn.2 i b hb
/-- behind a handler's store -/
theorem zls.h1 {r : List Int} {ls : mLs} {as : zL} (hl : zls r ls as) (i : Nat) : zls r (ls.filter (fun q => !(q.1 == i) && !(q.1 + 1 == i && q.2.category == 2))) (zrl (zrp as i) i) := by
  intro j b hb
  rw [zrl_ld] at hb
  by_cases e : j = i
  · rw [if_pos e] at hb; cases hb
  · rw [if_neg e] at hb
    obtain ⟨h1, h2⟩ := zrp_ld hb
    obtain ⟨w, w1, w2⟩ := hl j b h1
    refine ⟨w, mld_flt ?_ w1, w2⟩
    have n1 : (j == i) = false := by simp; omega
    simp only [n1, Bool.not_false, Bool.true_and]
    by_cases h3 : j + 1 = i
    · have := zvm_c1 w2 (h2 h3)
      simp [this]
    · have n2 : (j + 1 == i) = false := by simp; omega
      simp only [n2, Bool.false_and, Bool.not_false]
