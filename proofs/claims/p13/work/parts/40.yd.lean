/-! THE TYPED CHECKER'S DOMAIN: what is known of differences is used; products are told apart. -/
def yl0 (F : zF) (a b : zV) : Bool := bif Nat.beq a.2.1 b.2.1 && zle a.2.2 b.2.2 then true else match zlh F a, zlh F b with
  | some p, some q => zle p.2 q.1
  | _, _ => false
theorem yl0_ok {r : List Int} {F : zF} {a b : zV} {x y : Int} (hF : zFok r F) (hx : zd r a = some x) (hy : zd r b = some y) (h : yl0 F a b = true) : x ≤ y := by
  unfold yl0 at h
  cases c : (Nat.beq a.2.1 b.2.1 && zle a.2.2 b.2.2) with
  | true =>
    simp only [Bool.and_eq_true, zbe, zle_iff] at c
    obtain ⟨u, hu, rfl⟩ := zd_some.mp hx
    obtain ⟨v, hv, rfl⟩ := zd_some.mp hy
    rw [c.1, hv] at hu
    cases hu
    omega
  | false =>
    rw [c] at h
    simp only [cond_false] at h
    split at h
    · rename_i p q ea eb
      have h := zle_iff.mp h
      have h1 := zlh_ok (l := p.1) (h := p.2) hF ea hx
      have h2 := zlh_ok (l := q.1) (h := q.2) hF eb hy
      omega
    · cases h
/-- a ≤ b, by intervals and differences -/
def yle : Nat → zF → zV → zV → Bool
  | 0, F, a, b => yl0 F a b
  | n + 1, F, a, b => bif yl0 F a b then true else F.2.2.1.any fun e => Nat.beq e.1 a.2.1 && zfi (a.2.2 - e.2.2) fun o => yle n F (1, e.2.1, o) b
theorem yle_ok {r : List Int} {F : zF} (hF : zFok r F) : ∀ (n : Nat) {a b : zV} {x y : Int}, zd r a = some x → zd r b = some y → yle n F a b = true → x ≤ y
  | 0, _, _, _, _, hx, hy, h => yl0_ok hF hx hy h
  | n + 1, a, b, x, y, hx, hy, h => by
    unfold yle at h
    cases c : yl0 F a b with
    | true => exact yl0_ok hF hx hy c
    | false =>
      rw [c] at h
      simp only [cond_false, List.any_eq_true, Bool.and_eq_true, zfi_eq] at h
      obtain ⟨e, he, h1, h2⟩ := h
      obtain ⟨u, v, e1, e2, e3⟩ := hF.2.2.2.1 e he
      obtain ⟨w, hw, rfl⟩ := zd_some.mp hx
      rw [← zbe.mp h1, e1] at hw
      cases hw
      have := yle_ok hF n (a := (1, e.2.1, a.2.2 - e.2.2)) (x := v + (a.2.2 - e.2.2)) (zd_some.mpr ⟨v, e2, rfl⟩) hy h2
      omega
/-- c ≤ a -/
def yg0 (F : zF) (a : zV) (c : Int) : Bool := match zlh F a with
  | some p => zle c p.1
  | none => false
def yge : Nat → zF → zV → Int → Bool
  | 0, F, a, c => yg0 F a c
  | n + 1, F, a, c => bif yg0 F a c then true else F.2.2.1.any fun e => Nat.beq e.2.1 a.2.1 && zfi (a.2.2 + e.2.2) fun o => yge n F (1, e.1, o) c
theorem yg0_ok {r : List Int} {F : zF} {a : zV} {x c : Int} (hF : zFok r F) (hx : zd r a = some x) (h : yg0 F a c = true) : c ≤ x := by
  unfold yg0 at h
  split at h
  · rename_i p ea
    have h := zle_iff.mp h
    have h1 := zlh_ok (l := p.1) (h := p.2) hF ea hx
    omega
  · cases h
theorem yge_ok {r : List Int} {F : zF} (hF : zFok r F) : ∀ (n : Nat) {a : zV} {x c : Int}, zd r a = some x → yge n F a c = true → c ≤ x
  | 0, _, _, _, hx, h => yg0_ok hF hx h
  | n + 1, a, x, c, hx, h => by
    unfold yge at h
    cases c0 : yg0 F a c with
    | true => exact yg0_ok hF hx c0
    | false =>
      rw [c0] at h
      simp only [cond_false, List.any_eq_true, Bool.and_eq_true, zfi_eq] at h
      obtain ⟨e, he, h1, h2⟩ := h
      obtain ⟨u, v, e1, e2, e3⟩ := hF.2.2.2.1 e he
      obtain ⟨w, hw, rfl⟩ := zd_some.mp hx
      rw [← zbe.mp h1, e2] at hw
      cases hw
      have := yge_ok hF n (a := (1, e.1, a.2.2 + e.2.2)) (x := u + (a.2.2 + e.2.2)) (zd_some.mpr ⟨u, e1, rfl⟩) h2
      omega
/-- within an interval, by all that is known -/
def yin (F : zF) (a : zV) (l h : Int) : Bool := yge 2 F a l && yle 2 F a (zk h)
theorem yin_ok {r : List Int} {F : zF} {a : zV} {x l h : Int} (hF : zFok r F) (hx : zd r a = some x) (h9 : yin F a l h = true) : l ≤ x ∧ x ≤ h := by
  unfold yin at h9
  simp only [Bool.and_eq_true] at h9
  exact ⟨yge_ok hF 2 hx h9.1, yle_ok hF 2 hx (zk_d hF h) h9.2⟩
def yhas (D : List (Nat × Nat × Int)) (s t : Nat) (c : Int) : Bool := D.any fun e => Nat.beq e.1 s && Nat.beq e.2.1 t && zle c e.2.2
/-- what follows of a new difference for the first symbols -/
def ycl (k0 s t : Nat) (c : Int) : List (Nat × Nat × Int) → List (Nat × Nat × Int) → List (Nat × Nat × Int)
  | [], acc => acc
  | e :: l, acc =>
    bif Nat.beq e.2.1 s && Nat.ble (Nat.succ e.1) k0 && Nat.ble k0 s then zfi (e.2.2 + c) fun c2 => (e.1, t, c2) :: ycl k0 s t c l acc
    else bif Nat.beq e.1 t && Nat.ble (Nat.succ e.2.1) k0 && Nat.ble k0 t then zfi (c + e.2.2) fun c2 => (s, e.2.1, c2) :: ycl k0 s t c l acc
    else ycl k0 s t c l acc
def yde (r : List Int) (e : Nat × Nat × Int) : Prop := ∃ u v, r[e.1]? = some u ∧ r[e.2.1]? = some v ∧ u + e.2.2 ≤ v
theorem ycl_ok {r : List Int} {k0 s t : Nat} {c : Int} (h9 : yde r (s, t, c)) : ∀ {D acc : List (Nat × Nat × Int)}, (∀ e ∈ D, yde r e) → (∀ e ∈ acc, yde r e) → ∀ e ∈ ycl k0 s t c D acc, yde r e
  | [], _, _, ha, e, he => ha e he
  | d :: l, acc, hD, ha, e, he => by
    obtain ⟨us, vt, g1, g2, g3⟩ := h9
    dsimp only at g1 g2 g3
    have hD' : ∀ e ∈ l, yde r e := fun e he => hD e (List.mem_cons_of_mem _ he)
    obtain ⟨u, v, e1, e2, e3⟩ := hD d List.mem_cons_self
    unfold ycl at he
    rw [Bool.cond_eq_ite] at he
    split at he
    · rename_i hc
      simp only [Bool.and_eq_true, zbe] at hc
      simp only [zfi_eq] at he
      rcases List.mem_cons.mp he with rfl | he
      · refine ⟨u, vt, e1, g2, ?_⟩
        rw [hc.1.1, g1] at e2
        cases e2
        dsimp only
        omega
      · exact ycl_ok ⟨us, vt, g1, g2, g3⟩ hD' ha e he
    · rw [Bool.cond_eq_ite] at he
      split at he
      · rename_i hc
        simp only [Bool.and_eq_true, zbe] at hc
        simp only [zfi_eq] at he
        rcases List.mem_cons.mp he with rfl | he
        · refine ⟨us, v, g1, e2, ?_⟩
          rw [hc.1.1, g2] at e1
          cases e1
          dsimp only
          omega
        · exact ycl_ok ⟨us, vt, g1, g2, g3⟩ hD' ha e he
      · exact ycl_ok ⟨us, vt, g1, g2, g3⟩ hD' ha e he
/-- a ≤ b, from now on; none: that can't be -/
def yas (k0 : Nat) (F : zF) (a b : zV) : Option zF := match zas F a b with
  | none => none
  | some F1 => match a.2.1, b.2.1 with
    | s + 1, t + 1 => bif yl0 F a b || Nat.beq s t then some F1 else
        bif yle 2 F (zsh b 1) a then none else
        zfi (a.2.2 - b.2.2) fun c => bif yhas F.2.2.1 (Nat.succ s) (Nat.succ t) c then some (F1.1, F1.2.1, F.2.2.1, F1.2.2.2)
        else some (F1.1, F1.2.1, (Nat.succ s, Nat.succ t, c) :: ycl k0 (Nat.succ s) (Nat.succ t) c F.2.2.1 F.2.2.1, F1.2.2.2)
    | _, _ => some F1
theorem yas_ok {r : List Int} {k0 : Nat} {F : zF} {a b : zV} {x y : Int} (hF : zFok r F) (hx : zd r a = some x) (hy : zd r b = some y) (h : x ≤ y) :
    ∃ F', yas k0 F a b = some F' ∧ zFok r F' := by
  obtain ⟨F1, e1, h1⟩ := zas_ok hF hx hy h
  unfold yas
  rw [e1]
  simp only
  split
  · rename_i s t es et
    cases c1 : (yl0 F a b || Nat.beq s t) with
    | true => exact ⟨F1, rfl, h1⟩
    | false =>
      simp only [cond_false]
      cases c2 : yle 2 F (zsh b 1) a with
      | true =>
        have := yle_ok hF 2 (zsh_d hy) hx c2
        omega
      | false =>
        simp only [cond_false, zfi_eq]
        cases c3 : yhas F.2.2.1 (Nat.succ s) (Nat.succ t) (a.2.2 - b.2.2) with
        | true => exact ⟨_, rfl, h1.1, h1.2.1, h1.2.2.1, hF.2.2.2.1, h1.2.2.2.2⟩
        | false =>
          obtain ⟨u, hu, hxu⟩ := zd_some.mp hx
          obtain ⟨v, hv, hyv⟩ := zd_some.mp hy
          rw [es] at hu
          rw [et] at hv
          have hn : yde r (Nat.succ s, Nat.succ t, a.2.2 - b.2.2) := ⟨u, v, hu, hv, by dsimp only; omega⟩
          refine ⟨_, rfl, h1.1, h1.2.1, h1.2.2.1, ?_, h1.2.2.2.2⟩
          intro e he
          rcases List.mem_cons.mp he with rfl | he
          · exact hn
          · exact ycl_ok hn hF.2.2.2.1 hF.2.2.2.1 e he
  · exact ⟨F1, rfl, h1⟩
def yeqs (k0 : Nat) (F : zF) (a b : zV) : Option zF := match yas k0 F a b with
  | some F1 => yas k0 F1 b a
  | none => none
theorem yeqs_ok {r : List Int} {k0 : Nat} {F : zF} {a b : zV} {x : Int} (hF : zFok r F) (hx : zd r a = some x) (hy : zd r b = some x) : ∃ F', yeqs k0 F a b = some F' ∧ zFok r F' := by
  obtain ⟨F1, e1, h1⟩ := yas_ok (k0 := k0) hF hx hy (Int.le_refl x)
  unfold yeqs
  rw [e1]
  exact yas_ok h1 hy hx (Int.le_refl x)
def ynes (k0 : Nat) (F : zF) (a b : zV) : Option zF := bif Nat.beq a.2.1 b.2.1 then znes F a b else
  bif yle 2 F a b then yas k0 F (zsh a 1) b else bif yle 2 F b a then yas k0 F (zsh b 1) a else znes F a b
theorem ynes_ok {r : List Int} {k0 : Nat} {F : zF} {a b : zV} {x y : Int} (hF : zFok r F) (hx : zd r a = some x) (hy : zd r b = some y) (h : x ≠ y) : ∃ F', ynes k0 F a b = some F' ∧ zFok r F' := by
  unfold ynes
  cases c0 : Nat.beq a.2.1 b.2.1 with
  | true => exact znes_ok hF hx hy h
  | false =>
    simp only [cond_false]
    cases c1 : yle 2 F a b with
    | true =>
      have := yle_ok hF 2 hx hy c1
      exact yas_ok hF (zsh_d hx) hy (by omega)
    | false =>
      simp only [cond_false]
      cases c2 : yle 2 F b a with
      | true =>
        have := yle_ok hF 2 hy hx c2
        exact yas_ok hF (zsh_d hy) hx (by omega)
      | false => exact znes_ok hF hx hy h
def ycnd (k0 : Nat) (F : zF) (c : Jvm.ClassFile.Cond) (a b : zV) : Option zF × Option zF := match c with
  | .eq => (yeqs k0 F a b, ynes k0 F a b)
  | .ne => (ynes k0 F a b, yeqs k0 F a b)
  | .lt => (yas k0 F (zsh a 1) b, yas k0 F b a)
  | .ge => (yas k0 F b a, yas k0 F (zsh a 1) b)
  | .gt => (yas k0 F (zsh b 1) a, yas k0 F a b)
  | .le => (yas k0 F a b, yas k0 F (zsh b 1) a)
theorem ycnd_ok {r : List Int} {k0 : Nat} {F : zF} {c : Jvm.ClassFile.Cond} {a b : zV} {x y : Int32} (hF : zFok r F) (hx : zd r a = some x.toInt) (hy : zd r b = some y.toInt) :
    (mcond c x y = true → ∃ F', (ycnd k0 F c a b).1 = some F' ∧ zFok r F') ∧ (mcond c x y = false → ∃ F', (ycnd k0 F c a b).2 = some F' ∧ zFok r F') := by
  have heq : x = y ↔ x.toInt = y.toInt := Int32.toInt_inj.symm
  cases c <;> simp only [mcond, ycnd, decide_eq_true_eq, decide_eq_false_iff_not, Bool.not_eq_true', Bool.not_eq_false', Int32.lt_iff_toInt_lt, Int32.le_iff_toInt_le]
  · refine ⟨fun h => ?_, fun h => ?_⟩
    · subst h; exact yeqs_ok hF hx hy
    · exact ynes_ok hF hx hy (fun e => h (heq.mpr e))
  · refine ⟨fun h => ?_, fun h => ?_⟩
    · exact ynes_ok hF hx hy (fun e => h (heq.mpr e))
    · subst h; exact yeqs_ok hF hx hy
  · exact ⟨fun h => yas_ok hF (zsh_d hx) hy (by omega), fun h => yas_ok hF hy hx (by omega)⟩
  · exact ⟨fun h => yas_ok hF hy hx (by omega), fun h => yas_ok hF (zsh_d hx) hy (by omega)⟩
  · exact ⟨fun h => yas_ok hF (zsh_d hy) hx (by omega), fun h => yas_ok hF hx hy (by omega)⟩
  · exact ⟨fun h => yas_ok hF hx hy (by omega), fun h => yas_ok hF (zsh_d hy) hx (by omega)⟩
/-- a number times a constant -/
def yf1 (F : zF) (a b : zV) : Option (zV × Int) := match zlh F a with
  | some (l, h) => bif Nat.beq b.2.1 0 && zle 0 b.2.2 && zin (l * b.2.2) (h * b.2.2) then some (a, b.2.2) else none
  | none => none
theorem yf1_ok {r : List Int} {F : zF} {a b x : zV} {n : Int} {u v : Int32} (hF : zFok r F) (hu : zd r a = some u.toInt) (hv : zd r b = some v.toInt) (h : yf1 F a b = some (x, n)) :
    x = a ∧ v.toInt = n ∧ 0 ≤ n ∧ (u * v).toInt = u.toInt * n := by
  unfold yf1 at h
  split at h
  · rename_i l h9 ea
    cases c : (Nat.beq b.2.1 0 && zle 0 b.2.2 && zin (l * b.2.2) (h9 * b.2.2)) with
    | false => rw [c] at h; cases h
    | true =>
      rw [c] at h
      cases h
      simp only [Bool.and_eq_true, zbe, zle_iff, zin_iff] at c
      obtain ⟨⟨c1, c2⟩, c3, c4⟩ := c
      obtain ⟨w, hw, e⟩ := zd_some.mp hv
      rw [c1, hF.2.1] at hw
      cases hw
      have e : v.toInt = b.2.2 := by omega
      obtain ⟨i1, i2⟩ := zlh_ok hF ea hu
      have m1 : l * b.2.2 ≤ u.toInt * b.2.2 := Int.mul_le_mul_of_nonneg_right i1 c2
      have m2 : u.toInt * b.2.2 ≤ h9 * b.2.2 := Int.mul_le_mul_of_nonneg_right i2 c2
      refine ⟨rfl, e, c2, ?_⟩
      rw [zmul_i (by rw [e]; omega) (by rw [e]; omega), e]
  · cases h
def yf2 (F : zF) (a b : zV) : Option (zV × Int) := match yf1 F a b with
  | some p => some p
  | none => yf1 F b a
def yfc (F : zF) (z : Nat) : zM → Option (zV × Int)
  | [] => none
  | e :: l => bif Nat.beq e.1 3 && Nat.beq e.2.2.2 z then (match yf2 F e.2.1 e.2.2.1 with
    | some p => some p
    | none => yfc F z l) else yfc F z l
theorem yfc_ok {r : List Int} {F : zF} {z : Nat} (hF : zFok r F) : ∀ {m : zM} {x : zV} {n : Int}, (∀ e ∈ m, zmok r e) → yfc F z m = some (x, n) → ∃ u, zd r x = some u ∧ r[z]? = some (u * n) ∧ 0 ≤ n
  | [], _, _, _, h => by cases h
  | e :: l, x, n, hm, h => by
    have hl : ∀ e ∈ l, zmok r e := fun e he => hm e (List.mem_cons_of_mem _ he)
    unfold yfc at h
    rw [Bool.cond_eq_ite] at h
    split at h
    · rename_i hc
      simp only [Bool.and_eq_true, zbe] at hc
      obtain ⟨u, v, w, e1, e2, e3, e4⟩ := hm e List.mem_cons_self
      rw [hc.1] at e3
      cases e3
      rw [hc.2] at e4
      split at h
      · rename_i p ep
        cases h
        unfold yf2 at ep
        split at ep
        · rename_i p' ep'
          cases ep
          obtain ⟨rfl, g1, g2, g3⟩ := yf1_ok hF e1 e2 ep'
          exact ⟨u.toInt, e1, by rw [e4, g3], g2⟩
        · obtain ⟨rfl, g1, g2, g3⟩ := yf1_ok hF e2 e1 ep
          refine ⟨v.toInt, e2, ?_, g2⟩
          rw [e4, ← g3]
          congr 2
          exact Int32.mul_comm u v
      · exact yfc_ok hF hl h
    · exact yfc_ok hF hl h
/-- whether two places are one: 0 surely, 1 surely not, 2 who knows -/
def yal (F : zF) (i k : zV) : Nat := match zal F i k with
  | 0 => 0
  | 1 => 1
  | _ => bif yle 2 F (zsh i 1) k || yle 2 F (zsh k 1) i then 1 else bif yle 2 F i k && yle 2 F k i then 0 else
    match yfc F i.2.1 F.2.2.2, yfc F k.2.1 F.2.2.2 with
    | some (x, n), some (y, m) => bif zeq n m && zle (i.2.2 - k.2.2 + 1) n && zle (k.2.2 - i.2.2 + 1) n && (yle 2 F (zsh x 1) y || yle 2 F (zsh y 1) x) then 1 else 2
    | _, _ => 2
theorem yal_ok {r : List Int} {F : zF} {i k : zV} {x y : Int} (hF : zFok r F) (hx : zd r i = some x) (hy : zd r k = some y) :
    (yal F i k = 0 → x = y) ∧ (yal F i k = 1 → x ≠ y) := by
  have hz := zal_ok hF hx hy
  unfold yal
  split
  · rename_i e; exact ⟨fun _ => hz.1 e, fun h => by cases h⟩
  · rename_i e; exact ⟨fun h => (by cases h), fun _ => hz.2 e⟩
  · cases c1 : (yle 2 F (zsh i 1) k || yle 2 F (zsh k 1) i) with
    | true =>
      refine ⟨fun h => (by cases h), fun _ => ?_⟩
      rcases Bool.or_eq_true _ _ |>.mp c1 with c | c
      · have := yle_ok hF 2 (zsh_d hx) hy c; omega
      · have := yle_ok hF 2 (zsh_d hy) hx c; omega
    | false =>
      simp only [cond_false]
      cases c2 : (yle 2 F i k && yle 2 F k i) with
      | true =>
        refine ⟨fun _ => ?_, fun h => by cases h⟩
        simp only [Bool.and_eq_true] at c2
        have h1 := yle_ok hF 2 hx hy c2.1
        have h2 := yle_ok hF 2 hy hx c2.2
        omega
      | false =>
        simp only [cond_false]
        split
        · rename_i a n b m ea eb
          cases c3 : (zeq n m && zle (i.2.2 - k.2.2 + 1) n && zle (k.2.2 - i.2.2 + 1) n && (yle 2 F (zsh a 1) b || yle 2 F (zsh b 1) a)) with
          | false => exact ⟨fun h => (by cases h), fun h => by cases h⟩
          | true =>
            refine ⟨fun h => (by cases h), fun _ => ?_⟩
            simp only [Bool.and_eq_true, zeq_iff, zle_iff, Bool.or_eq_true] at c3
            obtain ⟨⟨⟨c4, c5⟩, c6⟩, c7⟩ := c3
            subst c4
            obtain ⟨u, u1, u2, u3⟩ := yfc_ok hF hF.2.2.2.2 ea
            obtain ⟨v, v1, v2, -⟩ := yfc_ok hF hF.2.2.2.2 eb
            obtain ⟨p, p1, rfl⟩ := zd_some.mp hx
            obtain ⟨q, q1, rfl⟩ := zd_some.mp hy
            rw [u2] at p1
            rw [v2] at q1
            cases p1
            cases q1
            rcases c7 with c | c
            · have h9 := yle_ok hF 2 (zsh_d u1) v1 c
              have : (u + 1) * n ≤ v * n := Int.mul_le_mul_of_nonneg_right h9 u3
              rw [Int.add_mul] at this
              omega
            · have h9 := yle_ok hF 2 (zsh_d v1) u1 c
              have : (v + 1) * n ≤ u * n := Int.mul_le_mul_of_nonneg_right h9 u3
              rw [Int.add_mul] at this
              omega
        · exact ⟨fun h => (by cases h), fun h => by cases h⟩
