/-! THE CHECKER'S MEMORY: a tree of cells; an array is its ranges, and what is known of single places (the latest first). -/
abbrev zR : Type := Nat × Nat × Int × Int
abbrev zN : Type := List (zV × zV)
abbrev zC : Type := (Nat × Nat × List zR × zN) ⊕ (Nat × List zV)
def zT (α : Type) : Nat → Type
  | 0 => α
  | n + 1 => zT α n × zT α n
def ztg {α : Type} : (n : Nat) → zT α n → Nat → α
  | 0, t, _ => t
  | n + 1, t, i => bif Nat.beq (Nat.mod i 2) 0 then ztg n (show zT α n × zT α n from t).1 (Nat.div i 2) else ztg n (show zT α n × zT α n from t).2 (Nat.div i 2)
def zts {α : Type} : (n : Nat) → zT α n → Nat → α → zT α n
  | 0, _, _, v => v
  | n + 1, t, i, v => bif Nat.beq (Nat.mod i 2) 0 then (show zT α n × zT α n from (zts n (show zT α n × zT α n from t).1 (Nat.div i 2) v, (show zT α n × zT α n from t).2))
      else (show zT α n × zT α n from ((show zT α n × zT α n from t).1, zts n (show zT α n × zT α n from t).2 (Nat.div i 2) v))
theorem ztg_s {α : Type} (n : Nat) : ∀ (t : zT α n) (i j : Nat) (v : α), i < 2 ^ n → j < 2 ^ n → ztg n (zts n t i v) j = if j = i then v else ztg n t j := by
  induction n with
  | zero =>
    intro t i j v hi hj
    have : j = i := by simp at hi hj; omega
    rw [if_pos this]
    rfl
  | succ n ih =>
    intro t i j v hi hj
    have di : i / 2 < 2 ^ n := by rw [Nat.pow_succ] at hi; omega
    have dj : j / 2 < 2 ^ n := by rw [Nat.pow_succ] at hj; omega
    unfold zts ztg
    have mi : Nat.mod i 2 = i % 2 := rfl
    have mj : Nat.mod j 2 = j % 2 := rfl
    have ei : Nat.div i 2 = i / 2 := rfl
    have ej : Nat.div j 2 = j / 2 := rfl
    rw [mi, mj, ei, ej]
    rcases Nat.mod_two_eq_zero_or_one i with h1 | h1 <;> rcases Nat.mod_two_eq_zero_or_one j with h2 | h2 <;> rw [h1, h2]
    · show ztg n (zts n _ (i / 2) v) (j / 2) = _
      rw [ih _ _ _ _ di dj]
      by_cases h : j = i
      · rw [if_pos h, if_pos (by omega)]
      · rw [if_neg h, if_neg (by omega)]; rfl
    · show ztg n _ (j / 2) = _
      rw [if_neg (by omega)]; rfl
    · show ztg n _ (j / 2) = _
      rw [if_neg (by omega)]; rfl
    · show ztg n (zts n _ (i / 2) v) (j / 2) = _
      rw [ih _ _ _ _ di dj]
      by_cases h : j = i
      · rw [if_pos h, if_pos (by omega)]
      · rw [if_neg h, if_neg (by omega)]; rfl
/-- a value is what is told of it -/
def zvm (r : List Int) (v : Value) (a : zV) : Prop := match a.1 with
  | 0 => True
  | 1 => ∃ x : Int32, v = .int x ∧ zd r a = some x.toInt
  | 2 => v = .ref a.2.1
  | 3 => ∃ x : Int64, v = .long x ∧ zd r a = some x.toInt
  | _ => ∃ x : Int64, v = .long x
theorem zvm.ex {r r' : List Int} (h : zX r r') {v : Value} {a : zV} (hv : zvm r v a) : zvm r' v a := by
  unfold zvm at hv ⊢
  split at hv
  · trivial
  · obtain ⟨x, e, hx⟩ := hv; exact ⟨x, e, h.den hx⟩
  · exact hv
  · obtain ⟨x, e, hx⟩ := hv; exact ⟨x, e, h.den hx⟩
  · exact hv
def zrm (v : Value) (t : Nat) (l h : Int) : Prop := match t with
  | 0 => True
  | 1 => ∃ x : Int32, v = .int x ∧ l ≤ x.toInt ∧ x.toInt ≤ h
  | 3 => ∃ x : Int64, v = .long x ∧ l ≤ x.toInt ∧ x.toInt ≤ h
  | _ => ∃ x : Int64, v = .long x
def zba : List zR → Nat → Option (Nat × Int × Int)
  | [], _ => none
  | q :: l, j => bif Nat.ble (Nat.succ j) q.1 then some q.2 else zba l j
def zak (r : List Int) (base : List zR) : zN → Nat → Value → Prop
  | [], j, v => ∃ t l h, zba base j = some (t, l, h) ∧ zrm v t l h
  | e :: es, j, v => ∃ i : Nat, zd r e.1 = some (i : Int) ∧ (if j = i then zvm r v e.2 else zak r base es j v)
theorem zak.ex {r r' : List Int} (h : zX r r') {base : List zR} {es : zN} {j : Nat} {v : Value} (hv : zak r base es j v) : zak r' base es j v := by
  induction es with
  | nil => exact hv
  | cons e es ih =>
    obtain ⟨i, h1, h2⟩ := hv
    refine ⟨i, h.den h1, ?_⟩
    by_cases c : j = i
    · rw [if_pos c] at h2 ⊢; exact h2.ex h
    · rw [if_neg c] at h2 ⊢; exact ih h2
def zlm (r : List Int) : List Value → List zV → Prop
  | [], [] => True
  | v :: vs, a :: as => zvm r v a ∧ zlm r vs as
  | _, _ => False
theorem zlm.ex {r r' : List Int} (h : zX r r') : ∀ {vs : List Value} {as : List zV}, zlm r vs as → zlm r' vs as
  | [], [], _ => trivial
  | _ :: _, _ :: _, hv => ⟨hv.1.ex h, hv.2.ex h⟩
def zcm (r : List Int) (c : mCell) (z : zC) : Prop := match z with
  | .inl (t, n, base, es) => ∃ f, c = .inl (t, n, f) ∧ ∀ j, j < n → zak r base es j (f j)
  | .inr (ci, as) => ∃ fs, c = .inr (ci, fs) ∧ zlm r fs as
theorem zcm.ex {r r' : List Int} (h : zX r r') {c : mCell} {z : zC} (hv : zcm r c z) : zcm r' c z := by
  unfold zcm at hv ⊢
  split at hv
  · obtain ⟨f, e, hf⟩ := hv; exact ⟨f, e, fun j hj => (hf j hj).ex h⟩
  · obtain ⟨f, e, hf⟩ := hv; exact ⟨f, e, hf.ex h⟩
abbrev zW : Type := Nat × zT zC 7
def zmm (r : List Int) (mem : mMem) (w : zW) : Prop := mem.length = w.1 ∧ w.1 ≤ 128 ∧ ∀ p, p < w.1 → ∃ c, mem[p]? = some c ∧ zcm r c (ztg 7 w.2 p)
theorem zmm.ex {r r' : List Int} (h : zX r r') {mem : mMem} {w : zW} (hv : zmm r mem w) : zmm r' mem w :=
  ⟨hv.1, hv.2.1, fun p hp => by obtain ⟨c, e, hc⟩ := hv.2.2 p hp; exact ⟨c, e, hc.ex h⟩⟩
/-- a cell is put anew -/
theorem zmm.set {r : List Int} {mem : mMem} {w : zW} (h : zmm r mem w) {a : Nat} (ha : a < w.1) {c : mCell} {z : zC} (hc : zcm r c z) :
    zmm r (mem.set a c) (w.1, zts 7 w.2 a z) := by
  refine ⟨by rw [List.length_set]; exact h.1, h.2.1, ?_⟩
  intro p hp
  have hp : p < w.1 := hp
  have h128 := h.2.1
  have e : ztg 7 (zts 7 w.2 a z) p = if p = a then z else ztg 7 w.2 p := ztg_s 7 w.2 a p z (by omega) (by omega)
  by_cases hpa : p = a
  · subst hpa
    refine ⟨c, ?_, ?_⟩
    · rw [List.getElem?_set_self (by rw [h.1]; exact ha)]
    · show zcm r c (ztg 7 (zts 7 w.2 p z) p)
      rw [e, if_pos rfl]; exact hc
  · obtain ⟨c', e1, e2⟩ := h.2.2 p hp
    refine ⟨c', ?_, ?_⟩
    · rw [List.getElem?_set_ne (fun h => hpa h.symm)]; exact e1
    · show zcm r c' (ztg 7 (zts 7 w.2 a z) p)
      rw [e, if_neg hpa]; exact e2
/-- a cell more -/
theorem zmm.add {r : List Int} {mem : mMem} {w : zW} (h : zmm r mem w) (h8 : w.1 < 128) {c : mCell} {z : zC} (hc : zcm r c z) :
    zmm r (mem ++ [c]) (Nat.succ w.1, zts 7 w.2 w.1 z) := by
  refine ⟨by simp [h.1], h8, ?_⟩
  intro p hp
  have hp : p < Nat.succ w.1 := hp
  have e : ztg 7 (zts 7 w.2 w.1 z) p = if p = w.1 then z else ztg 7 w.2 p := ztg_s 7 w.2 w.1 p z (by omega) (by omega)
  by_cases hpa : p = w.1
  · refine ⟨c, ?_, ?_⟩
    · rw [hpa, ← h.1]; simp
    · show zcm r c (ztg 7 (zts 7 w.2 w.1 z) p)
      rw [e, if_pos hpa]; exact hc
  · obtain ⟨c', e1, e2⟩ := h.2.2 p (by omega)
    refine ⟨c', ?_, ?_⟩
    · rw [List.getElem?_append_left (List.getElem?_eq_some_iff.mp e1).1]; exact e1
    · show zcm r c' (ztg 7 (zts 7 w.2 w.1 z) p)
      rw [e, if_neg hpa]; exact e2
/-- whether two places are one: 0 surely, 1 surely not, 2 who knows -/
def zal (F : zF) (i k : zV) : Nat :=
  bif Nat.beq i.2.1 k.2.1 then (bif zeq i.2.2 k.2.2 then 0 else 1) else
  match zlh F i, zlh F k with
  | some (li, hi), some (lk, hk) => bif zle lk hi && zle li hk then (bif zeq li hi && zeq lk hk then 0 else 2) else 1
  | _, _ => 2
theorem zal_ok {r : List Int} {F : zF} {i k : zV} {x y : Int} (hF : zFok r F) (hx : zd r i = some x) (hy : zd r k = some y) :
    (zal F i k = 0 → x = y) ∧ (zal F i k = 1 → x ≠ y) := by
  unfold zal
  cases c0 : Nat.beq i.2.1 k.2.1 with
  | true =>
    simp only [cond_true]
    obtain ⟨u, hu, hxu⟩ := zd_some.mp hx
    obtain ⟨v, hv, hyv⟩ := zd_some.mp hy
    rw [zbe.mp c0, hv] at hu
    cases hu
    cases c1 : zeq i.2.2 k.2.2 with
    | true =>
      have := zeq_iff.mp c1
      exact ⟨fun _ => by omega, fun h => by cases h⟩
    | false =>
      have : ¬ i.2.2 = k.2.2 := fun e => by rw [zeq_iff.mpr e] at c1; cases c1
      exact ⟨fun h => (by cases h), fun _ => by omega⟩
  | false =>
    simp only [cond_false]
    cases ea : zlh F i with
    | none => exact ⟨fun h => (by cases h), fun h => by cases h⟩
    | some p =>
      cases eb : zlh F k with
      | none => exact ⟨fun h => (by cases h), fun h => by cases h⟩
      | some q =>
        obtain ⟨la, ha⟩ := p
        obtain ⟨lb, hb⟩ := q
        obtain ⟨i1, i2⟩ := zlh_ok hF ea hx
        obtain ⟨j1, j2⟩ := zlh_ok hF eb hy
        simp only
        cases c1 : (zle lb ha && zle la hb) with
        | true =>
          simp only [Bool.and_eq_true, zle_iff] at c1
          simp only [cond_true]
          cases c2 : (zeq la ha && zeq lb hb) with
          | true =>
            simp only [Bool.and_eq_true, zeq_iff] at c2
            exact ⟨fun _ => by omega, fun h => by cases h⟩
          | false => exact ⟨fun h => (by cases h), fun h => by cases h⟩
        | false =>
          refine ⟨fun h => (by cases h), fun _ => ?_⟩
          rintro rfl
          have : (zle lb ha && zle la hb) = true := by
            simp only [Bool.and_eq_true, zle_iff]; omega
          rw [this] at c1
          cases c1
/-- what is known of a place: 0 and it; 1: nothing by itself; 2: who knows -/
def zsc (F : zF) (i : zV) : zN → Nat × zV
  | [] => (1, (0, 0, 0))
  | e :: es => match zal F i e.1 with
    | 0 => (0, e.2)
    | 1 => zsc F i es
    | _ => (2, (0, 0, 0))
theorem zsc_ok {r : List Int} {F : zF} {i : zV} {j : Nat} {base : List zR} {v : Value} (hF : zFok r F) (hi : zd r i = some (j : Int)) : ∀ {es : zN}, zak r base es j v →
    ((zsc F i es).1 = 0 → zvm r v (zsc F i es).2) ∧ ((zsc F i es).1 = 1 → zak r base [] j v)
  | [], h => ⟨fun c => (by cases c), fun _ => h⟩
  | e :: es, h => by
    obtain ⟨k, h1, h2⟩ := h
    obtain ⟨g0, g1⟩ := zal_ok hF hi h1
    unfold zsc
    split
    · rename_i c
      have := g0 c
      rw [if_pos (by omega)] at h2
      exact ⟨fun _ => h2, fun c => by cases c⟩
    · rename_i c
      have := g1 c
      rw [if_neg (by omega)] at h2
      exact zsc_ok hF hi h2
    · exact ⟨fun c => (by cases c), fun c => by cases c⟩
/-- the hull of the ranges from place a to place b -/
def zbh : List zR → Int → Int → Option (Nat × Int × Int)
  | [], _, _ => none
  | q :: l, a, b => bif zle (.ofNat q.1) a then zbh l a b else bif zle (.ofNat (Nat.succ b.toNat)) (.ofNat q.1) then some q.2 else
    match zbh l a b with
    | some p => bif Nat.beq p.1 q.2.1 then some (p.1, zmin p.2.1 q.2.2.1, zmax p.2.2 q.2.2.2) else none
    | none => none
theorem zrm.wk {v : Value} {t : Nat} {l h l' h' : Int} (hv : zrm v t l h) (h1 : l' ≤ l) (h2 : h ≤ h') : zrm v t l' h' := by
  unfold zrm at hv ⊢
  split at hv
  · trivial
  · obtain ⟨x, e, a, b⟩ := hv; exact ⟨x, e, by omega, by omega⟩
  · obtain ⟨x, e, a, b⟩ := hv; exact ⟨x, e, by omega, by omega⟩
  · exact hv
theorem zmin_l (a b : Int) : zmin a b ≤ a ∧ zmin a b ≤ b := zmin_le.mp (Int.le_refl _)
theorem zmax_l (a b : Int) : a ≤ zmax a b ∧ b ≤ zmax a b := zmax_le.mp (Int.le_refl _)
theorem zbh_ok {v : Value} {j : Nat} {a b : Int} (h1 : a ≤ (j : Int)) (h2 : (j : Int) ≤ b) : ∀ {base : List zR} {t t' : Nat} {l h l' h' : Int}, zbh base a b = some (t, l, h) → zba base j = some (t', l', h') → zrm v t' l' h' → zrm v t l h
  | [], _, _, _, _, _, _, hb, _, _ => by cases hb
  | q :: base, t, t', l, h, l', h', hb, hj, hv => by
    unfold zbh at hb
    unfold zba at hj
    cases c1 : zle (.ofNat q.1) a with
    | true =>
      rw [c1] at hb
      have := zle_iff.mp c1
      have e : Nat.ble (Nat.succ j) q.1 = false := by
        rw [← Bool.not_eq_true, Nat.ble_eq]
        simp only [Int.ofNat_eq_natCast] at this
        omega
      rw [e] at hj
      exact zbh_ok h1 h2 hb hj hv
    | false =>
      rw [c1] at hb
      simp only [cond_false] at hb
      cases c2 : zle (.ofNat (Nat.succ b.toNat)) (.ofNat q.1) with
      | true =>
        rw [c2] at hb
        have := zle_iff.mp c2
        have e : Nat.ble (Nat.succ j) q.1 = true := by
          rw [Nat.ble_eq]
          simp only [Int.ofNat_eq_natCast] at this
          omega
        rw [e] at hj
        simp only [cond_true] at hb hj
        rw [hb] at hj
        cases hj
        exact hv
      | false =>
        rw [c2] at hb
        simp only [cond_false] at hb
        cases hp : zbh base a b with
        | none => rw [hp] at hb; cases hb
        | some p =>
          obtain ⟨pt, pl, ph⟩ := p
          rw [hp] at hb
          simp only at hb
          cases c3 : Nat.beq pt q.2.1 with
          | false => rw [c3] at hb; cases hb
          | true =>
            rw [c3] at hb
            simp only [cond_true] at hb
            cases hb
            obtain ⟨m1, m2⟩ := zmin_l pl q.2.2.1
            obtain ⟨m3, m4⟩ := zmax_l ph q.2.2.2
            cases e : Nat.ble (Nat.succ j) q.1 with
            | true =>
              rw [e] at hj
              simp only [cond_true] at hj
              have eq : q.2 = (t', l', h') := Option.some.inj hj
              rw [eq] at m1 m2 m3 m4
              rw [zbe.mp c3, eq]
              exact hv.wk (by simpa [eq] using m2) (by simpa [eq] using m4)
            | false =>
              rw [e] at hj
              exact (zbh_ok h1 h2 hp hj hv).wk m1 m3
