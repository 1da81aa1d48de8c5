/-! THE CHECKER RUNS: all ways from a state to the ends of a method. -/
/-- an end: 0 nothing is returned, 1 a value, 2 a throw (its number stands as the value's symbol) -/
abbrev zU : Type := Nat × zV × zF × zW × Nat × Nat
def zuo (E : mEnv) (r : List Int) (o : zU) (res : mRes) : Prop :=
  zFok r o.2.2.1 ∧ zmm r res.2.1 o.2.2.2.1 ∧ res.2.2.1 ≤ o.2.2.2.2.1 ∧ res.2.2.2 ≤ o.2.2.2.2.2 ∧
  (match o.1 with
  | 0 => res.1 = .inr none
  | 1 => ∃ v, res.1 = .inr (some v) ∧ zvm r v o.2.1
  | _ => res.1 = .inl (E.2.2.2 o.2.1.2.1))
abbrev zK : Type := Nat → List zV → zF → zW → Nat → Nat → Option (List zU)
/-- contracts hold, where this many calls may nest -/
def zCon (E : mEnv) (ro : zQ) (dn : Nat) (con : zK) : Prop :=
  ∀ d mi args F w nc ns L, dn ≤ d → con mi args F w nc ns = some L → ∀ r vs mem nc0 ns0, zRo E r ro → zFok r F → zlm r vs args → zmm r mem w → nc0 ≤ nc → ns0 ≤ ns →
    ∃ n res, mrun E n d mi 0 (lv_args 0 vs) [] mem nc0 ns0 = some res ∧ ∃ o ∈ L, ∃ r', zX r r' ∧ zuo E r' o res
def zsr : List mIns → Bool
  | [] => true
  | q :: l => (match l with
    | [] => true
    | q' :: _ => Nat.ble (Nat.succ q.1) q'.1) && zsr l
theorem zsr_lt {l : List mIns} : ∀ {q : mIns}, zsr (q :: l) = true → ∀ x ∈ l, q.1 < x.1 := by
  induction l with
  | nil => intro q _ x hx; cases hx
  | cons q' l ih =>
    intro q h x hx
    unfold zsr at h
    simp only [Bool.and_eq_true, Nat.ble_eq] at h
    rcases List.mem_cons.mp hx with rfl | hx
    · omega
    · have := ih h.2 x hx; omega
theorem zsr_tl {q : mIns} {l : List mIns} (h : zsr (q :: l) = true) : zsr l = true := by
  unfold zsr at h
  simp only [Bool.and_eq_true] at h
  exact h.2
def zsf (all cur : List mIns) : Prop := ∃ pre, all = pre ++ cur
theorem zsr_find {q : mIns} {tl : List mIns} : ∀ {pre : List mIns}, zsr (pre ++ q :: tl) = true → (pre ++ q :: tl).find? (fun x => x.1 == q.1) = some q
  | [], _ => by rw [List.nil_append, List.find?_cons_of_pos (by simp)]
  | p :: pre, h => by
    have hlt := zsr_lt h q (by simp)
    rw [List.cons_append, List.find?_cons_of_neg (by simp; omega)]
    exact zsr_find (zsr_tl h)
def zfd : List mIns → Nat → Option (mIns × List mIns)
  | [], _ => none
  | q :: l, pc => bif Nat.beq q.1 pc then some (q, l) else zfd l pc
def zft9 (all cur : List mIns) (pc : Nat) : Option (mIns × List mIns) := match cur with
  | [] => zfd all pc
  | q :: l => bif Nat.beq q.1 pc then some (q, l) else zfd all pc
theorem zfd_ok {pc : Nat} {q : mIns} {tl : List mIns} : ∀ {l : List mIns}, zfd l pc = some (q, tl) → q.1 = pc ∧ zsf l (q :: tl)
  | [], h => by cases h
  | p :: l, h => by
    unfold zfd at h
    cases c : Nat.beq p.1 pc with
    | true => rw [c] at h; cases h; exact ⟨zbe.mp c, [], rfl⟩
    | false =>
      rw [c] at h
      obtain ⟨h1, pre, h2⟩ := zfd_ok h
      exact ⟨h1, p :: pre, by rw [h2]; rfl⟩
theorem zft9_ok {all cur : List mIns} {pc : Nat} {q : mIns} {tl : List mIns} (hs : zsr all = true) (hc : zsf all cur) (h : zft9 all cur pc = some (q, tl)) :
    all.find? (fun x => x.1 == pc) = some q ∧ zsf all tl := by
  have key : q.1 = pc ∧ zsf all (q :: tl) := by
    unfold zft9 at h
    split at h
    · exact zfd_ok h
    · rename_i p l
      cases c : Nat.beq p.1 pc with
      | true => rw [c] at h; cases h; exact ⟨zbe.mp c, hc⟩
      | false => rw [c] at h; exact zfd_ok h
  obtain ⟨rfl, pre, e⟩ := key
  refine ⟨?_, pre ++ [q], by rw [e]; simp⟩
  rw [e] at hs ⊢
  exact zsr_find hs
/-- one plain step -/
def zst (ro : zQ) (ft : Nat → List FieldType) (nL : Nat) (q : mIns) (pc : Nat) (ls : zL) (st : List zV) (F : zF) (w : zW) : Option (List zO) :=
  bif zisd q.2.1 then zdf nL q pc ls st F w else bif zisc q.2.1 then zct nL q pc ls st F w else zme ro ft q pc ls st F w
theorem zst_ok {E : mEnv} {r : List Int} {ro : zQ} {nL pc : Nat} {q : mIns} {ls : mLs} {als : zL} {st : List Value} {ast : List zV} {mem : mMem} {F : zF} {w : zW} {L : List zO}
    (hr : zRo E r ro) (hF : zFok r F) (hl : zls r ls als) (hs : zlm r st ast) (hm : zmm r mem w) (h : zst ro E.2.1 nL q pc als ast F w = some L) : zSt E r nL q pc ls st mem L := by
  unfold zst at h
  cases c1 : zisd q.2.1 with
  | true => rw [c1] at h; exact zdf_ok c1 hF hl hs hm h
  | false =>
    rw [c1] at h
    simp only [cond_false] at h
    cases c2 : zisc q.2.1 with
    | true => rw [c2] at h; exact zct_ok hF hl hs hm h
    | false => rw [c2] at h; exact zme_ok hr hF hl hs hm h
/-- all or none -/
def zjn {α : Type} : List (Option (List α)) → Option (List α)
  | [] => some []
  | none :: _ => none
  | some a :: l => match zjn l with
    | some b => some (a ++ b)
    | none => none
theorem zjn_mem {α : Type} : ∀ {l : List (Option (List α))} {L : List α}, zjn l = some L → ∀ x ∈ l, ∃ a, x = some a ∧ ∀ o ∈ a, o ∈ L
  | [], _, _, x, hx => by cases hx
  | none :: _, _, h, _, _ => by cases h
  | some a :: l, L, h, x, hx => by
    unfold zjn at h
    split at h
    · rename_i b e
      cases h
      rcases List.mem_cons.mp hx with rfl | hx
      · exact ⟨a, rfl, fun o ho => List.mem_append_left _ ho⟩
      · obtain ⟨a', e1, e2⟩ := zjn_mem e x hx
        exact ⟨a', e1, fun o ho => List.mem_append_right _ (e2 o ho)⟩
    · cases h
/-- the receiver -/
def zrc (q : mIns) (as : List zV) (w : zW) : Bool := match q.2.1 with
  | .invokevirtual _ => (match as with
    | a :: _ => Nat.beq a.1 2 && Nat.ble (Nat.succ a.2.1) w.1 && (match ztg 7 w.2 a.2.1 with
      | .inr (ci, _) => Nat.beq ci q.2.2.2.2.2.2.toNat
      | .inl _ => false)
    | _ => false)
  | .invokestatic _ => true
  | .invokespecial _ => (match as with
    | a :: _ => Nat.beq a.1 2
    | _ => false)
  | _ => false
theorem zrc_ok {r : List Int} {q : mIns} {vs : List Value} {as : List zV} {mem : mMem} {w : zW} (hl : zlm r vs as) (hm : zmm r mem w) (h : zrc q as w = true) : mrecv q vs mem = true := by
  unfold zrc at h
  unfold mrecv
  split at h
  · rename_i e
    simp only [e]
    split at h
    · rename_i a l
      obtain ⟨v, vs', rfl, hv, -⟩ := zlm_cons hl
      simp only [Bool.and_eq_true, Nat.ble_eq] at h
      obtain ⟨⟨h1, h2⟩, h3⟩ := h
      have ev := zvm_r hv h1
      subst ev
      obtain ⟨c, e1, e2⟩ := hm.2.2 a.2.1 (by omega)
      split at h3
      · rename_i ci fs ez
        rw [ez] at e2
        obtain ⟨fs', rfl, -⟩ := e2
        simp only [e1]
        have := zbe.mp h3
        simp [this]
      · cases h3
    · cases h
  · rename_i e
    simp only [e]
  · rename_i e
    simp only [e]
    split at h
    · rename_i a l
      obtain ⟨v, vs', rfl, hv, -⟩ := zlm_cons hl
      have ev := zvm_r hv h
      subst ev
      rfl
    · cases h
  · cases h
def zex (E : mEnv) (ro : zQ) (dn : Nat) (con : zK) : Nat → Nat → Nat → mMeth → List mIns → Nat → zL → List zV → zF → zW → Nat → Nat → Option (List zU)
  | 0, _, _, _, _, _, _, _, _, _, _, _ => none
  | n + 1, d, mi, M, cur, pc, ls, st, F, w, nc, ns =>
    match zft9 M.2.2.2.2.1 cur pc with
    | none => none
    | some (q, tl) =>
      bif Nat.beq q.2.2.2.1 9 then
        (match d, E.1 q.2.2.2.2.1 with
        | d + 1, some M' =>
          bif Nat.ble q.2.2.2.2.2.1 st.length && znz st && Nat.ble (zcat (st.drop q.2.2.2.2.2.1)) 8 && Nat.ble (zcat (st.take q.2.2.2.2.2.1)) M'.2.2.1 && zrc q (st.take q.2.2.2.2.2.1).reverse w then
            (match (match (bif Nat.ble dn d then con q.2.2.2.2.1 (st.take q.2.2.2.2.2.1).reverse F w nc ns else none) with
              | some L => some L
              | none => zex E ro dn con n d q.2.2.2.2.1 M' M'.2.2.2.2.1 0 (zarg 0 (st.take q.2.2.2.2.2.1).reverse) [] F w nc ns) with
            | none => none
            | some L => zjn (L.map fun o => match o.1 with
              | 0 => zfn (pc + 3) fun p => zex E ro dn con n (d + 1) mi M tl p ls (st.drop q.2.2.2.2.2.1) o.2.2.1 o.2.2.2.1 o.2.2.2.2.1 o.2.2.2.2.2
              | 1 => zfn (pc + 3) fun p => zex E ro dn con n (d + 1) mi M tl p ls (o.2.1 :: st.drop q.2.2.2.2.2.1) o.2.2.1 o.2.2.2.1 o.2.2.2.2.1 o.2.2.2.2.2
              | _ => (match mcatch M pc (E.2.2.2 o.2.1.2.1) with
                | none => bif M.2.2.2.2.2.isEmpty then some [o] else none
                | some (j, pc') => bif Nat.ble (j + 1) M.2.2.1 then zex E ro dn con n (d + 1) mi M tl pc' (zrl (zrp ls j) j) [] o.2.2.1 o.2.2.2.1 o.2.2.2.2.1 o.2.2.2.2.2 else none)))
          else none
        | _, _ => none)
      else bif Nat.beq q.2.2.2.1 8 then
        (bif M.2.2.2.2.2.isEmpty && Nat.ble 8 d && znz st && Nat.ble (zcat st) 8 then some [(2, (0, q.2.2.2.2.1, 0), F, w, nc + 1, ns + 6)] else none)
      else bif Nat.beq q.2.2.2.1 7 then
        (bif Nat.ble 8 d && znz st && Nat.ble (zcat st) 8 then (match zpr q.2.2.2.2.1 st w with
          | some (st', w') => zfn (pc + 3) fun p => zex E ro dn con n d mi M tl p ls st' F w' nc ns
          | none => none) else none)
      else bif Nat.ble 7 q.2.2.2.1 then none else
      match q.2.1 with
      | .return_ => (match st, M.2.2.2.1 with
        | [], none => some [(0, (0, 0, 0), F, w, nc, ns)]
        | _, _ => none)
      | .ireturn => (match st, M.2.2.2.1 with
        | [a], some ty => bif Nat.beq a.1 1 && zft F ty a then some [(1, a, F, w, nc, ns)] else none
        | _, _ => none)
      | .lreturn => (match st, M.2.2.2.1 with
        | [a], some .long => bif Nat.ble 3 a.1 then some [(1, a, F, w, nc, ns)] else none
        | _, _ => none)
      | .new _ => (match zao E.2.1 q st F w with
        | some (k, st', w', ms) => zfn (pc + k) fun p => zfn (nc + 1) fun nc => zfn (ns + ms) fun ns => zex E ro dn con n d mi M tl p ls st' F w' nc ns
        | none => none)
      | .newarray _ => (match zao E.2.1 q st F w with
        | some (k, st', w', ms) => zfn (pc + k) fun p => zfn (nc + 1) fun nc => zfn (ns + ms) fun ns => zex E ro dn con n d mi M tl p ls st' F w' nc ns
        | none => none)
      | _ => (match zst ro E.2.1 M.2.2.1 q pc ls st F w with
        | some L => zjn (L.map fun o => zex E ro dn con n d mi M tl o.1 o.2.1 o.2.2.1 o.2.2.2.1 o.2.2.2.2 nc ns)
        | none => none)
