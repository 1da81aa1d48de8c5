/-! THE SMALL MACHINE AGAINST THE KIT's: what is neither call nor end -/
def mcv1 (ad : Nat → Nat) : Value → Value
  | .ref a => .ref (ad a)
  | v => v
def mtoI : Value → Int32
  | .int x => x
  | _ => 0
def mtoL : Value → Int64
  | .long x => x
  | _ => 0
def mcvC (ad : Nat → Nat) (cid : Nat → ClassId) : mCell → va_E
  | .inl (0, n, f) => .inl (cid 0, n, .inl (fun j => mtoI (f j)))
  | .inl (1, n, f) => .inl (cid 1, n, .inr (.inl (fun j => mtoL (f j))))
  | .inl (_, n, f) => .inl (cid 2, n, .inl (fun j => mtoI (f j)))
  | .inr (ci, fs) => .inr (ci, fs.map (mcv1 ad))
def mws (ad : Nat → Nat) (cid : Nat → ClassId) (mem : mMem) : va_W := mem.mapIdx (fun k c => (ad k, mcvC ad cid c))
def mtys (cid : Nat → ClassId) : List (ClassId × FieldType) := [(cid 0, .int), (cid 1, .long), (cid 2, .byte)]
def mcvL (ad : Nat → Nat) (ls : mLs) : mLs := ls.map (fun q => (q.1, mcv1 ad q.2))
theorem mcv1_cat (ad : Nat → Nat) (v : Value) : (mcv1 ad v).category = v.category := by cases v <;> rfl
theorem mws_get {ad : Nat → Nat} {cid : Nat → ClassId} {mem : mMem} {a : Nat} {c : mCell} (h : mem[a]? = some c) : (mws ad cid mem)[a]? = some (ad a, mcvC ad cid c) := by
  simp [mws, List.getElem?_mapIdx, h]
theorem mws_set {ad : Nat → Nat} {cid : Nat → ClassId} {mem : mMem} {a : Nat} {c : mCell} : mws ad cid (mem.set a c) = (mws ad cid mem).set a (ad a, mcvC ad cid c) := by
  apply List.ext_getElem?
  intro k
  simp only [mws, List.getElem?_mapIdx, List.getElem?_set, List.length_mapIdx]
  by_cases h : a = k
  · subst h
    by_cases h2 : a < mem.length <;> simp [h2]
  · simp [h]
theorem mld_get {ad : Nat → Nat} {ls : mLs} {j : Nat} {v : Value} (h : mld ls j = some v) : ∃ k : Nat, (mcvL ad ls)[k]? = some (j, mcv1 ad v) := by
  induction ls with
  | nil => simp [mld] at h
  | cons q l ih =>
    unfold mld at h
    split at h
    · rename_i e
      cases h
      exact ⟨0, by simp [mcvL, e]⟩
    · obtain ⟨k, hk⟩ := ih h
      exact ⟨k + 1, by simpa [mcvL] using hk⟩
theorem mcvL_filter {ad : Nat → Nat} {ls : mLs} (p : Nat → Nat → Bool) : mcvL ad (ls.filter (fun q => p q.1 q.2.category)) = (mcvL ad ls).filter (fun q => p q.1 q.2.category) := by
  simp only [mcvL, List.filter_map]
  congr 1
  apply List.filter_congr
  intro q _
  simp [Function.comp, mcv1_cat]
theorem mst1_cv {ad : Nat → Nat} {ls : mLs} {i : Nat} {v : Value} : mcvL ad (mst1 ls i v) = (i, mcv1 ad v) :: (mcvL ad ls).filter (fun q => !(q.1 == i) && !(q.1 + 1 == i && q.2.category == 2)) := by
  have h := mcvL_filter (ad := ad) (ls := ls) (fun x c => !(x == i) && !(x + 1 == i && c == 2))
  simp only [mst1, mcvL, List.map_cons] at h ⊢
  rw [h]
theorem mst2_cv {ad : Nat → Nat} {ls : mLs} {i : Nat} {v : Value} : mcvL ad (mst2 ls i v) = (i, mcv1 ad v) :: (mcvL ad ls).filter (fun q => !(q.1 == i) && (!(q.1 == i + 1) && !(q.1 + 1 == i && q.2.category == 2))) := by
  have h := mcvL_filter (ad := ad) (ls := ls) (fun x c => !(x == i) && (!(x == i + 1) && !(x + 1 == i && c == 2)))
  simp only [mst2, mcvL, List.map_cons] at h ⊢
  rw [h]
theorem mtgt_of {pc t : Nat} {off : Int} (h : mtgt pc off = some t) : (pc : Int) + off = (t : Int) := by
  unfold mtgt at h
  split at h
  · cases h
    omega
  · cases h
theorem mIn_of {i : Int32} {n : Nat} (h : mIn i n = true) : vp_in i n := by
  simp only [mIn, Bool.not_eq_true', Bool.or_eq_false_iff, decide_eq_false_iff_not] at h
  exact fun q => q.elim h.1 h.2
theorem mtoI_up {f : Nat → Value} {k : Nat} {x : Int32} : (fun j => mtoI (mup f k (.int x) j)) = upd (fun j => mtoI (f j)) k x := by
  funext j
  by_cases h : j = k <;> simp [mup, upd, h, mtoI]
theorem mtoL_up {f : Nat → Value} {k : Nat} {x : Int64} : (fun j => mtoL (mup f k (.long x) j)) = vp_updL (fun j => mtoL (f j)) k x := by
  funext j
  by_cases h : j = k <;> simp [mup, vp_updL, h, mtoL]
/-- what a proof needs of its world: statics, texts, nest words -/
abbrev mTkP : Type := List (String × String × String × Value) × List (String × Nat × String × Nat) × List (String × Nat × MethodName × String)
def mTk (ad : Nat → Nat) (A : Nat → Prop) (E : mEnv) (X : mTkP) (U : State) (H : Heap) : Prop :=
  (∀ z ∈ X.1, va_Z z.1 z.2.1 z.2.2.1 (mcv1 ad z.2.2.2) A U H) ∧
  (∀ a t n f, 1000 ≤ a → E.2.2.1 a = some (t, n, f) → t < 3 → va_T (mTy t) (ad a) n f A U H) ∧
  (∀ r ∈ X.2.1, vk_R r.1 r.2.1 r.2.2.1 (ad r.2.2.2) U) ∧
  (∀ w ∈ X.2.2, va_Nw (.methodLinkNest w.1 w.2.1 w.2.2.1 w.2.2.2) U) ∧
  vx_Zq Bundle.tN "UNASSIGNED_STACK" Bundle.steD A U H ∧ vx_Zq Bundle.tN "SUPPRESSED_SENTINEL" Bundle.listD A U H
