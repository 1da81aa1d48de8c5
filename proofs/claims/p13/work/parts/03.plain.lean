/-! THE SMALL MACHINE AGAINST THE KIT's: what is neither call nor end -/
def mcv1 (ad : Nat → Nat) : Value → Value
  | .ref a => .ref (ad a)
  | v => v
def mtoI : Value → Int32
  | .int x => x
  | _ => 0
def mtoL : Value → Int64
  | .long x => x
  | _ => 0
def mcvC (ad : Nat → Nat) (cid : Nat → ClassId) : mCell → va_E
  | .inl (0, n, f) => .inl (cid 0, n, .inl (fun j => mtoI (f j)))
  | .inl (1, n, f) => .inl (cid 1, n, .inr (.inl (fun j => mtoL (f j))))
  | .inl (_, n, f) => .inl (cid 2, n, .inl (fun j => mtoI (f j)))
  | .inr (ci, fs) => .inr (ci, fs.map (mcv1 ad))
def mws (ad : Nat → Nat) (cid : Nat → ClassId) (mem : mMem) : va_W := mem.mapIdx (fun k c => (ad k, mcvC ad cid c))
def mtys (cid : Nat → ClassId) : List (ClassId × FieldType) := [(cid 0, .int), (cid 1, .long), (cid 2, .byte)]
def mcvL (ad : Nat → Nat) (ls : mLs) : mLs := ls.map (fun q => (q.1, mcv1 ad q.2))
theorem mcv1_cat (ad : Nat → Nat) (v : Value) : (mcv1 ad v).category = v.category := by cases v <;> rfl
theorem mws_get {ad : Nat → Nat} {cid : Nat → ClassId} {mem : mMem} {a : Nat} {c : mCell} (h : mem[a]? = some c) : (mws ad cid mem)[a]? = some (ad a, mcvC ad cid c) := by
  simp [mws, List.getElem?_mapIdx, h]
theorem mws_set {ad : Nat → Nat} {cid : Nat → ClassId} {mem : mMem} {a : Nat} {c : mCell} : mws ad cid (mem.set a c) = (mws ad cid mem).set a (ad a, mcvC ad cid c) := by
  apply List.ext_getElem?
  intro k
  simp only [mws, List.getElem?_mapIdx, List.getElem?_set, List.length_mapIdx]
  by_cases h : a = k
  · subst h
    by_cases h2 : a < mem.length <;> simp [h2]
  · simp [h]
theorem mld_get {ad : Nat → Nat} {ls : mLs} {j : Nat} {v : Value} (h : mld ls j = some v) : ∃ k : Nat, (mcvL ad ls)[k]? = some (j, mcv1 ad v) := by
  induction ls with
  | nil => simp [mld] at h
  | cons q l ih =>
    unfold mld at h
    split at h
    · rename_i e
      cases h
      exact ⟨0, by simp [mcvL, e]⟩
    · obtain ⟨k, hk⟩ := ih h
      exact ⟨k + 1, by simpa [mcvL] using hk⟩
theorem mcvL_filter {ad : Nat → Nat} {ls : mLs} (p : Nat → Nat → Bool) : mcvL ad (ls.filter (fun q => p q.1 q.2.category)) = (mcvL ad ls).filter (fun q => p q.1 q.2.category) := by
  simp only [mcvL, List.filter_map]
  congr 1
  apply List.filter_congr
  intro q _
  simp [Function.comp, mcv1_cat]
theorem mst1_cv {ad : Nat → Nat} {ls : mLs} {i : Nat} {v : Value} : mcvL ad (mst1 ls i v) = (i, mcv1 ad v) :: (mcvL ad ls).filter (fun q => !(q.1 == i) && !(q.1 + 1 == i && q.2.category == 2)) := by
  have h := mcvL_filter (ad := ad) (ls := ls) (fun x c => !(x == i) && !(x + 1 == i && c == 2))
  simp only [mst1, mcvL, List.map_cons] at h ⊢
  rw [h]
theorem mst2_cv {ad : Nat → Nat} {ls : mLs} {i : Nat} {v : Value} : mcvL ad (mst2 ls i v) = (i, mcv1 ad v) :: (mcvL ad ls).filter (fun q => !(q.1 == i) && (!(q.1 == i + 1) && !(q.1 + 1 == i && q.2.category == 2))) := by
  have h := mcvL_filter (ad := ad) (ls := ls) (fun x c => !(x == i) && (!(x == i + 1) && !(x + 1 == i && c == 2)))
  simp only [mst2, mcvL, List.map_cons] at h ⊢
  rw [h]
theorem mtgt_of {pc t : Nat} {off : Int} (h : mtgt pc off = some t) : (pc : Int) + off = (t : Int) := by
  unfold mtgt at h
  split at h
  · cases h
    omega
  · cases h
theorem mIn_of {i : Int32} {n : Nat} (h : mIn i n = true) : vp_in i n := by
  simp only [mIn, Bool.not_eq_true', Bool.or_eq_false_iff, decide_eq_false_iff_not] at h
  exact fun q => q.elim h.1 h.2
theorem mtoI_up {f : Nat → Value} {k : Nat} {x : Int32} : (fun j => mtoI (mup f k (.int x) j)) = upd (fun j => mtoI (f j)) k x := by
  funext j
  by_cases h : j = k <;> simp [mup, upd, h, mtoI]
theorem mtoL_up {f : Nat → Value} {k : Nat} {x : Int64} : (fun j => mtoL (mup f k (.long x) j)) = vp_updL (fun j => mtoL (f j)) k x := by
  funext j
  by_cases h : j = k <;> simp [mup, vp_updL, h, mtoL]
/-- a text constant: its bytes are letters below 128 -/
def vStr (q n : Nat) (f : Nat → Value) (A : Nat → Prop) (U : State) (H : Heap) : Prop :=
  n < 2147483648 ∧ (∀ j, j < n → ∃ x : Int32, f j = .int x ∧ 0 ≤ x.toInt ∧ x.toInt < 128) ∧ va_O "java/lang/String" q A U H ∧ va_OF "java/lang/String" "coder" "B" (.int 0) q A U H ∧ (∃ v : Nat, va_OF "java/lang/String" "value" "[B" (.ref v) q A U H ∧ va_T .byte v n f A U H) ∧
  va_Z "java/lang/String" "COMPACT_STRINGS" "Z" (.int 1) A U H ∧ va_Zq "jdk/internal/util/Preconditions" "SIOOBE_FORMATTER" "Ljava/util/function/BiFunction;" A U H
theorem vStr.moved {q n : Nat} {f : Nat → Value} {A : Nat → Prop} {u U : State} {H : Heap} (hvm : u.vm.Alike U.vm) (h : vStr q n f A u H) : vStr q n f A U H := by
  obtain ⟨h1, h2, h3, h4, ⟨v, h5, h6⟩, h7, h8⟩ := h
  exact ⟨h1, h2, va_O.moved hvm h3, va_OF.moved hvm h4, ⟨v, va_OF.moved hvm h5, va_T.moved hvm h6⟩, va_Z.moved hvm h7, va_Zq.moved hvm h8⟩
theorem vStr.kept {q n : Nat} {f : Nat → Value} {A : Nat → Prop} {U : State} {H H1 : Heap} (h : vStr q n f A U H) (hq : ∀ a : Nat, a < H.size → ¬ A a → H1[a]? = H[a]?) : vStr q n f A U H1 := by
  obtain ⟨h1, h2, h3, h4, ⟨v, h5, h6⟩, h7, h8⟩ := h
  exact ⟨h1, h2, h3.kept hq, h4.kept hq, ⟨v, h5.kept hq, h6.kept hq⟩, h7.kept hq, h8.kept hq⟩
theorem vStr.narrow {q n : Nat} {f : Nat → Value} {A B : Nat → Prop} {U : State} {H : Heap} (h : vStr q n f A U H) (hAB : ∀ q, B q → A q) : vStr q n f B U H := by
  obtain ⟨h1, h2, h3, h4, ⟨v, h5, h6⟩, h7, h8⟩ := h
  exact ⟨h1, h2, h3.narrow hAB, h4.narrow hAB, ⟨v, h5.narrow hAB, h6.narrow hAB⟩, h7.narrow hAB, h8.narrow hAB⟩
/-- what is known of a read-only array, of a text -/
def mTa (t q n : Nat) (f : Nat → Value) (A : Nat → Prop) (U : State) (H : Heap) : Prop := (t < 3 → va_T (mTy t) q n f A U H) ∧ (t = 3 → vStr q n f A U H)
/-- what a proof needs of its world: statics, texts, words that no list carries, classes that aren't castable -/
abbrev mTkP : Type := List (String × String × String × Value) × List (String × Nat × String × Nat) × List Cond × List (String × String)
def mTk (ad : Nat → Nat) (A : Nat → Prop) (E : mEnv) (X : mTkP) (U : State) (H : Heap) : Prop :=
  (∀ z ∈ X.1, va_Z z.1 z.2.1 z.2.2.1 (mcv1 ad z.2.2.2) A U H) ∧
  (∀ a t n f, 1000 ≤ a → E.2.2.1 a = some (t, n, f) → mTa t (ad a) n f A U H) ∧
  (∀ r ∈ X.2.1, vk_R r.1 r.2.1 r.2.2.1 (ad r.2.2.2) U) ∧
  (∀ w ∈ X.2.2.1, va_Nw w U) ∧
  (∀ w ∈ X.2.2.2, va_Nc w.1 w.2 U) ∧
  vx_Zq Bundle.tN "UNASSIGNED_STACK" Bundle.steD A U H ∧ vx_Zq Bundle.tN "SUPPRESSED_SENTINEL" Bundle.listD A U H
/-- a word that stays in warmer tables -/
def mWk (w : Cond) : Prop := w.onTables = true ∧ ∀ s U : State, s.WarmedH U.vm → va_Nw w s → va_Nw w U
theorem mTk.warm {ad : Nat → Nat} {A : Nat → Prop} {E : mEnv} {X : mTkP} {s U : State} {H : Heap} (hX : ∀ w ∈ X.2.2.1, mWk w) (hW : s.WarmedH U.vm) (h : mTk ad A E X s H) : mTk ad A E X U H := by
  obtain ⟨h1, h2, h3, h4, h5, h6, h7⟩ := h
  exact ⟨fun z hz => (h1 z hz).moved hW.alike, fun a t n f ha he => ⟨fun ht => ((h2 a t n f ha he).1 ht).moved hW.alike, fun ht => ((h2 a t n f ha he).2 ht).moved hW.alike⟩, fun r hr => (h3 r hr).warm hW, fun w hw => (hX w hw).2 s U hW (h4 w hw), fun w hw => va_Nc.moved hW.alike (h5 w hw), h6.moved hW.alike, h7.moved hW.alike⟩
theorem mTk.kept {ad : Nat → Nat} {A : Nat → Prop} {E : mEnv} {X : mTkP} {U : State} {H H1 : Heap} (h : mTk ad A E X U H) (hq : ∀ a : Nat, a < H.size → ¬ A a → H1[a]? = H[a]?) : mTk ad A E X U H1 := by
  obtain ⟨h1, h2, h3, h4, h5, h6, h7⟩ := h
  exact ⟨fun z hz => (h1 z hz).kept hq, fun a t n f ha he => ⟨fun ht => ((h2 a t n f ha he).1 ht).kept hq, fun ht => ((h2 a t n f ha he).2 ht).kept hq⟩, h3, h4, h5, h6.kept hq, h7.kept hq⟩
/-- the addresses of old things and of what is read only stay -/
def mAg (n : Nat) (ad ad' : Nat → Nat) : Prop := ∀ a, (a < n ∨ 1000 ≤ a) → ad' a = ad a
theorem mAg.trans {n n' : Nat} {a b c : Nat → Nat} (h1 : mAg n a b) (h2 : mAg n' b c) (hn : n ≤ n') : mAg n a c := fun x hx => (h2 x (by omega)).trans (h1 x hx)
theorem mTk.ag {n : Nat} {ad ad' : Nat → Nat} {A : Nat → Prop} {E : mEnv} {X : mTkP} {U : State} {H : Heap} (hz : ∀ z ∈ X.1, ∀ a, z.2.2.2 = .ref a → 1000 ≤ a) (hr : ∀ r ∈ X.2.1, 1000 ≤ r.2.2.2) (hA : mAg n ad ad') (h : mTk ad A E X U H) : mTk ad' A E X U H := by
  obtain ⟨h1, h2, h3, h4, h5, h6, h7⟩ := h
  refine ⟨fun z hz9 => ?_, fun a t n9 f ha he => ?_, fun r hr9 => ?_, h4, h5, h6, h7⟩
  · have e : mcv1 ad' z.2.2.2 = mcv1 ad z.2.2.2 := by
      cases hv : z.2.2.2 with
      | ref a => show Value.ref (ad' a) = Value.ref (ad a); rw [hA a (Or.inr (hz z hz9 a hv))]
      | _ => rfl
    rw [e]
    exact h1 z hz9
  · rw [hA a (Or.inr ha)]
    exact h2 a t n9 f ha he
  · rw [hA _ (Or.inr (hr r hr9))]
    exact h3 r hr9
/-- references that are there -/
def mrok (n : Nat) (v : Value) : Prop := ∀ a, v = .ref a → a < n ∨ 1000 ≤ a
theorem mcv1_ag {n : Nat} {ad ad' : Nat → Nat} {v : Value} (hA : mAg n ad ad') (h : mrok n v) : mcv1 ad' v = mcv1 ad v := by
  cases v with
  | ref a => show Value.ref (ad' a) = Value.ref (ad a); rw [hA a (h a rfl)]
  | _ => rfl
theorem mrok.mono {n n' : Nat} {v : Value} (h : mrok n v) (hn : n ≤ n') : mrok n' v := fun a e => (h a e).elim (fun q => Or.inl (Nat.lt_of_lt_of_le q hn)) Or.inr
def mwfM (n : Nat) (mem : mMem) : Prop := ∀ (k ci : Nat) (fs : List Value), mem[k]? = some (.inr (ci, fs)) → ∀ v ∈ fs, mrok n v
def mwf (ls : mLs) (st : List Value) (mem : mMem) : Prop := (∀ q ∈ ls, mrok mem.length q.2) ∧ (∀ v ∈ st, mrok mem.length v) ∧ mwfM mem.length mem
theorem mcvC_ag {n : Nat} {ad ad' : Nat → Nat} {cid : Nat → ClassId} {c : mCell} (hA : mAg n ad ad') (h : ∀ ci fs, c = .inr (ci, fs) → ∀ v ∈ fs, mrok n v) : mcvC ad' cid c = mcvC ad cid c := by
  cases c with
  | inl x =>
    obtain ⟨t, N, f⟩ := x
    match t with
    | 0 => rfl
    | 1 => rfl
    | _ + 2 => rfl
  | inr o =>
    obtain ⟨ci, fs⟩ := o
    have e : fs.map (mcv1 ad') = fs.map (mcv1 ad) := List.map_congr_left fun v hv => mcv1_ag hA (h ci fs rfl v hv)
    show (Sum.inr (ci, fs.map (mcv1 ad')) : va_E) = .inr (ci, fs.map (mcv1 ad))
    rw [e]
theorem mws_ag {ad ad' : Nat → Nat} {cid : Nat → ClassId} {mem : mMem} (hA : mAg mem.length ad ad') (h : mwfM mem.length mem) : mws ad' cid mem = mws ad cid mem := by
  apply List.ext_getElem?
  intro k
  simp only [mws, List.getElem?_mapIdx]
  cases hk : mem[k]? with
  | none => rfl
  | some c =>
    have hl : k < mem.length := (List.getElem?_eq_some_iff.mp hk).1
    show some (ad' k, mcvC ad' cid c) = some (ad k, mcvC ad cid c)
    rw [hA k (Or.inl hl), mcvC_ag hA (fun ci fs e => h k ci fs (by rw [hk, e]))]
theorem mcvL_ag {n : Nat} {ad ad' : Nat → Nat} {ls : mLs} (hA : mAg n ad ad') (h : ∀ q ∈ ls, mrok n q.2) : mcvL ad' ls = mcvL ad ls := List.map_congr_left fun q hq => by rw [mcv1_ag hA (h q hq)]
theorem mcvS_ag {n : Nat} {ad ad' : Nat → Nat} {st : List Value} (hA : mAg n ad ad') (h : ∀ v ∈ st, mrok n v) : st.map (mcv1 ad') = st.map (mcv1 ad) := List.map_congr_left fun v hv => mcv1_ag hA (h v hv)
