def mRm (d mc ms : Nat) : Room := { frames := d, cells := mc, slots := ms, locals := 40 * d }
def mWd (D : va_G) (cl : List vw_C) (cid : Nat → ClassId) (A : Nat → Prop) (E : mEnv) (X : mTkP) (ad : Nat → Nat) (mem : mMem) (U : State) : Prop :=
  va_P D cl (mws ad cid mem) U.heap ∧ va_K D cl (mtys cid) U ∧ va_D A (mws ad cid mem) ∧ mTk ad A E X U U.heap ∧ ∀ q, U.heap.size ≤ q → A q
def mOut (D : va_G) (cl : List vw_C) (cid : Nat → ClassId) (A : Nat → Prop) (n0 : Nat) (ad0 : Nat → Nat) (mem : mMem) (st t : State) (ad : Nat → Nat) : Prop :=
  mAg n0 ad0 ad ∧ va_P D cl (mws ad cid mem) t.heap ∧ va_D A (mws ad cid mem) ∧ va_F A st t
def mQc (D : va_G) (cl : List vw_C) (cid : Nat → ClassId) (A : Nat → Prop) (n0 : Nat) (ad0 : Nat → Nat) (r : mRes) : Array Value → State → Outcome → State → Prop :=
  fun _ st o t => ∃ (v : Option Value) (ad : Nat → Nat), r.1 = .inr v ∧ o = .returned (v.map (mcv1 ad)) ∧ mOut D cl cid A n0 ad0 r.2.1 st t ad
def mXc (D : va_G) (cl : List vw_C) (cid : Nat → ClassId) (A : Nat → Prop) (n0 : Nat) (ad0 : Nat → Nat) (r : mRes) : String → State → State → Prop :=
  fun x st t => ∃ ad : Nat → Nat, r.1 = .inl x ∧ mOut D cl cid A n0 ad0 r.2.1 st t ad
/-- the frame of a method -/
def mCx (p : Program) (R : Room) (s : State) (m : MethodId) (args : Array Value) (meth : Method) (c : Code) (E : mEnv) (G : List Cond) (cl : List vw_C) (X : mTkP) (D : va_G) (cid : Nat → ClassId) (A : Nat → Prop) (ad0 : Nat → Nat) (M : mMeth) (d mc ms : Nat) : Prop :=
  p.tables.exec = Jvm.exec ∧ c.code = M.2.1 ∧ c.maxLocals = M.2.2.1 ∧ s.vm.findClass M.1.cls = some m.cls ∧ (∀ w ∈ G, w.before args s = true) ∧ meth.locks = false ∧ meth.sig.returnType = M.2.2.2.1 ∧
  c.exceptionTable.toList = tableOf (mHh M) ∧ meth.name = M.1.name ∧ R = mRm d mc ms ∧ va_K D cl (mtys cid) s ∧ (∀ q, s.heap.size ≤ q → A q) ∧ mTk ad0 A E X s s.heap
/-- the texts' length() and charAt(): what the kit's machine does at such a call -/
def mStrOk (l : Launch) (E : mEnv) (G : List Cond) (cl : List vw_C) (X : mTkP) : Prop :=
  ∀ (p : Program) (e : Env) (R : Room) (s : State) (m : MethodId) (args : Array Value) (below : List Frame) (meth : Method) (c : Code) (H : Heap) (locs : List Loc) (cells slots : Nat) (Q : State → Prop) (D : va_G) (cid : Nat → ClassId) (A : Nat → Prop) (ad0 ad : Nat → Nat) (M : mMeth) (mi d mc ms n0 : Nat) (q : mIns) (lsA : Array Slot) (st st' : List Value) (mem mem' : mMem),
    E.1 mi = some M → q ∈ M.2.2.2.2.1 → q.2.2.2.1 = 7 → (q.2.2.2.2.1 = 2 ∨ q.2.2.2.2.1 = 3) → mCx p R s m args meth c E G cl X D cid A ad0 M d mc ms → mAg n0 ad0 ad → va_S A s.heap H locs → lsA.size = M.2.2.1 → 8 ≤ d → mcat st ≤ 8 → cells ≤ mc → slots ≤ ms →
    mprim E q.2.2.2.2.1 st mem = some (st', mem') → W p l e R s m args below meth c H locs cells slots Q (F0 m (q.1 + 3) lsA (st'.map (mcv1 ad))) → W p l e R s m args below meth c H locs cells slots Q (F0 m q.1 lsA (st.map (mcv1 ad)))
/-- what a run of the small machine says of the kit's -/
def mSnd (l : Launch) (E : mEnv) (G : List Cond) (cl : List vw_C) (X : mTkP) (n : Nat) : Prop :=
  ∀ (d mi pc : Nat) (ls : mLs) (st : List Value) (mem : mMem) (nc ns : Nat) (r : mRes), mrun E n d mi pc ls st mem nc ns = some r → mwf ls st mem →
  ∀ (M : mMeth), E.1 mi = some M →
  ∀ (p : Program) (e : Env) (R : Room) (s : State) (m : MethodId) (args : Array Value) (below : List Frame) (meth : Method) (c : Code) (H : Heap) (locs : List Loc) (cells slots : Nat) (D : va_G) (cid : Nat → ClassId) (A : Nat → Prop) (ad0 ad : Nat → Nat) (mc ms n0 nc0 ns0 : Nat) (lsA : Array Slot),
    mCx p R s m args meth c E G cl X D cid A ad0 M d mc ms → mAg n0 ad0 ad → n0 ≤ mem.length → va_P D cl (mws ad cid mem) H → va_D A (mws ad cid mem) → va_S A s.heap H locs → lv_has lsA M.2.2.1 (mcvL ad ls) →
    nc = nc0 + cells → ns = ns0 + slots → r.2.2.1 = nc0 + mc → r.2.2.2 = ns0 + ms →
    W p l e R s m args below meth c H locs cells slots (vx_MQ below (mQc D cl cid A n0 ad0 r) (mXc D cl cid A n0 ad0 r) args s mc ms A) (F0 m pc lsA (st.map (mcv1 ad)))
theorem mlv_args (ad : Nat → Nat) (vs : List Value) : ∀ k, mcvL ad (lv_args k vs) = lv_args k (vs.map (mcv1 ad)) := by
  induction vs with
  | nil => intro k; rfl
  | cons v r ih =>
    intro k
    show (k, mcv1 ad v) :: mcvL ad (lv_args _ r) = (k, mcv1 ad v) :: lv_args (if (mcv1 ad v).category = 2 then k + 2 else k + 1) (r.map (mcv1 ad))
    rw [mcv1_cat, ih]
theorem msl_len (vs : List Value) : (lg_sl vs).length = mcat vs := by
  induction vs with
  | nil => rfl
  | cons v r ih =>
    have e : lg_sl (v :: r) = (if v.category = 2 then [.val v, .second] else [.val v]) ++ lg_sl r := by simp [lg_sl]
    rw [e, List.length_append, ih]
    have h2 : mcat (v :: r) = v.category + mcat r := by simp [mcat]
    rw [h2]
    rcases lv_cat v with h | h <;> simp [h]
theorem mcat_rev (vs : List Value) : mcat vs.reverse = mcat vs := by simp [mcat]
theorem mcat_map (ad : Nat → Nat) (st : List Value) : mcat (st.map (mcv1 ad)) = mcat st := mcat_cv ad st
theorem mF_of {A : Nat → Prop} {s t : State} {H : Heap} {locs : List Loc} (hS : va_S A s.heap H locs) (ht : t.heap = H) : va_F A s t := by
  unfold va_F
  rw [ht]
  exact ⟨hS.1, hS.2.1⟩
/-- the contract of a method at given values and memory -/
theorem mMet {l : Launch} {E : mEnv} {G : List Cond} {cl : List vw_C} {X : mTkP} (hg : mGlob E G cl X) {n : Nat} (ih : mSnd l E G cl X n) {d mi : Nat} {M : mMeth} (hM : E.1 mi = some M) {vs : List Value} {mem : mMem} {nc ns : Nat} {r : mRes}
    (h : mrun E n d mi 0 (lv_args 0 vs) [] mem nc ns = some r) (hw : mwfM mem.length mem) (hv : ∀ v ∈ vs, mrok mem.length v) (hcat : mcat vs ≤ M.2.2.1) (D : va_G) (cid : Nat → ClassId) (A : Nat → Prop) (ad : Nat → Nat) :
    vx_Met l M.1 (mWord M :: G) (mRm d (r.2.2.1 - nc) (r.2.2.2 - ns)) (va_Pc (vs.map (mcv1 ad)) (mWd D cl cid A E X ad mem)) (mQc D cl cid A mem.length ad r) (mXc D cl cid A mem.length ad r) (r.2.2.1 - nc) (r.2.2.2 - ns) A := by
  have hwf : mwf (lv_args 0 vs) [] mem := ⟨lvargs_wf hv 0, (fun v hv => by cases hv), hw⟩
  obtain ⟨z1, z2, -⟩ := mrun_wf hg n d mi 0 _ _ mem nc ns r h hwf
  obtain ⟨g1, -, g3, g4, g5, -⟩ := hg.2.2.2.2.2 mi M hM
  have body : ∀ (p : Program) (e : Env) (s : State) (m : MethodId) (args : Array Value) (below : List Frame) (meth : Method) (c : Code) (s₁ : State), BodyLoose p l M.1 (headSpec (mWord M :: G) (mRm d (r.2.2.1 - nc) (r.2.2.2 - ns))) M.2.1 M.2.2.1 M.2.2.2.1 e s m args below meth c s₁ → c.maxLocals = M.2.2.1 → c.exceptionTable.toList = tableOf (mHh M) → va_Pc (vs.map (mcv1 ad)) (mWd D cl cid A E X ad mem) args s →
      W p l e (mRm d (r.2.2.1 - nc) (r.2.2.2 - ns)) s m args below meth c s.heap [] 0 0 (vx_MQ below (mQc D cl cid A mem.length ad r) (mXc D cl cid A mem.length ad r) args s (r.2.2.1 - nc) (r.2.2.2 - ns) A) (entryFrame m args M.2.2.1) := by
    intro p e s m args below meth c s₁ B hml htab hP
    obtain ⟨rfl, hP, hK, hD, hT, hA⟩ := hP
    have hG0 : ∀ w ∈ mWord M :: G, w.before (vs.map (mcv1 ad)).toArray s = true := atoms_spec (ws := mWord M :: G) B.pre
    rw [lg_entry_eq]
    have hlen : (lg_sl (vs.map (mcv1 ad))).length ≤ M.2.2.1 := by rw [msl_len, mcat_map]; exact hcat
    have hl := lv_entry (vs.map (mcv1 ad)) hlen
    generalize (lg_sl (vs.map (mcv1 ad)) ++ List.replicate (M.2.2.1 - (lg_sl (vs.map (mcv1 ad))).length) Slot.unset).toArray = lsA at hl ⊢
    rw [← mlv_args] at hl
    exact ih d mi 0 _ [] mem nc ns r h hwf M hM p e _ s m _ below meth c s.heap [] 0 0 D cid A ad ad _ _ mem.length nc ns lsA
      ⟨B.exec, B.bytes, hml, findClass_of_methodNamed B.named, fun w hw => hG0 w (List.mem_cons_of_mem _ hw), B.notSynchronized, B.returns, htab, (name_of_methodNamed B.named B.method).1, rfl, hK, hA, hT⟩
      (fun a _ => rfl) (Nat.le_refl _) hP hD va_S.rf hl rfl rfl (by omega) (by omega)
  by_cases hh : M.2.2.2.2.2.isEmpty = true
  · have e : mWord M = .code M.1 M.2.1 M.2.2.1 M.2.2.2.1 := by unfold mWord; rw [if_pos hh]
    have e2 : mHh M = [] := by unfold mHh; rw [List.isEmpty_iff.mp hh]; rfl
    refine vx_ofW (cc := M.2.1) (maxL := M.2.2.1) (ret := M.2.2.2.1) g1 (by rw [e]) ?_
    intro p e s m args below meth c s₁ B hml ht hP
    refine body p e s m args below meth c s₁ B hml ?_ hP
    rw [e2]
    cases hz : c.exceptionTable.toList with
    | nil => rfl
    | cons x y => exact (ht x (by rw [hz]; exact List.mem_cons_self)).elim
  · have e : mWord M = .codeWith M.1 M.2.1 M.2.2.1 M.2.2.2.1 (mHh M) := by unfold mWord; rw [if_neg hh]
    refine vx_ofWH (cc := M.2.1) (maxL := M.2.2.1) (ret := M.2.2.2.1) (hh := mHh M) g1 (by rw [e]) ?_
    intro p e9 s m args below meth c s₁ B hml hP
    have hG0 : ∀ w ∈ mWord M :: G, w.before args s = true := atoms_spec (ws := mWord M :: G) B.pre
    have h0 := hG0 _ List.mem_cons_self
    rw [e] at h0
    exact body p e9 s m args below meth c s₁ B hml (vx_table (x := M.1) B h0) hP
