def mHh (M : mMeth) : List (Nat × Nat × Nat × Nat) := M.2.2.2.2.2.map (fun h => (h.1, h.2.1, h.2.2.1, h.2.2.2.1))
def mWord (M : mMeth) : Cond := if M.2.2.2.2.2.isEmpty = true then .code M.1 M.2.1 M.2.2.1 M.2.2.2.1 else .codeWith M.1 M.2.1 M.2.2.1 M.2.2.2.1 (mHh M)
def mPar (y : MethodName) : Option Nat := (parseMethodDescriptor y.desc).map (fun d => d.parameters.length)
/-- what the links of a call must be -/
def mLkC (E : mEnv) (G : List Cond) (cl : List vw_C) (X : mTkP) (own : String) (q : mIns) : Prop := ∃ M' : mMeth, E.1 q.2.2.2.2.1 = some M' ∧ q.2.2.1 = 3 ∧ Cond.initialized M'.1.cls ∈ G ∧ (
  (∃ idx n, q.2.1 = .invokevirtual idx ∧ M'.2.2.2.2.2.isEmpty = true ∧ (∃ (T : u_T) (N : Nat), cl[q.2.2.2.2.2.2.toNat]? = some (M'.1.cls, T, N)) ∧ Cond.methodLink own idx M'.1 ∈ G ∧ Cond.instanceMethod M'.1 ∈ G ∧ Cond.selects M'.1.cls M'.1 M'.1 ∈ G ∧ q.2.2.2.2.2.1 = n + 1 ∧ mPar M'.1 = some n) ∨
  (∃ idx, q.2.1 = .invokestatic idx ∧ Cond.methodLink own idx M'.1 ∈ G ∧ Cond.static M'.1 ∈ G ∧ mPar M'.1 = some q.2.2.2.2.2.1) ∨
  (∃ idx n, q.2.1 = .invokespecial idx ∧ M'.2.2.2.2.2.isEmpty = true ∧ M'.1.name = "<init>" ∧ M'.2.2.2.1 = none ∧ Cond.instanceMethod M'.1 ∈ G ∧ q.2.2.2.2.2.1 = n + 1 ∧ mPar M'.1 = some n ∧ (Cond.methodLink own idx M'.1 ∈ G ∨ ∃ host, Cond.methodLinkNest own idx M'.1 host ∈ X.2.2.1)))
/-- what the links of a throw must be -/
def mLkT (E : mEnv) (G : List Cond) (X : mTkP) (cc : ByteArray) (own : String) (q : mIns) : Prop := ∃ (ik is ic : Nat) (text : String) (sa : Nat) (names : List String) (ix : Nat) (rx : ByteArray), q.2.1 = .new ik ∧ q.2.2.1 = 3 ∧ Bundle.fit (E.2.2.2 q.2.2.2.2.1) = true ∧ (∀ n ∈ names, Bundle.fit n = true) ∧ names.length ≤ 4 ∧
  Cond.classLink own ik (E.2.2.2 q.2.2.2.2.1) ∈ G ∧ Cond.initialized (E.2.2.2 q.2.2.2.2.1) ∈ G ∧ (own, is, text, sa) ∈ X.2.1 ∧ (∀ w ∈ vx_aX own ic (E.2.2.2 q.2.2.2.2.1) ix rx names, (w ∈ G ∨ w ∈ X.2.2.1) ∧ vx_ot w = true) ∧
  decode cc (q.1 + 3) = .ok (.dup, 1) ∧ decode cc (q.1 + 4) = .ok (.ldc_w is, 3) ∧ decode cc (q.1 + 7) = .ok (.invokespecial ic, 3) ∧ decode cc (q.1 + 10) = .ok (.athrow, 1) ∧ decode rx 0 = .ok (.aload_n 0, 1) ∧ decode rx 1 = .ok (.aload_n 1, 1) ∧ decode rx 2 = .ok (.invokespecial ix, 3) ∧ decode rx 5 = .ok (.return_, 1)
/-- a method is as its tables say -/
def mMok (E : mEnv) (G : List Cond) (cl : List vw_C) (X : mTkP) (M : mMeth) : Prop :=
  plainFor M.1 = true ∧ (M.1.cls ≠ "java/lang/invoke/MethodHandle" ∧ M.1.cls ≠ "java/lang/invoke/VarHandle") ∧ M.2.2.1 ≤ 21 ∧ mWord M ∈ G ∧
  (∀ q ∈ M.2.2.2.2.1, decode M.2.1 q.1 = .ok (q.2.1, q.2.2.1) ∧ mlen q.2.1 q.2.2.1 = true ∧ (q.2.2.2.1 = 9 → mLkC E G cl X M.1.cls q) ∧ (q.2.2.2.1 = 8 → mLkT E G X M.2.1 M.1.cls q) ∧ (q.2.2.2.1 = 7 → mLkP G M.1.cls q) ∧ (q.2.2.2.1 < 7 → mLk G cl X M.1.cls (M.1.name == "<init>") q) ∧ q.2.2.2.1 ≤ 9) ∧
  (∀ h ∈ M.2.2.2.2.2, Cond.classLink M.1.cls h.2.2.2.1 h.2.2.2.2 ∈ G ∧ h.2.2.2.1 ≠ 0 ∧ (Cond.castable h.2.2.2.2 h.2.2.2.2 ∈ G ∨ Cond.castable h.2.2.2.2 h.2.2.2.2 ∈ X.2.2.1) ∧ ∀ h2 ∈ M.2.2.2.2.2, h2.2.2.2.2 ≠ h.2.2.2.2 → (h.2.2.2.2, h2.2.2.2.2) ∈ X.2.2.2)
def mGlob (E : mEnv) (G : List Cond) (cl : List vw_C) (X : mTkP) : Prop :=
  (∀ w ∈ G, goodWord w = true) ∧ mCl G cl E ∧ mTok X ∧ (∀ w ∈ X.2.2.1, mWk w) ∧ (∀ a x, 1000 ≤ a → E.2.2.1 a = some x → x.1 < 4) ∧ ∀ mi M, E.1 mi = some M → mMok E G cl X M
theorem lvargs_wf {n : Nat} {vs : List Value} (h : ∀ v ∈ vs, mrok n v) : ∀ (k : Nat), ∀ q ∈ lv_args k vs, mrok n q.2 := by
  induction vs with
  | nil => intro k q hq; cases hq
  | cons v r ih =>
    intro k q hq
    rcases List.mem_cons.mp hq with rfl | hq
    · exact h v List.mem_cons_self
    · exact ih (fun w hw => h w (List.mem_cons_of_mem _ hw)) _ q hq
theorem find_mem {α : Type} {p : α → Bool} {l : List α} {a : α} (h : l.find? p = some a) : a ∈ l ∧ p a = true := ⟨List.mem_of_find?_eq_some h, List.find?_some h⟩
/-- what a result is -/
def mRok (nc ns : Nat) (mem : mMem) (r : mRes) : Prop := nc ≤ r.2.2.1 ∧ ns ≤ r.2.2.2 ∧ mem.length ≤ r.2.1.length ∧ mwfM r.2.1.length r.2.1 ∧ ∀ v, r.1 = .inr (some v) → mrok r.2.1.length v
theorem mRok.up {nc ns nc1 ns1 : Nat} {mem mem1 : mMem} {r : mRes} (h : mRok nc1 ns1 mem1 r) (h1 : nc ≤ nc1) (h2 : ns ≤ ns1) (h3 : mem.length ≤ mem1.length) : mRok nc ns mem r :=
  ⟨Nat.le_trans h1 h.1, Nat.le_trans h2 h.2.1, Nat.le_trans h3 h.2.2.1, h.2.2.2.1, h.2.2.2.2⟩
theorem mwf_up {ls : mLs} {st : List Value} {mem mem1 : mMem} (hL : ∀ q ∈ ls, mrok mem.length q.2) (hS : ∀ v ∈ st, mrok mem.length v) (hM : mwfM mem1.length mem1) (hn : mem.length ≤ mem1.length) : mwf ls st mem1 :=
  ⟨fun q hq => (hL q hq).mono hn, fun v hv => (hS v hv).mono hn, hM⟩
theorem mrun_wf {E : mEnv} {G : List Cond} {cl : List vw_C} {X : mTkP} (hg : mGlob E G cl X) : ∀ (n d mi pc : Nat) (ls : mLs) (st : List Value) (mem : mMem) (nc ns : Nat) (r : mRes), mrun E n d mi pc ls st mem nc ns = some r → mwf ls st mem → mRok nc ns mem r := by
  intro n
  induction n with
  | zero => intro d mi pc ls st mem nc ns r h; cases h
  | succ n ih =>
    intro d mi pc ls st mem nc ns r h hw
    obtain ⟨hL, hS, hM⟩ := id hw
    unfold mrun at h
    split at h
    · cases h
    · rename_i M hM1
      have hok := hg.2.2.2.2.2 mi M hM1
      split at h
      · cases h
      · rename_i q hq
        obtain ⟨hqm, hqp⟩ := find_mem hq
        obtain ⟨k1, k2, k3, k4, k5, k6, k7⟩ := hok.2.2.2.2.1 q hqm
        split at h
        · -- a call
          split at h
          · rename_i d M' hM'
            split at h
            · cases h
            · rename_i hc
              have hargs : ∀ v ∈ (st.take q.2.2.2.2.2.1).reverse, mrok mem.length v := fun v hv => hS v (List.mem_of_mem_take (List.mem_reverse.mp hv))
              have hrest : ∀ v ∈ st.drop q.2.2.2.2.2.1, mrok mem.length v := fun v hv => hS v (List.mem_of_mem_drop hv)
              have hw1 : mwf (lv_args 0 (st.take q.2.2.2.2.2.1).reverse) [] mem := ⟨lvargs_wf hargs 0, (fun v hv => by cases hv), hM⟩
              split at h
              · cases h
              · rename_i v mem' nc' ns' hr
                have h1 := ih _ _ _ _ _ _ _ _ _ hr hw1
                obtain ⟨a1, a2, a3, a4, a5⟩ := h1
                dsimp only at a1 a2 a3 a4 a5
                refine (ih _ _ _ _ _ _ _ _ _ h ⟨fun q hq9 => (hL q hq9).mono a3, ?_, a4⟩).up a1 a2 a3
                intro w hw9
                rcases List.mem_append.mp hw9 with hw9 | hw9
                · cases v with
                  | none => cases hw9
                  | some v0 =>
                    rcases List.mem_singleton.mp hw9 with rfl
                    exact a5 _ rfl
                · exact (hrest w hw9).mono a3
              · rename_i X9 mem' nc' ns' hr
                have h1 := ih _ _ _ _ _ _ _ _ _ hr hw1
                obtain ⟨a1, a2, a3, a4, a5⟩ := h1
                dsimp only at a1 a2 a3 a4 a5
                split at h
                · split at h
                  · cases h
                    exact ⟨a1, a2, a3, a4, fun v hv => by cases hv⟩
                  · cases h
                · split at h
                  · refine (ih _ _ _ _ _ _ _ _ _ h ⟨fun q hq9 => (hL q (List.mem_filter.mp hq9).1).mono a3, (fun v hv => by cases hv), a4⟩).up a1 a2 a3
                  · cases h
          · cases h
        · rename_i hk9
          split at h
          · split at h
            · cases h
              exact ⟨Nat.le_succ _, Nat.le_add_right _ _, Nat.le_refl _, hM, fun v hv => by cases hv⟩
            · cases h
          · rename_i hk8
            split at h
            · split at h
              · cases h
              · split at h
                · rename_i st' mem' hp
                  obtain ⟨b1, b2⟩ := mprim_wf hp hw
                  exact (ih _ _ _ _ _ _ _ _ _ h b2).up (Nat.le_refl _) (Nat.le_refl _) (by rw [b1] <;> exact Nat.le_refl _)
                · cases h
            · rename_i hk7
              have hlk := k6 (by omega)
              split at h
              · split at h
                · cases h
                  exact ⟨Nat.le_refl _, Nat.le_refl _, Nat.le_refl _, hM, fun v hv => by cases hv⟩
                · cases h
              · split at h
                · split at h
                  · cases h
                    exact ⟨Nat.le_refl _, Nat.le_refl _, Nat.le_refl _, hM, fun v hv => by cases hv; exact mrok_i⟩
                  · cases h
                · cases h
              · split at h
                · cases h
                  exact ⟨Nat.le_refl _, Nat.le_refl _, Nat.le_refl _, hM, fun v hv => by cases hv; exact mrok_l⟩
                · cases h
              · split at h
                · rename_i pc' ls' st' mem' hp
                  obtain ⟨b1, b2⟩ := mplain_wf hg.2.2.1 hlk hp hw
                  exact (ih _ _ _ _ _ _ _ _ _ h b2).up (Nat.le_refl _) (Nat.le_refl _) (by rw [b1] <;> exact Nat.le_refl _)
                · split at h
                  · cases h
                  · split at h
                    · rename_i k st' mem' ms hp
                      obtain ⟨b1, b2⟩ := malloc_wf hp hw
                      exact (ih _ _ _ _ _ _ _ _ _ h b2).up (Nat.le_succ _) (Nat.le_add_right _ _) (by rw [b1] <;> exact Nat.le_succ _)
                    · cases h
