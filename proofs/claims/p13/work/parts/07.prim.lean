theorem mcat_cv (ad : Nat → Nat) (st : List Value) : ((st.map (mcv1 ad)).map fun v => v.category).sum = mcat st := by
  unfold mcat
  rw [List.map_map]
  congr 1
  exact List.map_congr_left fun v _ => mcv1_cat ad v
theorem mcat_tl {v : Value} {r : List Value} : mcat r ≤ mcat (v :: r) := by simp [mcat]
/-- what the links of a call that is done at once must be (kinds 1 and 4) -/
def mLkP (G : List Cond) (own : String) (q : mIns) : Prop :=
  (q.2.2.2.2.1 = 1 ∧ ∃ idx, q.2.1 = .invokespecial idx ∧ Cond.methodLink own idx Lib.objectInit ∈ G ∧ Cond.instanceMethod Lib.objectInit ∈ G ∧ Cond.code Lib.objectInit ⟨#[0xb1]⟩ 1 none ∈ G) ∨
  (q.2.2.2.2.1 = 4 ∧ ∃ idx, q.2.1 = .invokestatic idx ∧ Cond.methodLink own idx arraycopyName ∈ G ∧ Cond.native arraycopyName ∈ G ∧ Cond.static arraycopyName ∈ G ∧ Cond.initialized "java/lang/System" ∈ G) ∨
  (q.2.2.2.2.1 = 2 ∨ q.2.2.2.2.1 = 3)
theorem mcpy_I {f g : Nat → Value} {sp dp n : Nat} : (fun j => mtoI (va_cpy f g sp dp n j)) = va_cpy (fun j => mtoI (f j)) (fun j => mtoI (g j)) sp dp n := by
  funext j
  simp only [va_cpy]
  split <;> rfl
theorem mcpy_L {f g : Nat → Value} {sp dp n : Nat} : (fun j => mtoL (va_cpy f g sp dp n j)) = va_cpy (fun j => mtoL (f j)) (fun j => mtoL (g j)) sp dp n := by
  funext j
  simp only [va_cpy]
  split <;> rfl
theorem mnative : nativeFrameWords "java/lang/System" "arraycopy" 5 ≤ 290 := by decide +kernel
theorem mprim_mem {E : mEnv} {kind : Nat} {st st' : List Value} {mem mem' : mMem} (hk : kind = 2 ∨ kind = 3) (h : mprim E kind st mem = some (st', mem')) : mem' = mem := by
  rcases hk with rfl | rfl
  · simp only [mprim] at h
    split at h
    · split at h
      · cases h
      · split at h
        · cases h; rfl
        · cases h
    · cases h
  · simp only [mprim] at h
    split at h
    · split at h
      · cases h
      · split at h
        · split at h
          · split at h
            · cases h; rfl
            · cases h
          · cases h
        · cases h
    · cases h
section MPR
variable {p : Program} {l : Launch} {e : Env} {R : Room} {s : State} {m : MethodId} {args : Array Value} {below : List Frame} {meth : Method} {c : Code} {H : Heap} {locs : List Loc} {cells slots : Nat} {Q : State → Prop}
variable {cc : ByteArray} {pc : Nat} {lsA : Array Slot} {D : va_G} {cl : List vw_C} {A : Nat → Prop} {G : List Cond} {X : mTkP} {E : mEnv} {ad : Nat → Nat} {cid : Nat → ClassId} {own : String} {nL : Nat}
theorem mprim_W (hx : p.tables.exec = Jvm.exec) (hb : c.code = cc) (hml : c.maxLocals = lsA.size) (hown : s.vm.findClass own = some m.cls) (hG : ∀ w ∈ G, w.before args s = true) (hK : va_K D cl (mtys cid) s)
    {q : mIns} (hlk : mLkP G own q) (hd : decode cc pc = .ok (q.2.1, q.2.2.1)) (hlen : mlen q.2.1 q.2.2.1 = true) {st st' : List Value} {mem mem' : mMem}
    (h : mprim E q.2.2.2.2.1 st mem = some (st', mem')) (hcs : mcat st ≤ 8) (hR1 : 8 ≤ R.frames) (hR2 : 320 ≤ R.locals)
    (hstr : (q.2.2.2.2.1 = 2 ∨ q.2.2.2.2.1 = 3) → mprim E q.2.2.2.2.1 st mem = some (st', mem') → W p l e R s m args below meth c H locs cells slots Q (F0 m (pc + 3) lsA (st'.map (mcv1 ad))) → W p l e R s m args below meth c H locs cells slots Q (F0 m pc lsA (st.map (mcv1 ad))))
    (hP : va_P D cl (mws ad cid mem) H) (hD : va_D A (mws ad cid mem)) (hS : va_S A s.heap H locs)
    (kk : ∀ (H1 : Heap) (locs1 : List Loc), va_P D cl (mws ad cid mem') H1 → va_D A (mws ad cid mem') → va_S A s.heap H1 locs1 → W p l e R s m args below meth c H1 locs1 cells slots Q (F0 m (pc + 3) lsA (st'.map (mcv1 ad)))) :
    W p l e R s m args below meth c H locs cells slots Q (F0 m pc lsA (st.map (mcv1 ad))) := by
  rcases hlk with ⟨hk, idx, hi, h1, h2, h3⟩ | ⟨hk, idx, hi, h1, h2, h3, h4⟩ | hk
  · rw [hk] at h
    rw [hi] at hd hlen
    simp only [mlen, beq_iff_eq] at hlen
    rw [hlen] at hd
    simp only [mprim] at h
    split at h
    · rename_i a r
      simp only [Option.some.injEq, Prod.mk.injEq] at h
      obtain ⟨rfl, rfl⟩ := h
      have hr : ((r.map (mcv1 ad)).map fun v => v.category).sum ≤ 8 := by
        rw [mcat_cv]
        exact Nat.le_trans (mcat_tl (v := .ref a)) hcs
      refine W.objInit hx hb hown (hG _ h1) (hG _ h2) (hG _ h3) (g := F0 m pc lsA (.ref (ad a) :: r.map (mcv1 ad))) rfl hml.symm rfl hd (by omega) ?_ (kk H locs hP hD hS)
      have := lv_room (m := m) (pc := pc) (ls := lsA) (rest := .ref (ad a) :: r.map (mcv1 ad)) hr
      omega
    · cases h
  · rw [hk] at h
    rw [hi] at hd hlen
    simp only [mlen, beq_iff_eq] at hlen
    rw [hlen] at hd
    simp only [mprim] at h
    split at h
    · rename_i n dp dd sp a r
      have hr : ((r.map (mcv1 ad)).map fun v => v.category).sum ≤ 8 := by
        rw [mcat_cv]
        exact Nat.le_trans (Nat.le_trans mcat_tl (Nat.le_trans mcat_tl (Nat.le_trans mcat_tl (Nat.le_trans mcat_tl mcat_tl)))) hcs
      have hn9 := mnative
      split at h
      · rename_i t N f t' N' g ea ed
        split at h
        · rename_i hc
          obtain ⟨rfl, ht2, hne, n1, n2, n3, n4, n5⟩ := hc
          cases h
          have hwa := mws_get (ad := ad) (cid := cid) ea
          have hwd := mws_get (ad := ad) (cid := cid) ed
          match t, ht2, hwa, hwd with
          | 0, _, hwa, hwd =>
            have e9 : mws ad cid (mem.set dd (.inl (0, N', va_cpy f g sp.toNatClampNeg dp.toNatClampNeg n.toNatClampNeg))) = (mws ad cid mem).set dd (ad dd, .inl (cid 0, N', .inl (va_cpy (fun j => mtoI (f j)) (fun j => mtoI (g j)) sp.toNatClampNeg dp.toNatClampNeg n.toNatClampNeg))) := by
              rw [mws_set]
              simp only [mcvC, mcpy_I]
            rw [e9] at kk
            exact va_copyi hx hb hml hown (hG _ h1) (hG _ h2) (hG _ h3) (hG _ h4) hK hP hD hS a dd 0 0 hwa hwd rfl rfl rfl n2 n3 n1 n4 n5 (fun _ _ => rfl) (by omega) (by omega) hd kk
          | 1, _, hwa, hwd =>
            have e9 : mws ad cid (mem.set dd (.inl (1, N', va_cpy f g sp.toNatClampNeg dp.toNatClampNeg n.toNatClampNeg))) = (mws ad cid mem).set dd (ad dd, .inl (cid 1, N', .inr (.inl (va_cpy (fun j => mtoL (f j)) (fun j => mtoL (g j)) sp.toNatClampNeg dp.toNatClampNeg n.toNatClampNeg)))) := by
              rw [mws_set]
              simp only [mcvC, mcpy_L]
            rw [e9] at kk
            exact va_copyl hx hb hml hown (hG _ h1) (hG _ h2) (hG _ h3) (hG _ h4) hK hP hD hS a dd 1 1 hwa hwd rfl rfl rfl n2 n3 n1 n4 n5 (fun _ _ => rfl) (by omega) (by omega) hd kk
        · cases h
      · cases h
    · cases h
  · have e := mprim_mem hk h
    subst e
    exact hstr hk h (kk H locs hP hD hS)
theorem mprim_wf {kind : Nat} {ls : mLs} {st st' : List Value} {mem mem' : mMem} (h : mprim E kind st mem = some (st', mem')) (hw : mwf ls st mem) : mem'.length = mem.length ∧ mwf ls st' mem' := by
  obtain ⟨hL, hS, hM⟩ := hw
  have tl : ∀ {v : Value} {r : List Value}, (∀ w ∈ v :: r, mrok mem.length w) → ∀ w ∈ r, mrok mem.length w := fun h w hw => h w (List.mem_cons_of_mem _ hw)
  unfold mprim at h
  split at h
  · split at h
    · cases h; exact ⟨rfl, hL, tl hS, hM⟩
    · cases h
  · split at h
    · split at h
      · cases h
      · split at h
        · cases h; exact ⟨rfl, hL, List.forall_mem_cons.mpr ⟨mrok_i, tl hS⟩, hM⟩
        · cases h
    · cases h
  · split at h
    · split at h
      · cases h
      · split at h
        · split at h
          · split at h
            · cases h; exact ⟨rfl, hL, List.forall_mem_cons.mpr ⟨mrok_i, tl (tl hS)⟩, hM⟩
            · cases h
          · cases h
        · cases h
    · cases h
  · split at h
    · split at h
      · split at h
        · cases h
          exact ⟨List.length_set, by rw [List.length_set] <;> exact hL, by rw [List.length_set] <;> exact tl (tl (tl (tl (tl hS)))), by rw [List.length_set] <;> exact mwf_setA hM⟩
        · cases h
      · cases h
    · cases h
  · cases h
end MPR
