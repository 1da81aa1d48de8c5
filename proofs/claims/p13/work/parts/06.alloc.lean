theorem mrok_i {n : Nat} {x : Int32} : mrok n (.int x) := fun _ e => nomatch e
theorem mrok_l {n : Nat} {x : Int64} : mrok n (.long x) := fun _ e => nomatch e
theorem mwfM_mono {n n' : Nat} {mem : mMem} (h : mwfM n mem) (hn : n ≤ n') : mwfM n' mem := fun k ci fs e v hv => (h k ci fs e v hv).mono hn
theorem mld_mem {ls : mLs} {j : Nat} {v : Value} (h : mld ls j = some v) : ∃ q ∈ ls, q.2 = v := by
  induction ls with
  | nil => cases h
  | cons q l ih =>
    unfold mld at h
    split at h
    · cases h
      exact ⟨q, List.mem_cons_self, rfl⟩
    · obtain ⟨q', h1, h2⟩ := ih h
      exact ⟨q', List.mem_cons_of_mem _ h1, h2⟩
theorem mst1_wf {n : Nat} {ls : mLs} {i : Nat} {v : Value} (h : ∀ q ∈ ls, mrok n q.2) (hv : mrok n v) : ∀ q ∈ mst1 ls i v, mrok n q.2 := by
  intro q hq
  rcases List.mem_cons.mp hq with rfl | hq
  · exact hv
  · exact h q ((List.mem_filter.mp hq).1)
theorem mst2_wf {n : Nat} {ls : mLs} {i : Nat} {v : Value} (h : ∀ q ∈ ls, mrok n q.2) (hv : mrok n v) : ∀ q ∈ mst2 ls i v, mrok n q.2 := by
  intro q hq
  rcases List.mem_cons.mp hq with rfl | hq
  · exact hv
  · exact h q ((List.mem_filter.mp hq).1)
/-- tokens are from 1000 on -/
def mTok (X : mTkP) : Prop := (∀ z ∈ X.1, ∀ a, z.2.2.2 = .ref a → 1000 ≤ a) ∧ (∀ r ∈ X.2.1, 1000 ≤ r.2.2.2)
section MWF
variable {G : List Cond} {cl : List vw_C} {X : mTkP} {E : mEnv} {own : String} {init : Bool} {nL : Nat}
theorem mpush_wf (hX : mTok X) {q : mIns} (hlk : mLk G cl X own init q) {v : Value} {k : Nat} (h : mpush q = some (v, k)) (n : Nat) : mrok n v := by
  obtain ⟨p0, i, len, k0, ka, kb, kv⟩ := q
  cases i <;> simp only [mpush] at h <;> try (cases h; done)
  case iconst => cases h; exact mrok_i
  case bipush => cases h; exact mrok_i
  case sipush => cases h; exact mrok_i
  case lconst => cases h; exact mrok_l
  case ldc2_w => cases h; exact mrok_l
  case ldc_w =>
    simp only [mLk] at hlk
    rw [if_pos hlk.1] at h
    cases h
    exact mrok_i
  case ldc =>
    simp only [mLk] at hlk
    rcases hlk with ⟨h0, -⟩ | ⟨h0, tx, h1⟩
    · rw [if_pos h0] at h
      cases h
      exact mrok_i
    · rw [if_neg h0] at h
      cases h
      intro a e
      cases e
      exact Or.inr (hX.2 _ h1)
  case getstatic =>
    simp only [mLk] at hlk
    obtain ⟨z, hz, -, h2⟩ := hlk
    by_cases h0 : k0 = 0
    · rw [if_pos h0] at h h2
      cases h
      intro a e
      cases e
      exact Or.inr (hX.1 z hz _ h2)
    · rw [if_neg h0] at h
      cases h
      exact mrok_l
theorem mdef_wf (hX : mTok X) {q : mIns} (hlk : mLk G cl X own init q) {pc pc' : Nat} {ls ls' : mLs} {st st' : List Value} {mem mem' : mMem} (h : mdef nL q pc ls st mem = some (pc', ls', st', mem')) (hw : mwf ls st mem) : mem' = mem ∧ mwf ls' st' mem := by
  obtain ⟨hL, hS, hM⟩ := hw
  unfold mdef at h
  split at h
  · rename_i v k hp
    cases h
    exact ⟨rfl, hL, List.forall_mem_cons.mpr ⟨mpush_wf hX hlk hp _, hS⟩, hM⟩
  split at h
  · split at h
    · rename_i v hv
      split at h
      · cases h
        obtain ⟨q', h1, h2⟩ := mld_mem hv
        exact ⟨rfl, hL, List.forall_mem_cons.mpr ⟨h2 ▸ hL q' h1, hS⟩, hM⟩
      · cases h
    · cases h
  split at h
  · split at h
    · rename_i v r
      split at h
      · cases h
        have hv := hS v List.mem_cons_self
        refine ⟨rfl, ?_, fun w hw => hS w (List.mem_cons_of_mem _ hw), hM⟩
        split
        · exact mst2_wf hL hv
        · exact mst1_wf hL hv
      · cases h
    · cases h
  split at h
  · split at h
    · cases h
      exact ⟨rfl, hL, List.forall_mem_cons.mpr ⟨mrok_i, fun w hw => hS w (List.mem_cons_of_mem _ (List.mem_cons_of_mem _ hw))⟩, hM⟩
    · split at h
      · cases h
        exact ⟨rfl, hL, List.forall_mem_cons.mpr ⟨mrok_i, fun w hw => hS w (List.mem_cons_of_mem _ hw)⟩, hM⟩
      · cases h
  · split at h
    · cases h
      exact ⟨rfl, hL, List.forall_mem_cons.mpr ⟨mrok_i, fun w hw => hS w (List.mem_cons_of_mem _ hw)⟩, hM⟩
    · cases h
  · split at h
    · cases h
      exact ⟨rfl, hL, List.forall_mem_cons.mpr ⟨mrok_l, fun w hw => hS w (List.mem_cons_of_mem _ (List.mem_cons_of_mem _ hw))⟩, hM⟩
    · cases h
  · cases h
theorem mwf_setA {n : Nat} {mem : mMem} {a : Nat} {x : Nat × Nat × (Nat → Value)} (h : mwfM n mem) : mwfM n (mem.set a (.inl x)) := by
  intro k ci fs e v hv
  rw [List.getElem?_set] at e
  split at e
  · split at e
    · cases e
    · cases e
  · exact h k ci fs e v hv
theorem mwf_setO {n : Nat} {mem : mMem} {a ci k : Nat} {fs : List Value} {v : Value} (h : mwfM n mem) (hm : mem[a]? = some (.inr (ci, fs))) (hv : mrok n v) : mwfM n (mem.set a (.inr (ci, fs.set k v))) := by
  intro k2 ci2 fs2 e w hw
  rw [List.getElem?_set] at e
  split at e
  · split at e
    · cases e
      rcases List.mem_or_eq_of_mem_set hw with hw | rfl
      · exact h a ci fs hm w hw
      · exact hv
    · cases e
  · exact h k2 ci2 fs2 e w hw
theorem mplain_wf (hX : mTok X) {q : mIns} (hlk : mLk G cl X own init q) {pc pc' : Nat} {ls ls' : mLs} {st st' : List Value} {mem mem' : mMem} (h : mplain E nL q pc ls st mem = some (pc', ls', st', mem')) (hw : mwf ls st mem) : mem'.length = mem.length ∧ mwf ls' st' mem' := by
  have hdef : mdef nL q pc ls st mem = some (pc', ls', st', mem') → mem'.length = mem.length ∧ mwf ls' st' mem' := by
    intro h
    obtain ⟨e, h2⟩ := mdef_wf hX hlk h hw
    subst e
    exact ⟨rfl, h2⟩
  obtain ⟨hL, hS, hM⟩ := hw
  have tl : ∀ {v : Value} {r : List Value}, (∀ w ∈ v :: r, mrok mem.length w) → ∀ w ∈ r, mrok mem.length w := fun h w hw => h w (List.mem_cons_of_mem _ hw)
  have hd1 : ∀ {v : Value} {r : List Value}, (∀ w ∈ v :: r, mrok mem.length w) → mrok mem.length v := fun h => h _ List.mem_cons_self
  obtain ⟨p0, i, len, k0, ka, kb, kv⟩ := q
  unfold mplain at h
  dsimp only at h hdef
  split at h
  · split at h
    · cases h; exact ⟨rfl, hL, hS, hM⟩
    · cases h
  · split at h
    · split at h
      · split at h <;> (cases h; exact ⟨rfl, hL, tl hS, hM⟩)
      · cases h
    · cases h
  · split at h
    · split at h
      · split at h <;> (cases h; exact ⟨rfl, hL, tl (tl hS), hM⟩)
      · cases h
    · cases h
  · split at h
    · split at h
      · cases h; exact ⟨rfl, mst1_wf hL mrok_i, hS, hM⟩
      · cases h
    · cases h
  · split at h
    · cases h; exact ⟨rfl, hL, List.forall_mem_cons.mpr ⟨mrok_l, tl hS⟩, hM⟩
    · cases h
  · split at h
    · cases h; exact ⟨rfl, hL, List.forall_mem_cons.mpr ⟨mrok_i, tl hS⟩, hM⟩
    · cases h
  · split at h
    · cases h; exact ⟨rfl, hL, List.forall_mem_cons.mpr ⟨mrok_i, tl (tl hS)⟩, hM⟩
    · cases h
  · split at h
    · split at h
      · cases h; exact ⟨rfl, hL, List.forall_mem_cons.mpr ⟨hd1 hS, hS⟩, hM⟩
      · cases h
    · cases h
  · split at h
    · split at h
      · cases h; exact ⟨rfl, hL, List.forall_mem_cons.mpr ⟨hd1 hS, List.forall_mem_cons.mpr ⟨hd1 (tl hS), List.forall_mem_cons.mpr ⟨hd1 hS, tl (tl hS)⟩⟩⟩, hM⟩
      · cases h
    · cases h
  · split at h
    · split at h
      · cases h; exact ⟨rfl, hL, List.forall_mem_cons.mpr ⟨hd1 hS, List.forall_mem_cons.mpr ⟨hd1 (tl hS), hS⟩⟩, hM⟩
      · cases h
    · cases h
  · split at h
    · split at h
      · cases h; exact ⟨rfl, hL, tl hS, hM⟩
      · cases h
    · cases h
  · split at h
    · split at h
      · cases h; exact ⟨rfl, hL, tl hS, hM⟩
      · cases h
    · cases h
  · rename_i dd lo hi offs
    split at h
    · split at h
      · cases ht : mtgt pc dd with
        | none => rw [ht] at h; cases h
        | some t => rw [ht] at h; cases h; exact ⟨rfl, hL, tl hS, hM⟩
      · split at h
        · rename_i off ho
          cases ht : mtgt pc off with
          | none => rw [ht] at h; cases h
          | some t => rw [ht] at h; cases h; exact ⟨rfl, hL, tl hS, hM⟩
        · cases h
    · cases h
  · rename_i dd ps
    split at h
    · rename_i x r
      split at h
      · cases ht : mtgt pc (Op.lookupswitch.offset ps.toList dd x.toInt) with
        | none => rw [ht] at h; cases h
        | some t => rw [ht] at h; cases h; exact ⟨rfl, hL, tl hS, hM⟩
      · cases h
    · cases h
  · split at h
    · split at h
      · split at h
        · cases h; exact ⟨rfl, hL, List.forall_mem_cons.mpr ⟨mrok_i, tl hS⟩, hM⟩
        · cases h
      · cases h
    · cases h
  · split at h
    · split at h
      · split at h
        · split at h
          · cases h; exact ⟨rfl, hL, List.forall_mem_cons.mpr ⟨mrok_i, tl (tl hS)⟩, hM⟩
          · cases h
        · cases h
      · cases h
    · cases h
  · split at h
    · split at h
      · split at h
        · split at h
          · cases h; exact ⟨rfl, hL, List.forall_mem_cons.mpr ⟨mrok_l, tl (tl hS)⟩, hM⟩
          · cases h
        · cases h
      · cases h
    · cases h
  · split at h
    · split at h
      · split at h
        · split at h
          · cases h; exact ⟨rfl, hL, List.forall_mem_cons.mpr ⟨mrok_i, tl (tl hS)⟩, hM⟩
          · cases h
        · cases h
      · cases h
    · cases h
  · split at h
    · split at h
      · split at h
        · cases h; exact ⟨List.length_set, by rw [List.length_set] <;> exact hL, by rw [List.length_set] <;> exact tl (tl (tl hS)), by rw [List.length_set] <;> exact mwf_setA hM⟩
        · cases h
      · cases h
    · cases h
  · split at h
    · split at h
      · split at h
        · cases h; exact ⟨List.length_set, by rw [List.length_set] <;> exact hL, by rw [List.length_set] <;> exact tl (tl (tl hS)), by rw [List.length_set] <;> exact mwf_setA hM⟩
        · cases h
      · cases h
    · cases h
  · split at h
    · split at h
      · split at h
        · cases h; exact ⟨List.length_set, by rw [List.length_set] <;> exact hL, by rw [List.length_set] <;> exact tl (tl (tl hS)), by rw [List.length_set] <;> exact mwf_setA hM⟩
        · cases h
      · cases h
    · cases h
  · split at h
    · split at h
      · rename_i ci fs hm
        split at h
        · split at h
          · rename_i v hv
            split at h
            · cases h
              exact ⟨rfl, hL, List.forall_mem_cons.mpr ⟨hM _ _ _ hm v (List.mem_of_getElem? hv), tl hS⟩, hM⟩
            · cases h
          · cases h
        · cases h
      · cases h
    · cases h
  · split at h
    · split at h
      · rename_i ci fs hm
        split at h
        · split at h
          · split at h
            · cases h
              exact ⟨List.length_set, by rw [List.length_set] <;> exact hL, by rw [List.length_set] <;> exact tl (tl hS), by rw [List.length_set] <;> exact mwf_setO hM hm (hd1 hS)⟩
            · cases h
          · cases h
        · cases h
      · cases h
    · cases h
  · exact hdef h
end MWF
theorem mcv1_def (ad : Nat → Nat) (t : FieldType) : mcv1 ad (defaultValue t) = defaultValue t := by cases t <;> rfl
theorem mrok_def (n : Nat) (t : FieldType) : mrok n (defaultValue t) := by cases t <;> exact fun _ e => nomatch e
theorem mcv_defs (ad : Nat → Nat) (ts : List FieldType) : (ts.map defaultValue).map (mcv1 ad) = ts.map defaultValue := by
  rw [List.map_map]
  exact List.map_congr_left fun t _ => mcv1_def ad t
/-- the map with one more address -/
def madd (ad : Nat → Nat) (n q : Nat) : Nat → Nat := fun k => if k = n then q else ad k
theorem madd_ag {ad : Nat → Nat} {n q : Nat} (hn : n < 1000) : mAg n ad (madd ad n q) := by
  intro a h
  have : a ≠ n := by omega
  simp [madd, this]
theorem mws_push {ad : Nat → Nat} {cid : Nat → ClassId} {mem : mMem} {c : mCell} {q : Nat} (hn : mem.length < 1000) (h : mwfM mem.length mem) : mws (madd ad mem.length q) cid (mem ++ [c]) = mws ad cid mem ++ [(q, mcvC (madd ad mem.length q) cid c)] := by
  have e : mws (madd ad mem.length q) cid mem = mws ad cid mem := mws_ag (madd_ag hn) h
  rw [← e]
  simp only [mws]
  rw [List.mapIdx_append]
  simp [madd]
section MAL
variable {p : Program} {l : Launch} {e : Env} {R : Room} {s : State} {m : MethodId} {args : Array Value} {below : List Frame} {meth : Method} {c : Code} {H : Heap} {locs : List Loc} {cells slots : Nat} {Q : State → Prop}
variable {cc : ByteArray} {pc : Nat} {lsA : Array Slot} {D : va_G} {cl : List vw_C} {A : Nat → Prop} {G : List Cond} {X : mTkP} {E : mEnv} {ad : Nat → Nat} {cid : Nat → ClassId} {own : String} {nL : Nat}
theorem mty_same {ty : FieldType} {k : Nat} {cA : ClassId} (hK : va_K D cl (mtys cid) s) (hK2 : va_K D cl (mtys cid ++ [(cA, ty)]) s) (h : (mtys cid)[k]? = some (cid k, ty)) (hp : ∀ C, ty ≠ .object C) : cA = cid k := by
  have h1 := (hK.2 k _ h).2
  have h2 := (hK2.2 3 (cA, ty) (by simp [mtys])).2
  cases ty with
  | object C => exact absurd rfl (hp C)
  | _ => exact Option.some.inj (Eq.trans (Eq.symm h2) h1)
theorem malloc_W (hx : p.tables.exec = Jvm.exec) (hb : c.code = cc) (hown : s.vm.findClass own = some m.cls) (hG : ∀ w ∈ G, w.before args s = true) (hcl : mCl G cl E) (hK : va_K D cl (mtys cid) s) (hA : ∀ q, s.heap.size ≤ q → A q)
    {q : mIns} {init : Bool} (hlk : mLk G cl X own init q) (hd : decode cc pc = .ok (q.2.1, q.2.2.1)) (hlen : mlen q.2.1 q.2.2.1 = true) {st st' : List Value} {mem mem' : mMem} {k ms : Nat}
    (h : malloc E q st mem = some (k, st', mem', ms)) (hn : mem.length < 1000) (hw : mwfM mem.length mem) (hwS : ∀ v ∈ st, mrok mem.length v)
    (hP : va_P D cl (mws ad cid mem) H) (hD : va_D A (mws ad cid mem)) (hS : va_S A s.heap H locs) (hc : cells + 1 ≤ R.cells) (hs : slots + ms ≤ R.slots)
    (kk : ∀ (ad' : Nat → Nat) (H1 : Heap) (locs1 : List Loc), mAg mem.length ad ad' → va_P D cl (mws ad' cid mem') H1 → va_D A (mws ad' cid mem') → va_S A s.heap H1 locs1 → W p l e R s m args below meth c H1 locs1 (cells + 1) (slots + ms) Q (F0 m (pc + k) lsA (st'.map (mcv1 ad')))) :
    W p l e R s m args below meth c H locs cells slots Q (F0 m pc lsA (st.map (mcv1 ad))) := by
  obtain ⟨p0, i, len, k0, ka, kb, kv⟩ := q
  have tl : ∀ {q : Nat} {v : Value} {r : List Value}, st = v :: r → r.map (mcv1 (madd ad mem.length q)) = r.map (mcv1 ad) := by
    intro q v r e
    exact mcvS_ag (madd_ag hn) (fun w hw9 => hwS w (by rw [e]; exact List.mem_cons_of_mem _ hw9))
  have hr0 : ∀ q : Nat, mcv1 (madd ad mem.length q) (.ref mem.length) = .ref q := fun q => by simp [mcv1, madd]
  unfold malloc at h
  dsimp only at h hlk hd hlen
  split at h
  · rename_i t
    simp only [mlen, beq_iff_eq] at hlen
    subst hlen
    split at h
    · rename_i n r
      split at h
      · cases h
      · rename_i hn9
        have hn0 : ¬ n < 0 := fun z => hn9 (Or.inl z)
        have hn1 : n.toNatClampNeg ≤ 100000 := Nat.not_lt.mp fun z => hn9 (Or.inr z)
        simp only [mLk] at hlk
        split at h
        · cases h
          refine va_newa (ty := .int) (a0 := (n.toNatClampNeg, .inl (fun _ => 0))) hx hb (hG _ hlk) rfl hK hP hD hS hA (fun _ => rfl) hn0 rfl (by simp only [componentBytes]; omega) hc hs hd (fun q cA H1 hK1 p1 d1 s1 => ?_)
          have e1 := mty_same (k := 0) hK hK1 rfl (fun C => by simp)
          subst e1
          have k9 := kk (madd ad mem.length q) H1 locs (madd_ag hn) (by rw [mws_push hn hw]; exact p1) (by rw [mws_push hn hw]; exact d1) s1
          rw [List.map_cons, hr0, tl rfl] at k9
          exact k9
        · cases h
          refine va_newa (ty := .long) (a0 := (n.toNatClampNeg, .inr (.inl (fun _ => 0)))) hx hb (hG _ hlk) rfl hK hP hD hS hA (fun _ => rfl) hn0 rfl (by simp only [componentBytes]; omega) hc hs hd (fun q cA H1 hK1 p1 d1 s1 => ?_)
          have e1 := mty_same (k := 1) hK hK1 rfl (fun C => by simp)
          subst e1
          have k9 := kk (madd ad mem.length q) H1 locs (madd_ag hn) (by rw [mws_push hn hw]; exact p1) (by rw [mws_push hn hw]; exact d1) s1
          rw [List.map_cons, hr0, tl rfl] at k9
          exact k9
        · cases h
          refine va_newa (ty := .byte) (a0 := (n.toNatClampNeg, .inl (fun _ => 0))) hx hb (hG _ hlk) rfl hK hP hD hS hA (fun _ => rfl) hn0 rfl (by simp only [componentBytes]; omega) hc hs hd (fun q cA H1 hK1 p1 d1 s1 => ?_)
          have e1 := mty_same (k := 2) hK hK1 rfl (fun C => by simp)
          subst e1
          have k9 := kk (madd ad mem.length q) H1 locs (madd_ag hn) (by rw [mws_push hn hw]; exact p1) (by rw [mws_push hn hw]; exact d1) s1
          rw [List.map_cons, hr0, tl rfl] at k9
          exact k9
        · cases h
    · cases h
  · rename_i idx
    simp only [mlen, beq_iff_eq] at hlen
    subst hlen
    cases h
    obtain ⟨C, T, N, h1, h2, h3, h4⟩ := hlk
    obtain ⟨c1, c2, c3, c4⟩ := hcl _ _ _ _ h1
    have c2 : (E.2.1 ka).length = N := c2
    have hty0 : ∀ k, k < N → parseFieldDescriptor (T k).2.2.1 = some (((E.2.1 ka)[k]?).getD .int) := by
      intro k hk
      rw [c3 k hk, List.getElem?_eq_getElem (by omega)]
      rfl
    refine va_new (ci := ka) (fs := (E.2.1 ka).map defaultValue) hx hb hG c1 (fun k => ((E.2.1 ka)[k]?).getD .int) hty0 hown (hG _ h2) (hG _ h3) (hG _ h4) hK hP hD hS hA h1 (fun j hj => ?_) hc (by rw [← c2]; exact hs) hd (fun q H1 p1 d1 s1 => ?_)
    · simp only [vp_V, List.getD_eq_getElem?_getD, List.getElem?_map]
      rw [List.getElem?_eq_getElem (show j < (E.2.1 ka).length by omega)]
      rfl
    · have e9 : mcvC (madd ad mem.length q) cid (.inr (ka, (E.2.1 ka).map defaultValue)) = .inr (ka, (E.2.1 ka).map defaultValue) := by
        show (Sum.inr (ka, ((E.2.1 ka).map defaultValue).map (mcv1 _)) : va_E) = _
        rw [mcv_defs]
      have k9 := kk (madd ad mem.length q) H1 locs (madd_ag hn) (by rw [mws_push hn hw, e9]; exact p1) (by rw [mws_push hn hw, e9]; exact d1) s1
      rw [List.map_cons, hr0, mcvS_ag (madd_ag hn) hwS] at k9
      rw [← c2]
      exact k9
  · cases h
theorem malloc_wf {q : mIns} {ls : mLs} {st st' : List Value} {mem mem' : mMem} {k ms : Nat} (h : malloc E q st mem = some (k, st', mem', ms)) (hw : mwf ls st mem) : mem'.length = mem.length + 1 ∧ mwf ls st' mem' := by
  obtain ⟨hL, hS, hM⟩ := hw
  have gen : ∀ (c0 : mCell) (r : List Value), (∀ v ∈ r, mrok mem.length v) → (∀ ci fs, c0 = .inr (ci, fs) → ∀ v ∈ fs, mrok (mem.length + 1) v) → (mem ++ [c0]).length = mem.length + 1 ∧ mwf ls (.ref mem.length :: r) (mem ++ [c0]) := by
    intro c0 r hr hc0
    have e : (mem ++ [c0]).length = mem.length + 1 := by simp
    refine ⟨e, ?_, ?_, ?_⟩
    · rw [e]; exact fun q hq => (hL q hq).mono (by omega)
    · rw [e]
      exact List.forall_mem_cons.mpr ⟨fun a ea => by cases ea; exact Or.inl (Nat.lt_succ_self _), fun v hv => (hr v hv).mono (by omega)⟩
    · rw [e]
      intro k2 ci fs e2 v hv
      rcases Nat.lt_or_ge k2 mem.length with hk | hk
      · rw [List.getElem?_append_left hk] at e2
        exact (hM k2 ci fs e2 v hv).mono (by omega)
      · rw [List.getElem?_append_right hk] at e2
        cases hz : k2 - mem.length with
        | zero => rw [hz] at e2; cases e2; exact hc0 ci fs rfl v hv
        | succ z => rw [hz] at e2; cases e2
  obtain ⟨p0, i, len, k0, ka, kb, kv⟩ := q
  unfold malloc at h
  dsimp only at h
  split at h
  · split at h
    · rename_i n r
      have hr : ∀ v ∈ r, mrok mem.length v := fun v hv => hS v (List.mem_cons_of_mem _ hv)
      split at h
      · cases h
      · split at h
        · cases h; exact gen _ _ hr (fun _ _ e => nomatch e)
        · cases h; exact gen _ _ hr (fun _ _ e => nomatch e)
        · cases h; exact gen _ _ hr (fun _ _ e => nomatch e)
        · cases h
    · cases h
  · cases h
    refine gen _ _ hS (fun ci fs e v hv => ?_)
    cases e
    obtain ⟨t, -, rfl⟩ := List.mem_map.mp hv
    exact mrok_def _ t
  · cases h
end MAL
