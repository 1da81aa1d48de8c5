/-- the length of an instruction -/
def mlen (i : Instr) (len : Nat) : Bool := match i with
  | .tableswitch .. | .lookupswitch .. => true
  | .goto _ | .ifCond .. | .if_icmp .. | .iinc .. | .getfield _ | .putfield _ | .getstatic _ | .invokevirtual _ | .invokespecial _ | .invokestatic _ | .new _ | .sipush _ | .ldc_w _ | .ldc2_w _ => len == 3
  | .bipush _ | .newarray _ | .ldc _ | .iload _ | .lload _ | .aload _ | .istore _ | .lstore _ | .astore _ => len == 2
  | _ => len == 1
theorem mlen_push {q : mIns} {v : Value} {k : Nat} (h : mpush q = some (v, k)) (hl : mlen q.2.1 q.2.2.1 = true) : q.2.2.1 = k := by
  obtain ⟨p0, i, len, k0, ka, kb, kv⟩ := q
  dsimp only at hl ⊢
  cases i <;> simp only [mpush] at h <;> first | (cases h; done) | (simp only [mlen, beq_iff_eq] at hl; split at h <;> (cases h; exact hl)) | (simp only [mlen, beq_iff_eq] at hl; cases h; exact hl)
theorem mlen_load {i : Instr} {len j kd k : Nat} (h : mload i = some (j, kd, k)) (hl : mlen i len = true) : len = k := by
  cases i <;> simp only [mload] at h <;> first | (cases h; done) | (simp only [mlen, beq_iff_eq] at hl; cases h; exact hl)
theorem mlen_store {i : Instr} {len j kd k : Nat} (h : mstore i = some (j, kd, k)) (hl : mlen i len = true) : len = k := by
  cases i <;> simp only [mstore] at h <;> first | (cases h; done) | (simp only [mlen, beq_iff_eq] at hl; cases h; exact hl)
theorem mlen_bin {i : Instr} {len : Nat} {x y z : Int32} (h : mbin i x y = some z) (hl : mlen i len = true) : len = 1 := by
  cases i <;> simp only [mbin] at h <;> first | (cases h; done) | (simp only [mlen, beq_iff_eq] at hl; exact hl)
theorem mlen_binL {i : Instr} {len : Nat} {x y z : Int64} (h : mbinL i x y = some z) (hl : mlen i len = true) : len = 1 := by
  cases i <;> simp only [mbinL] at h <;> first | (cases h; done) | (simp only [mlen, beq_iff_eq] at hl; exact hl)
theorem mlen_un {i : Instr} {len : Nat} {x z : Int32} (h : mun i x = some z) (hl : mlen i len = true) : len = 1 := by
  cases i <;> simp only [mun] at h <;> first | (cases h; done) | (simp only [mlen, beq_iff_eq] at hl; exact hl)
section MPX
variable {p : Program} {l : Launch} {e : Env} {R : Room} {s : State} {m : MethodId} {args : Array Value} {below : List Frame} {meth : Method} {c : Code} {H : Heap} {locs : List Loc} {cells slots : Nat} {Q : State → Prop}
variable {cc : ByteArray} {pc : Nat} {lsA : Array Slot} {D : va_G} {cl : List vw_C} {A : Nat → Prop} {G : List Cond} {X : mTkP} {E : mEnv} {ad : Nat → Nat} {cid : Nat → ClassId} {own : String} {nL : Nat}
theorem mdef_W (hx : p.tables.exec = Jvm.exec) (hb : c.code = cc) (hown : s.vm.findClass own = some m.cls) (hG : ∀ w ∈ G, w.before args s = true) (hT : mTk ad A E X s s.heap) (hS : va_S A s.heap H locs)
    {q : mIns} {init : Bool} (hlk : mLk G cl X own init q) (hd : decode cc pc = .ok (q.2.1, q.2.2.1)) (hlen : mlen q.2.1 q.2.2.1 = true) {ls ls' : mLs} {st st' : List Value} {mem mem' : mMem} {pc' : Nat}
    (h : mdef nL q pc ls st mem = some (pc', ls', st', mem')) (hl : lv_has lsA nL (mcvL ad ls))
    (kk : mem' = mem → ∀ ls1 : Array Slot, lv_has ls1 nL (mcvL ad ls') → W p l e R s m args below meth c H locs cells slots Q (F0 m pc' ls1 (st'.map (mcv1 ad)))) : W p l e R s m args below meth c H locs cells slots Q (F0 m pc lsA (st.map (mcv1 ad))) := by
  unfold mdef at h
  split at h
  · rename_i v k hp
    cases h
    exact mpush_W hx hb hown hG hT hS hlk hd hp (mlen_push hp hlen) (kk rfl lsA hl)
  split at h
  · rename_i j kd k hp
    split at h
    · rename_i v hv
      split at h
      · rename_i hk
        cases h
        obtain ⟨i, hi⟩ := mld_get (ad := ad) hv
        exact mload_W hx hb hd hp (mlen_load hp hlen) hk (lv_at hl i hi) (kk rfl lsA hl)
      · cases h
    · cases h
  split at h
  · rename_i j kd k hp
    split at h
    · rename_i v r
      split at h
      · rename_i hk
        cases h
        simp only [Bool.and_eq_true, decide_eq_true_eq] at hk
        exact mstore_W hx hb hd hp (mlen_store hp hlen) hk.1 hk.2 hl (kk rfl)
      · cases h
    · cases h
  split at h
  · split at h
    · rename_i z hz
      cases h
      exact mbin_W hx hb hd hz (mlen_bin hz hlen) (kk rfl lsA hl)
    · split at h
      · rename_i z hz
        cases h
        exact mun_W hx hb hd hz (mlen_un hz hlen) (kk rfl lsA hl)
      · cases h
  · split at h
    · rename_i z hz
      cases h
      exact mun_W hx hb hd hz (mlen_un hz hlen) (kk rfl lsA hl)
    · cases h
  · split at h
    · rename_i z hz
      cases h
      exact mbinL_W hx hb hd hz (mlen_binL hz hlen) (kk rfl lsA hl)
    · cases h
  · cases h
theorem marr_cases {mem : mMem} {a : Nat} {x : Nat × Nat × (Nat → Value)} (h : marr E mem a = some x) : (a < 1000 ∧ mem[a]? = some (.inl x)) ∨ (1000 ≤ a ∧ E.2.2.1 a = some x) := by
  unfold marr at h
  split at h
  · rename_i ha
    split at h
    · rename_i y hy
      cases h
      exact Or.inl ⟨ha, hy⟩
    · cases h
  · rename_i ha
    exact Or.inr ⟨by omega, h⟩
theorem mfit_of {ty : FieldType} {v : Value} (h : mfit ty v = true) (ad : Nat → Nat) : narrow ty (mcv1 ad v) = mcv1 ad v ∧ fits ty (mcv1 ad v) = true := by
  simp only [mfit, Bool.and_eq_true, decide_eq_true_eq] at h
  obtain ⟨h1, h2⟩ := h
  cases v with
  | ref a => cases ty <;> simp_all [mcv1, fits, narrow]
  | _ => exact ⟨h1, h2⟩
theorem mplain_W (hx : p.tables.exec = Jvm.exec) (hb : c.code = cc) (hown : s.vm.findClass own = some m.cls) (hG : ∀ w ∈ G, w.before args s = true) (hT : mTk ad A E X s s.heap) (hcl : mCl G cl E) (hK : va_K D cl (mtys cid) s)
    (htok : ∀ a x, 1000 ≤ a → E.2.2.1 a = some x → x.1 < 4)
    {q : mIns} {init : Bool} (hinit : init = true → meth.name = "<init>") (hlk : mLk G cl X own init q) (hd : decode cc pc = .ok (q.2.1, q.2.2.1)) (hlen : mlen q.2.1 q.2.2.1 = true) {ls ls' : mLs} {st st' : List Value} {mem mem' : mMem} {pc' : Nat}
    (h : mplain E nL q pc ls st mem = some (pc', ls', st', mem')) (hl : lv_has lsA nL (mcvL ad ls))
    (hP : va_P D cl (mws ad cid mem) H) (hD : va_D A (mws ad cid mem)) (hS : va_S A s.heap H locs)
    (kk : ∀ (H1 : Heap) (locs1 : List Loc) (ls1 : Array Slot), va_P D cl (mws ad cid mem') H1 → va_D A (mws ad cid mem') → va_S A s.heap H1 locs1 → lv_has ls1 nL (mcvL ad ls') → W p l e R s m args below meth c H1 locs1 cells slots Q (F0 m pc' ls1 (st'.map (mcv1 ad)))) : W p l e R s m args below meth c H locs cells slots Q (F0 m pc lsA (st.map (mcv1 ad))) := by
  have hdef : mdef nL q pc ls st mem = some (pc', ls', st', mem') → W p l e R s m args below meth c H locs cells slots Q (F0 m pc lsA (st.map (mcv1 ad))) := by
    intro h
    refine mdef_W hx hb hown hG hT hS hlk hd hlen h hl (fun em ls1 h1 => ?_)
    subst em
    exact kk H locs ls1 hP hD hS h1
  obtain ⟨p0, i, len, k0, ka, kb, kv⟩ := q
  unfold mplain at h
  dsimp only at h hlk hd hlen hdef
  split at h
  · -- goto
    rename_i off
    simp only [mlen, beq_iff_eq] at hlen
    subst hlen
    split at h
    · rename_i t ht
      cases h
      exact lv_goto hx hb hd (mtgt_of ht) (kk H locs lsA hP hD hS hl)
    · cases h
  · -- ifCond
    rename_i co off
    simp only [mlen, beq_iff_eq] at hlen
    subst hlen
    split at h
    · split at h
      · rename_i t ht
        refine mcond0_W hx hb hd (mtgt_of ht) (fun hc => ?_) (fun hc => ?_)
        · rw [if_pos hc] at h
          cases h
          exact kk H locs lsA hP hD hS hl
        · rw [if_neg (by rw [hc]; decide)] at h
          cases h
          exact kk H locs lsA hP hD hS hl
      · cases h
    · cases h
  · -- if_icmp
    rename_i co off
    simp only [mlen, beq_iff_eq] at hlen
    subst hlen
    split at h
    · split at h
      · rename_i t ht
        refine mcond_W hx hb hd (mtgt_of ht) (fun hc => ?_) (fun hc => ?_)
        · rw [if_pos hc] at h
          cases h
          exact kk H locs lsA hP hD hS hl
        · rw [if_neg (by rw [hc]; decide)] at h
          cases h
          exact kk H locs lsA hP hD hS hl
      · cases h
    · cases h
  · -- iinc
    rename_i j n
    simp only [mlen, beq_iff_eq] at hlen
    subst hlen
    split at h
    · rename_i x hv
      split at h
      · rename_i hj
        cases h
        obtain ⟨k, hk⟩ := mld_get (ad := ad) hv
        exact lv_iinc hx hb hd hl hk rfl hj rfl (fun ls1 h1 => kk H locs ls1 hP hD hS (by rw [mst1_cv]; exact h1))
      · cases h
    · cases h
  · -- i2l
    simp only [mlen, beq_iff_eq] at hlen
    subst hlen
    split at h
    · cases h
      exact lv_i2l hx hb hd rfl (kk H locs lsA hP hD hS hl)
    · cases h
  · -- l2i
    simp only [mlen, beq_iff_eq] at hlen
    subst hlen
    split at h
    · cases h
      exact lv_l2i hx hb hd rfl (kk H locs lsA hP hD hS hl)
    · cases h
  · -- lcmp
    simp only [mlen, beq_iff_eq] at hlen
    subst hlen
    split at h
    · cases h
      exact W.lcmp hx hb hd (kk H locs lsA hP hD hS hl)
    · cases h
  · -- dup
    simp only [mlen, beq_iff_eq] at hlen
    subst hlen
    split at h
    · split at h
      · rename_i hc
        cases h
        exact lv_dup hx hb hd (by rw [mcv1_cat]; exact hc) (kk H locs lsA hP hD hS hl)
      · cases h
    · cases h
  · -- dup_x1
    simp only [mlen, beq_iff_eq] at hlen
    subst hlen
    split at h
    · split at h
      · rename_i hc
        cases h
        exact lv_dup_x1 hx hb hd (by rw [mcv1_cat]; exact hc.1) (by rw [mcv1_cat]; exact hc.2) (kk H locs lsA hP hD hS hl)
      · cases h
    · cases h
  · -- dup2
    simp only [mlen, beq_iff_eq] at hlen
    subst hlen
    split at h
    · split at h
      · rename_i hc
        cases h
        exact lv_dup2_11 hx hb hd (by rw [mcv1_cat]; exact hc.1) (by rw [mcv1_cat]; exact hc.2) (kk H locs lsA hP hD hS hl)
      · cases h
    · cases h
  · -- pop
    simp only [mlen, beq_iff_eq] at hlen
    subst hlen
    split at h
    · split at h
      · rename_i hc
        cases h
        exact lv_pop hx hb hd (by rw [mcv1_cat]; exact hc) (kk H locs lsA hP hD hS hl)
      · cases h
    · cases h
  · -- pop2
    simp only [mlen, beq_iff_eq] at hlen
    subst hlen
    split at h
    · split at h
      · rename_i hc
        cases h
        exact lv_pop2_2 hx hb hd (by rw [mcv1_cat]; exact hc) (kk H locs lsA hP hD hS hl)
      · cases h
    · cases h
  · -- tableswitch
    rename_i dd lo hi offs
    split at h
    · rename_i x r
      split at h
      · rename_i hc
        cases ht : mtgt pc dd with
        | none => rw [ht] at h; cases h
        | some t =>
          rw [ht] at h
          cases h
          exact lv_tableOut hx hb hd hc (mtgt_of ht) (kk H locs lsA hP hD hS hl)
      · rename_i hc
        split at h
        · rename_i off ho
          cases ht : mtgt pc off with
          | none => rw [ht] at h; cases h
          | some t =>
            rw [ht] at h
            cases h
            exact lv_tableIn hx hb hd (fun q => hc (Or.inl q)) (fun q => hc (Or.inr q)) ho (mtgt_of ht) (kk H locs lsA hP hD hS hl)
        · cases h
    · cases h
  · -- lookupswitch
    rename_i dd ps
    split at h
    · rename_i x r
      split at h
      · rename_i hc
        cases ht : mtgt pc (Op.lookupswitch.offset ps.toList dd x.toInt) with
        | none => rw [ht] at h; cases h
        | some t =>
          rw [ht] at h
          cases h
          exact lv_lookup hx hb hd hc rfl (mtgt_of ht) (kk H locs lsA hP hD hS hl)
      · cases h
    · cases h
  · -- arraylength
    simp only [mlen, beq_iff_eq] at hlen
    subst hlen
    split at h
    · rename_i a r
      split at h
      · rename_i t n f hm
        split at h
        · rename_i ht3
          cases h
          rcases marr_cases hm with ⟨ha, hm⟩ | ⟨ha, hm⟩
          · have hw := mws_get (ad := ad) (cid := cid) hm
            match t, ht3, hw with
            | 0, _, hw => exact va_alen hx hb hK hP a 0 hw rfl rfl hd (kk H locs lsA hP hD hS hl)
            | 1, _, hw => exact va_alen hx hb hK hP a 1 hw rfl rfl hd (kk H locs lsA hP hD hS hl)
            | 2, _, hw => exact va_alen hx hb hK hP a 2 hw rfl rfl hd (kk H locs lsA hP hD hS hl)
          · exact va_tlen hx hb ((hT.2.1 a t n f ha hm).1 ht3) hS rfl hd (kk H locs lsA hP hD hS hl)
        · cases h
      · cases h
    · cases h
  · -- iaload
    simp only [mlen, beq_iff_eq] at hlen
    subst hlen
    split at h
    · rename_i i a r
      split at h
      · rename_i n f hm
        split at h
        · rename_i hin
          split at h
          · rename_i x hf
            cases h
            rcases marr_cases hm with ⟨ha, hm⟩ | ⟨ha, hm⟩
            · have hw := mws_get (ad := ad) (cid := cid) hm
              have k9 := kk H locs lsA hP hD hS hl
              refine va_iald hx hb hK hP a 0 hw rfl (mIn_of hin) hd ?_
              rw [hf]
              exact k9
            · exact va_ti hx hb ((hT.2.1 a 0 n f ha hm).1 (by decide)) hS (mIn_of hin) hf hd (kk H locs lsA hP hD hS hl)
          · cases h
        · cases h
      · cases h
    · cases h
  · -- laload
    simp only [mlen, beq_iff_eq] at hlen
    subst hlen
    split at h
    · rename_i i a r
      split at h
      · rename_i n f hm
        split at h
        · rename_i hin
          split at h
          · rename_i x hf
            cases h
            rcases marr_cases hm with ⟨ha, hm⟩ | ⟨ha, hm⟩
            · have hw := mws_get (ad := ad) (cid := cid) hm
              have k9 := kk H locs lsA hP hD hS hl
              refine va_lald hx hb hK hP a 1 hw rfl (mIn_of hin) hd ?_
              rw [hf]
              exact k9
            · exact va_tl hx hb ((hT.2.1 a 1 n f ha hm).1 (by decide)) hS (mIn_of hin) hf hd (kk H locs lsA hP hD hS hl)
          · cases h
        · cases h
      · cases h
    · cases h
  · -- baload
    simp only [mlen, beq_iff_eq] at hlen
    subst hlen
    split at h
    · rename_i i a r
      split at h
      · rename_i n f hm
        split at h
        · rename_i hin
          split at h
          · rename_i x hf
            cases h
            rcases marr_cases hm with ⟨ha, hm⟩ | ⟨ha, hm⟩
            · have hw := mws_get (ad := ad) (cid := cid) hm
              have k9 := kk H locs lsA hP hD hS hl
              refine va_bald hx hb hK hP a 2 hw rfl (mIn_of hin) hd ?_
              rw [hf]
              exact k9
            · exact va_tb hx hb ((hT.2.1 a 2 n f ha hm).1 (by decide)) hS (mIn_of hin) hf hd (kk H locs lsA hP hD hS hl)
          · cases h
        · cases h
      · cases h
    · cases h
  · -- iastore
    simp only [mlen, beq_iff_eq] at hlen
    subst hlen
    split at h
    · rename_i x i a r
      split at h
      · rename_i n f hm
        split at h
        · rename_i hin
          cases h
          have hw := mws_get (ad := ad) (cid := cid) hm
          have e9 : mws ad cid (mem.set a (.inl (0, n, mup f i.toNatClampNeg (.int x)))) = (mws ad cid mem).set a (ad a, .inl (cid 0, n, .inl (upd (fun j => mtoI (f j)) i.toNatClampNeg x))) := by
            rw [mws_set]
            simp only [mcvC, mtoI_up]
          rw [e9] at kk
          exact va_iast hx hb hK hP hD hS a 0 hw rfl (mIn_of hin) hd (fun H1 locs1 p1 d1 s1 => kk H1 locs1 lsA p1 d1 s1 hl)
        · cases h
      · cases h
    · cases h
  · -- lastore
    simp only [mlen, beq_iff_eq] at hlen
    subst hlen
    split at h
    · rename_i x i a r
      split at h
      · rename_i n f hm
        split at h
        · rename_i hin
          cases h
          have hw := mws_get (ad := ad) (cid := cid) hm
          have e9 : mws ad cid (mem.set a (.inl (1, n, mup f i.toNatClampNeg (.long x)))) = (mws ad cid mem).set a (ad a, .inl (cid 1, n, .inr (.inl (vp_updL (fun j => mtoL (f j)) i.toNatClampNeg x)))) := by
            rw [mws_set]
            simp only [mcvC, mtoL_up]
          rw [e9] at kk
          exact va_last hx hb hK hP hD hS a 1 hw rfl (mIn_of hin) hd (fun H1 locs1 p1 d1 s1 => kk H1 locs1 lsA p1 d1 s1 hl)
        · cases h
      · cases h
    · cases h
  · -- bastore
    simp only [mlen, beq_iff_eq] at hlen
    subst hlen
    split at h
    · rename_i x i a r
      split at h
      · rename_i n f hm
        split at h
        · rename_i hin
          cases h
          have hw := mws_get (ad := ad) (cid := cid) hm
          have e9 : mws ad cid (mem.set a (.inl (2, n, mup f i.toNatClampNeg (.int x.toInt8.toInt32)))) = (mws ad cid mem).set a (ad a, .inl (cid 2, n, .inl (upd (fun j => mtoI (f j)) i.toNatClampNeg (vp_nar .byte x)))) := by
            rw [mws_set]
            simp only [mcvC, mtoI_up, vp_nar_byte]
          rw [e9] at kk
          exact va_bast hx hb hK hP hD hS a 2 hw rfl (mIn_of hin) hd (fun H1 locs1 p1 d1 s1 => kk H1 locs1 lsA p1 d1 s1 hl)
        · cases h
      · cases h
    · cases h
  · -- getfield
    simp only [mlen, beq_iff_eq] at hlen
    subst hlen
    split at h
    · rename_i a r
      split at h
      · rename_i ci fs hm
        split at h
        · rename_i hci
          subst hci
          split at h
          · rename_i v hv
            split at h
            · cases h
              obtain ⟨C, T, N, hc, hk, hlk⟩ := hlk
              obtain ⟨c1, c2, c3, c4⟩ := hcl _ _ _ _ hc
              have hw := mws_get (ad := ad) (cid := cid) hm
              exact va_get hx hb hG c1 hown hK hP a hw hc kb hk (hG _ hlk) (fun _ q => q) (v := mcv1 ad v) (by rw [List.getElem?_map, hv]; rfl) hd (kk H locs lsA hP hD hS hl)
            · cases h
          · cases h
        · cases h
      · cases h
    · cases h
  · -- putfield
    simp only [mlen, beq_iff_eq] at hlen
    subst hlen
    split at h
    · rename_i v a r
      split at h
      · rename_i ci fs hm
        split at h
        · rename_i hci
          subst hci
          split at h
          · rename_i ty hty
            split at h
            · rename_i hv
              cases h
              simp only [Bool.and_eq_true, decide_eq_true_eq] at hv
              obtain ⟨⟨hv1, -⟩, hv2⟩ := hv
              obtain ⟨n1, n2⟩ := mfit_of hv1 ad
              obtain ⟨C, T, N, hc, hk, hlk, hfin⟩ := hlk
              obtain ⟨c1, c2, c3, c4⟩ := hcl _ _ _ _ hc
              have hw := mws_get (ad := ad) (cid := cid) hm
              have e9 : mws ad cid (mem.set a (.inr (ci, fs.set kb v))) = (mws ad cid mem).set a (ad a, .inr (ci, (fs.map (mcv1 ad)).set kb (mcv1 ad v))) := by
                rw [mws_set]
                simp only [mcvC, List.map_set]
              rw [e9] at kk
              have hty0 : ∀ k, k < N → parseFieldDescriptor (T k).2.2.1 = some (((E.2.1 ci)[k]?).getD .int) := by
                intro k hk
                rw [c3 k hk, List.getElem?_eq_getElem (by omega)]
                rfl
              rcases hfin with hfin | ⟨hfin, hi, hdecl⟩
              · exact va_put hx hb hG c1 (fun k => ((E.2.1 ci)[k]?).getD .int) hty0 c4 hown hK hP hD hS a hw hc kb hk (hG _ hlk) (fun _ q => q) hfin (ty := ty) (by rw [c3 kb hk, hty]) n1 n2 (by rw [List.length_map]; exact hv2) hd (fun H1 locs1 p1 d1 s1 => kk H1 locs1 lsA p1 d1 s1 hl)
              · exact va_putF hx hb hG c1 (fun k => ((E.2.1 ci)[k]?).getD .int) hty0 c4 hown hK hP hD hS a hw hc kb hk (hG _ hlk) (fun _ q => q) hfin (hinit hi) hdecl (ty := ty) (by rw [c3 kb hk, hty]) n1 n2 (by rw [List.length_map]; exact hv2) hd (fun H1 locs1 p1 d1 s1 => kk H1 locs1 lsA p1 d1 s1 hl)
            · cases h
          · cases h
        · cases h
      · cases h
    · cases h
  · exact hdef h
end MPX
