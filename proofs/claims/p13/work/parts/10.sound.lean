section MSS
variable {p : Program} {l : Launch} {e : Env} {R : Room} {s : State} {m : MethodId} {args : Array Value} {below : List Frame} {meth : Method} {c : Code} {H : Heap} {locs : List Loc} {cells slots : Nat} {Q : State → Prop}
variable {cc : ByteArray} {pc : Nat} {lsA : Array Slot} {D : va_G} {cl : List vw_C} {A : Nat → Prop} {G : List Cond} {X : mTkP} {E : mEnv} {ad ad0 : Nat → Nat} {cid : Nat → ClassId}
theorem mWd_blind (hX : ∀ w ∈ X.2.2.1, mWk w) {av : List Value} {mem : mMem} : FrameBlind (va_Pc av (mWd D cl cid A E X ad mem)) := by
  intro a U g mk h
  obtain ⟨h0, h1, h2, h3, h4, h5⟩ := h
  exact ⟨h0, h1, va_K.moved (u := U) (U := U.calling g mk a) (Vm.Alike.refl U.vm) h2, h3, mTk.warm (U := U.calling g mk a) hX (State.WarmedH.refl U) h4, h5⟩
theorem mWd_at (hX : mTok X) (hX2 : ∀ w ∈ X.2.2.1, mWk w) {mem : mMem} {n0 : Nat} (hA9 : mAg n0 ad0 ad) (hK : va_K D cl (mtys cid) s) (hA : ∀ q, s.heap.size ≤ q → A q) (hT : mTk ad0 A E X s s.heap) (hP : va_P D cl (mws ad cid mem) H) (hD : va_D A (mws ad cid mem)) (hS : va_S A s.heap H locs) {U : State} (hU : U.heap = H) (hW : s.WarmedH U.vm) : mWd D cl cid A E X ad mem U := by
  refine ⟨by rw [hU]; exact hP, va_K.moved hW.alike hK, hD, ?_, fun q hq => hA q (Nat.le_trans hS.1 (by rw [← hU]; exact hq))⟩
  rw [hU]
  exact mTk.ag hX.1 hX.2 hA9 (mTk.warm hX2 hW (hT.kept hS.2.1))
theorem mGoodW (hg : mGlob E G cl X) {mi : Nat} {M : mMeth} (hM : E.1 mi = some M) : GoodIn G (mWord M :: G) := by
  intro w hw
  rcases List.mem_cons.mp hw with rfl | hw
  · have h := (hg.2.2.2.2.2 mi M hM).2.2.2.1
    exact ⟨h, good_of_word (hg.1 _ h)⟩
  · exact ⟨hw, good_of_word (hg.1 w hw)⟩
theorem mpar_of {y : MethodName} {n : Nat} (h : mPar y = some n) : ∀ sig, parseMethodDescriptor y.desc = some sig → n = sig.parameters.length := by
  intro sig hs
  unfold mPar at h
  rw [hs] at h
  exact (Option.some.inj h).symm
/-- a call, as the kit runs it -/
theorem mcall_run (hg : mGlob E G cl X) {M M' : mMeth} {d mc ms : Nat} (hC : mCx p R s m args meth c E G cl X D cid A ad0 M (d + 1) mc ms) {n0 : Nat} (hA9 : mAg n0 ad0 ad) {mem : mMem} (hP : va_P D cl (mws ad cid mem) H) (hD : va_D A (mws ad cid mem)) (hS : va_S A s.heap H locs) (hsz : lsA.size = M.2.2.1)
    {q : mIns} (hd : decode M.2.1 pc = .ok (q.2.1, q.2.2.1)) (hlk : mLkC E G cl X M.1.cls q) (hM' : E.1 q.2.2.2.2.1 = some M') {st : List Value} (hlen : q.2.2.2.2.2.1 ≤ st.length) (hrest : mcat (st.drop q.2.2.2.2.2.1) ≤ 8) (hrecv : mrecv q (st.take q.2.2.2.2.2.1).reverse mem = true)
    {mc' ms' : Nat} {Qc : Array Value → State → Outcome → State → Prop} {XC : String → State → State → Prop}
    (hMet : vx_Met l M'.1 (mWord M' :: G) (mRm d mc' ms') (va_Pc ((st.take q.2.2.2.2.2.1).reverse.map (mcv1 ad)) (mWd D cl cid A E X ad mem)) Qc XC mc' ms' A) (hf : cells + mc' ≤ mc ∧ slots + ms' ≤ ms) :
    vx_Run p l e R s m args below meth c H locs cells slots mc' ms' (F0 m pc lsA (st.map (mcv1 ad))) ((st.drop q.2.2.2.2.2.1).map (mcv1 ad)) (Qc ((st.take q.2.2.2.2.2.1).reverse.map (mcv1 ad)).toArray) XC A := by
  obtain ⟨hx, hb, hml, hown, hG, hlocks, hret, htab, hname, hR, hK, hA, hT⟩ := hC
  obtain ⟨M2, e2, hl3, hini, hlk⟩ := hlk
  cases Option.some.inj (e2.symm.trans hM')
  obtain ⟨g1, g2, g3, g4, g5, -⟩ := hg.2.2.2.2.2 _ M' hM'
  have hgood := mGoodW hg hM'
  have hws : ∀ w ∈ mWord M' :: G, ∀ (a' : Array Value) (U : State), s.WarmedH U.vm → w.before a' U = true := pay_in hG hgood
  have hwd : ∀ U : State, U.heap = H → s.WarmedH U.vm → mWd D cl cid A E X ad mem U := fun U hU hW => mWd_at hg.2.2.1 hg.2.2.2.1 hA9 hK hA hT hP hD hS hU hW
  rw [hl3] at hd
  have hfr : (mRm d mc' ms').frames + 1 ≤ R.frames := by rw [hR]; exact Nat.le_refl _
  have hlo : 8 + (M'.2.2.1 + 11) + (mRm d mc' ms').locals ≤ R.locals := by
    rw [hR]
    show 8 + (M'.2.2.1 + 11) + 40 * d ≤ 40 * (d + 1)
    omega
  have hf' : cells + mc' ≤ R.cells ∧ slots + ms' ≤ R.slots := by rw [hR]; exact hf
  have hst : st.map (mcv1 ad) = ((st.take q.2.2.2.2.2.1).reverse.map (mcv1 ad)).reverse ++ (st.drop q.2.2.2.2.2.1).map (mcv1 ad) := by
    rw [List.map_reverse, List.reverse_reverse, ← List.map_append, List.take_append_drop]
  have hW9 : 2 * (F0 m pc lsA (st.map (mcv1 ad))).monitorRoom + (((st.drop q.2.2.2.2.2.1).map (mcv1 ad)).map fun v => v.category).sum ≤ 8 := by
    have := lv_room (m := m) (pc := pc) (ls := lsA) (rest := st.map (mcv1 ad)) (st := (st.drop q.2.2.2.2.2.1).map (mcv1 ad)) (by rw [mcat_cv]; exact hrest)
    exact this
  have hlenA : (st.take q.2.2.2.2.2.1).reverse.length = q.2.2.2.2.2.1 := by rw [List.length_reverse, List.length_take]; omega
  generalize hvs : (st.take q.2.2.2.2.2.1).reverse = vs at *
  rcases hlk with ⟨idx, n, hi, hh, ⟨T, N, hcl⟩, w1, w2, w3, hkb, hpar⟩ | ⟨idx, hi, w1, w2, hpar⟩ | ⟨idx, n, hi, hh, hnm, hrt, w2, hkb, hpar, hlink⟩
  · have e : mWord M' = .code M'.1 M'.2.1 M'.2.2.1 M'.2.2.2.1 := by unfold mWord; rw [if_pos hh]
    rw [hi] at hd
    have hrecv9 := hrecv
    unfold mrecv at hrecv9
    rw [hi] at hrecv9
    dsimp only at hrecv9
    split at hrecv9
    · rename_i a vs'
      split at hrecv9
      · rename_i ci fs hm
        have hci : ci = q.2.2.2.2.2.2.toNat := by simpa using hrecv9
        subst hci
        have hb9 := va_recv hK hP hcl (mws_get (ad := ad) (cid := cid) hm)
        refine vx_runV (As := vs'.map (mcv1 ad)) (b := ad a) (C := M'.1.cls) (y := M'.1) (bytes := M'.2.1) (maxL := M'.2.2.1) (ret := M'.2.2.2.1) (n := n) (own := M.1.cls) (index := idx) (Ts := G) ⟨hx, hb, hml, hown, hG⟩ hMet
          ⟨⟨rfl, rfl, hfr, hlo, hws, by rw [e]; exact List.mem_cons_self, by rw [← e]; exact hG _ g4, hG _ hini, g2, mpar_of hpar, hG _ w1⟩, hG _ w2, hG _ w3⟩
          ⟨mWd_blind hg.2.2.2.1, hb9, fun U hU hW => ⟨rfl, hwd U hU hW⟩⟩ rfl ?_ hsz ?_ hW9 hd hf'
        · have h9 := hlenA
          rw [hkb] at h9
          simp only [List.length_cons] at h9
          rw [List.length_map]
          omega
        · show st.map (mcv1 ad) = _
          rw [hst]
          show ((mcv1 ad (.ref a)) :: vs'.map (mcv1 ad)).reverse ++ _ = _
          rw [List.reverse_cons, List.append_assoc]
          rfl
      · cases hrecv9
    · cases hrecv9
  · rw [hi] at hd
    by_cases hh : M'.2.2.2.2.2.isEmpty = true
    · have e : mWord M' = .code M'.1 M'.2.1 M'.2.2.1 M'.2.2.2.1 := by unfold mWord; rw [if_pos hh]
      exact vx_runS (As := vs.map (mcv1 ad)) (y := M'.1) (bytes := M'.2.1) (maxL := M'.2.2.1) (ret := M'.2.2.2.1) (n := q.2.2.2.2.2.1) (own := M.1.cls) (index := idx) (Ts := G) ⟨hx, hb, hml, hown, hG⟩ hMet
        ⟨⟨rfl, rfl, hfr, hlo, hws, by rw [e]; exact List.mem_cons_self, by rw [← e]; exact hG _ g4, hG _ hini, g2, mpar_of hpar, hG _ w1⟩, hG _ w2⟩
        ⟨mWd_blind hg.2.2.2.1, fun U hU hW => ⟨rfl, hwd U hU hW⟩⟩ rfl (by rw [List.length_map]; exact hlenA) hsz hst hW9 hd hf'
    · have e : mWord M' = .codeWith M'.1 M'.2.1 M'.2.2.1 M'.2.2.2.1 (mHh M') := by unfold mWord; rw [if_neg hh]
      exact vx_runSX (As := vs.map (mcv1 ad)) (y := M'.1) (bytes := M'.2.1) (maxL := M'.2.2.1) (ret := M'.2.2.2.1) (hh := mHh M') (n := q.2.2.2.2.2.1) (own := M.1.cls) (index := idx) (Ts := G) ⟨hx, hb, hml, hown, hG⟩ hMet
        ⟨⟨rfl, rfl, hfr, hlo, hws, by rw [e]; exact List.mem_cons_self⟩, by rw [← e]; exact hG _ g4, hG _ hini, g2, mpar_of hpar, hG _ w1, hG _ w2⟩
        ⟨mWd_blind hg.2.2.2.1, fun U hU hW => ⟨rfl, hwd U hU hW⟩⟩ rfl (by rw [List.length_map]; exact hlenA) hsz hst hW9 hd hf'
  · have e : mWord M' = .code M'.1 M'.2.1 M'.2.2.1 none := by unfold mWord; rw [if_pos hh, hrt]
    rw [hi] at hd
    have hrecv9 := hrecv
    unfold mrecv at hrecv9
    rw [hi] at hrecv9
    dsimp only at hrecv9
    split at hrecv9
    · rename_i a vs'
      have hn9 : (vs'.map (mcv1 ad)).length = n := by
        have h9 := hlenA
        rw [hkb] at h9
        simp only [List.length_cons] at h9
        rw [List.length_map]
        omega
      have hst9 : (F0 m pc lsA (st.map (mcv1 ad))).stack = (vs'.map (mcv1 ad)).reverse ++ .ref (ad a) :: (st.drop q.2.2.2.2.2.1).map (mcv1 ad) := by
        show st.map (mcv1 ad) = _
        rw [hst]
        show ((mcv1 ad (.ref a)) :: vs'.map (mcv1 ad)).reverse ++ _ = _
        rw [List.reverse_cons, List.append_assoc]
        rfl
      have hcd : (Cond.code M'.1 M'.2.1 M'.2.2.1 none).before args s = true := by rw [← e]; exact hG _ g4
      have hPre : PreS s H (va_Pc (((.ref a) :: vs').map (mcv1 ad)) (mWd D cl cid A E X ad mem)) (.ref (ad a) :: vs'.map (mcv1 ad)) := ⟨mWd_blind hg.2.2.2.1, fun U hU hW => ⟨rfl, hwd U hU hW⟩⟩
      rcases hlink with w1 | ⟨host, w1⟩
      · exact vx_runI (As := vs'.map (mcv1 ad)) (b := ad a) (y := M'.1) (bytes := M'.2.1) (maxL := M'.2.2.1) (n := n) (own := M.1.cls) (index := idx) (Ts := G) ⟨hx, hb, hml, hown, hG⟩ hMet
          ⟨⟨rfl, rfl, hfr, hlo, hws, by rw [e]; exact List.mem_cons_self, hcd, hG _ hini, g2, mpar_of hpar, hG _ w1⟩, hnm, hG _ w2⟩
          hPre rfl hn9 hsz hst9 hW9 hd hf'
      · exact vx_runIN (As := vs'.map (mcv1 ad)) (b := ad a) (y := M'.1) (bytes := M'.2.1) (maxL := M'.2.2.1) (n := n) (own := M.1.cls) (index := idx) (host := host) (Ts := G) ⟨hx, hb, hml, hown, hG⟩ hMet
          ⟨⟨⟨rfl, rfl, hfr, hlo, hws, by rw [e]; exact List.mem_cons_self⟩, hcd, hG _ hini, g2, mpar_of hpar, va_Nw.use rfl (hT.2.2.2.1 _ w1)⟩, hnm, hG _ w2⟩
          hPre rfl hn9 hsz hst9 hW9 hd hf'
    · cases hrecv9
end MSS
