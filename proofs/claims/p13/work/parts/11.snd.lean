section MSN
variable {p : Program} {l : Launch} {e : Env} {R : Room} {s : State} {m : MethodId} {args : Array Value} {below : List Frame} {meth : Method} {c : Code} {H : Heap} {locs : List Loc} {cells slots : Nat} {Q : State → Prop}
variable {cc : ByteArray} {pc : Nat} {lsA : Array Slot} {D : va_G} {cl : List vw_C} {A : Nat → Prop} {G : List Cond} {X : mTkP} {E : mEnv} {ad ad0 : Nat → Nat} {cid : Nat → ClassId}
/-- an exception is caught, kept in a local, and forgotten -/
theorem mcatch_W (hx : p.tables.exec = Jvm.exec) (hb : c.code = cc) {i : Instr} {len : Nat} (hd : decode cc pc = .ok (i, len)) {j k : Nat} (h : mstore i = some (j, 2, k)) (hlen : mlen i len = true) {nL q9 : Nat} (hj : j < nL) {ls : mLs}
    (hl : lv_has lsA nL (mcvL ad ls)) (kk : ∀ ls1 : Array Slot, lv_has ls1 nL (mcvL ad (ls.filter (fun q => !(q.1 == j) && !(q.1 + 1 == j && q.2.category == 2)))) → W p l e R s m args below meth c H locs cells slots Q (F0 m (pc + k) ls1 [])) : W p l e R s m args below meth c H locs cells slots Q (F0 m pc lsA [.ref q9]) := by
  have hlen := mlen_store h hlen
  subst hlen
  have e : mcvL ad (ls.filter (fun q => !(q.1 == j) && !(q.1 + 1 == j && q.2.category == 2))) = (mcvL ad ls).filter (fun q => !(q.1 == j) && !(q.1 + 1 == j && q.2.category == 2)) := mcvL_filter (fun x c => !(x == j) && !(x + 1 == j && c == 2))
  rw [e] at kk
  cases i <;> simp only [mstore] at h <;> try (cases h; done)
  case astore_n n =>
    cases h
    exact lv_astore_n hx hb hd rfl hl hj rfl (fun ls1 h1 => kk ls1 ⟨h1.1, h1.2.1, fun q hq => h1.2.2 q (List.mem_cons_of_mem _ hq)⟩)
  case astore n =>
    cases h
    exact lv_astore hx hb hd hl hj rfl (fun ls1 h1 => kk ls1 ⟨h1.1, h1.2.1, fun q hq => h1.2.2 q (List.mem_cons_of_mem _ hq)⟩)
/-- a method's end -/
theorem mend {M : mMeth} {d mc ms n0 : Nat} {r : mRes} (hC : mCx p R s m args meth c E G cl X D cid A ad0 M d mc ms) (hA9 : mAg n0 ad0 ad) {mem : mMem} (hP : va_P D cl (mws ad cid mem) H) (hD : va_D A (mws ad cid mem)) (hS : va_S A s.heap H locs) {v : Option Value} {nc ns : Nat} (hr : r = (.inr v, mem, nc, ns)) :
    ∀ t : State, t.heap = H → s.WarmedH t.vm → mQc D cl cid A n0 ad0 r args s (.returned (v.map (mcv1 ad))) t := by
  intro t ht hW
  subst hr
  exact ⟨v, ad, rfl, rfl, hA9, by rw [ht]; exact hP, hD, mF_of hS ht⟩
theorem mthrow_W (hst : l.stackTraces = false) (hg : mGlob E G cl X) {M : mMeth} {d mc ms n0 : Nat} {r : mRes} (hC : mCx p R s m args meth c E G cl X D cid A ad0 M d mc ms) (hA9 : mAg n0 ad0 ad) {mem : mMem} (hP : va_P D cl (mws ad cid mem) H) (hD : va_D A (mws ad cid mem)) (hS : va_S A s.heap H locs) (hsz : lsA.size = M.2.2.1)
    {q : mIns} (hd : decode M.2.1 q.1 = .ok (q.2.1, q.2.2.1)) (hlk : mLkT E G X M.2.1 M.1.cls q) (hh : M.2.2.2.2.2.isEmpty = true) (hd8 : 8 ≤ d) {st : List Value} (hcs : mcat st ≤ 8) {nc ns : Nat} (hr : r = (.inl (E.2.2.2 q.2.2.2.2.1), mem, nc, ns)) (hmc : cells + 1 ≤ mc) (hms : slots + 6 ≤ ms) :
    W p l e R s m args below meth c H locs cells slots (vx_MQ below (mQc D cl cid A n0 ad0 r) (mXc D cl cid A n0 ad0 r) args s mc ms A) (F0 m q.1 lsA (st.map (mcv1 ad))) := by
  obtain ⟨hx, hb, hml, hown, hG, hlocks, hret, htab, hname, hR, hK, hA, hT⟩ := hC
  obtain ⟨ik, is, ic, text, sa, names, ix, rx, hi, hl3, f1, f2, f3, w1, w2, w3, w4, d3, d4, d7, d10, r0, r1, r2, r5⟩ := hlk
  rw [hi, hl3] at hd
  have htab9 : c.exceptionTable.toList = [] := by
    rw [htab]
    unfold mHh
    rw [List.isEmpty_iff.mp hh]
    rfl
  have hgw : ∀ w ∈ G, vx_ot w = true := by
    intro w hw
    unfold vx_ot
    rw [hg.1 w hw, Bool.or_true]
  have hat : ∀ w ∈ vx_aX M.1.cls ic (E.2.2.2 q.2.2.2.2.1) ix rx names, w.before args s = true := by
    intro w hw
    rcases (w4 w hw).1 with h | h
    · exact hG w h
    · exact va_Nw.use (hg.2.2.2.1 w h).1 (hT.2.2.2.1 w h)
  refine vx_throwX (own := M.1.cls) (cls := E.2.2.2 q.2.2.2.2.1) (text := text) (names := names) (ik := ik) (is := is) (ic := ic) (sa := ad0 sa) (A := A) hx hb hst r0 r1 r2 r5 hown f1 f2 (hG _ w1) (hG _ w2) (hT.2.2.1 _ w3) hat ?_ hT.2.2.2.2.2.1 hT.2.2.2.2.2.2 hS (hsz.trans hml.symm) hd d3 d4 d7 d10 ?_ ?_ ?_ ?_ ?_ hlocks ?_ hS.2.2 hmc hms
  · intro w hw
    rcases List.mem_cons.mp hw with rfl | hw
    · exact hgw _ w1
    rcases List.mem_cons.mp hw with rfl | hw
    · exact hgw _ w2
    exact (w4 w hw).2
  · rw [htab9]; exact fun x hx => nomatch hx
  · rw [hR]
    show names.length + 3 < d
    omega
  · rw [hR, mcat_cv]
    show mcat st + _ ≤ 40 * d
    omega
  · rw [hR]; exact hmc
  · rw [hR]; exact hms
  · intro t hW hz ho
    subst hr
    refine ⟨ad, rfl, hA9, ?_, hD, ?_⟩
    · exact hP.kept (fun k x hk => ho x.1 ((hP k x hk).lt))
    · exact ⟨Nat.le_trans hS.1 hz, fun q9 h1 h2 => (ho q9 (Nat.lt_of_lt_of_le h1 hS.1)).trans (hS.2.1 q9 h1 h2)⟩
end MSN
