/-- the small machine is sound -/
theorem mrun_W {l : Launch} {E : mEnv} {G : List Cond} {cl : List vw_C} {X : mTkP} (hst : l.stackTraces = false) (hg : mGlob E G cl X) (hstr : mStrOk l E G cl X) : ∀ n, mSnd l E G cl X n := by
  intro n
  induction n with
  | zero => intro d mi pc ls st mem nc ns r h; cases h
  | succ n ih =>
    intro d mi pc ls st mem nc ns r h hw M hM1 p e R s m args below meth c H locs cells slots D cid A ad0 ad mc ms n0 nc0 ns0 lsA hC hA9 hn0 hP hD hS hl hnc hns hrc hrs
    obtain ⟨hL, hSt, hMm⟩ := id hw
    obtain ⟨hx, hb, hml, hown, hG, hlocks, hret, htab, hname, hR, hK, hA, hT⟩ := id hC
    have hok := hg.2.2.2.2.2 mi M hM1
    have hsz : lsA.size = M.2.2.1 := hl.1
    have hTad : mTk ad A E X s s.heap := mTk.ag hg.2.2.1.1 hg.2.2.1.2 hA9 hT
    unfold mrun at h
    rw [hM1] at h
    dsimp only at h
    split at h
    · cases h
    · rename_i q hq
      obtain ⟨hqm, hqp⟩ := find_mem hq
      have hqp : q.1 = pc := by simpa using hqp
      subst hqp
      obtain ⟨k1, k2, k3, k4, k5, k6, k7⟩ := hok.2.2.2.2.1 q hqm
      split at h
      · -- a call
        rename_i hk9
        split at h
        · rename_i d M' hM'
          split at h
          · cases h
          · rename_i hc
            have c1 : q.2.2.2.2.2.1 ≤ st.length := Nat.not_lt.mp fun z => hc (Or.inl z)
            have c2 : mcat (st.drop q.2.2.2.2.2.1) ≤ 8 := Nat.not_lt.mp fun z => hc (Or.inr (Or.inl z))
            have c3 : mcat (st.take q.2.2.2.2.2.1) ≤ M'.2.2.1 := Nat.not_lt.mp fun z => hc (Or.inr (Or.inr (Or.inl z)))
            have c4 : mrecv q (st.take q.2.2.2.2.2.1).reverse mem = true := by
              cases hz : mrecv q (st.take q.2.2.2.2.2.1).reverse mem with
              | true => rfl
              | false => exact absurd (Or.inr (Or.inr (Or.inr hz))) hc
            have hargs : ∀ v ∈ (st.take q.2.2.2.2.2.1).reverse, mrok mem.length v := fun v hv => hSt v (List.mem_of_mem_take (List.mem_reverse.mp hv))
            have hrest : ∀ v ∈ st.drop q.2.2.2.2.2.1, mrok mem.length v := fun v hv => hSt v (List.mem_of_mem_drop hv)
            have hw1 : mwf (lv_args 0 (st.take q.2.2.2.2.2.1).reverse) [] mem := ⟨lvargs_wf hargs 0, (fun v hv => by cases hv), hMm⟩
            have key : ∀ r' : mRes, mrun E n d q.2.2.2.2.1 0 (lv_args 0 (st.take q.2.2.2.2.2.1).reverse) [] mem nc ns = some r' → r'.2.2.1 ≤ r.2.2.1 → r'.2.2.2 ≤ r.2.2.2 →
                vx_Run p l e R s m args below meth c H locs cells slots (r'.2.2.1 - nc) (r'.2.2.2 - ns) (F0 m q.1 lsA (st.map (mcv1 ad))) ((st.drop q.2.2.2.2.2.1).map (mcv1 ad)) (mQc D cl cid A mem.length ad r' ((st.take q.2.2.2.2.2.1).reverse.map (mcv1 ad)).toArray) (mXc D cl cid A mem.length ad r') A ∧ mRok nc ns mem r' := by
              intro r' hr' l1 l2
              have hwf' := mrun_wf hg _ _ _ _ _ _ _ _ _ _ hr' hw1
              have hMt := mMet hg ih hM' hr' hMm hargs (by rw [mcat_rev]; exact c3) D cid A ad
              obtain ⟨z1, z2, -⟩ := id hwf'
              exact ⟨mcall_run hg hC hA9 hP hD hS hsz k1 (k3 hk9) hM' c1 c2 c4 hMt ⟨by omega, by omega⟩, hwf'⟩
            split at h
            · cases h
            · rename_i v mem' nc' ns' hr
              have hst9 : ∀ w ∈ v.toList ++ st.drop q.2.2.2.2.2.1, mrok mem'.length w := by
                obtain ⟨-, -, a3, -, a5⟩ := mrun_wf hg _ _ _ _ _ _ _ _ _ _ hr hw1
                dsimp only at a3 a5
                intro w hw9
                rcases List.mem_append.mp hw9 with hw9 | hw9
                · cases v with
                  | none => cases hw9
                  | some v0 =>
                    rcases List.mem_singleton.mp hw9 with rfl
                    exact a5 _ rfl
                · exact (hrest w hw9).mono a3
              obtain ⟨a1, a2, a3, a4, a5⟩ := mrun_wf hg _ _ _ _ _ _ _ _ _ _ hr hw1
              dsimp only at a1 a2 a3 a4 a5
              have hw2 : mwf ls (v.toList ++ st.drop q.2.2.2.2.2.1) mem' := ⟨fun q hq9 => (hL q hq9).mono a3, hst9, a4⟩
              obtain ⟨b1, b2, -⟩ := mrun_wf hg _ _ _ _ _ _ _ _ _ _ h hw2
              obtain ⟨hrun, -⟩ := key _ hr b1 b2
              intro T hT9 X9
              rcases hrun T hT9 X9 with ⟨v9, st₀, t, T', L, h0, X', hL9, e1, e2, ⟨v0, ad', er, ev, hag, hP1, hD1, hF1⟩, stp⟩ | ⟨q9, st₀, t, T', L, E9, ce, h0, X', hL9, e1, e2, ⟨ad', er, -⟩, -⟩
              · cases er
                have hv9 : v9 = v.map (mcv1 ad') := by cases ev; rfl
                obtain ⟨y1, y2, y3⟩ := vx_keep (A0 := A) (A1 := A) (H0 := s.heap) h0 e1 hS (fun _ _ z => z) (fun _ z => z) hL9 hF1
                have hP2 : va_P D cl (mws ad' cid mem') T'.heap := by rw [e1]; exact hP1
                have k9 := ih (d + 1) mi (q.1 + 3) ls (v.toList ++ st.drop q.2.2.2.2.2.1) mem' nc' ns' r h hw2 M hM1 p e R s m args below meth c T'.heap (locs ++ L) (cells + (nc' - nc)) (slots + (ns' - ns)) D cid A ad0 ad' mc ms n0 nc0 ns0 lsA hC (hA9.trans hag hn0) (Nat.le_trans hn0 a3) hP2 hD1 y3 (by rw [mcvL_ag hag hL]; exact hl) (by omega) (by omega) hrc hrs
                have ek : (v.toList ++ st.drop q.2.2.2.2.2.1).map (mcv1 ad') = v9.toList ++ (st.drop q.2.2.2.2.2.1).map (mcv1 ad) := by
                  rw [List.map_append, mcvS_ag hag hrest, hv9]
                  cases v <;> rfl
                rw [ek] at k9
                obtain ⟨t2, f1, f2⟩ := k9 T' rfl X'
                exact ⟨t2, stp t2 f1, f2⟩
              · cases er
            · rename_i x9 mem' nc' ns' hr
              obtain ⟨a1, a2, a3, a4, a5⟩ := mrun_wf hg _ _ _ _ _ _ _ _ _ _ hr hw1
              dsimp only at a1 a2 a3 a4 a5
              split at h
              · split at h
                · rename_i hh
                  cases h
                  obtain ⟨hrun, -⟩ := key _ hr (Nat.le_refl _) (Nat.le_refl _)
                  intro T hT9 X9
                  rcases hrun T hT9 X9 with ⟨v9, st₀, t, T', L, h0, X', hL9, e1, e2, ⟨v0, ad', er, -⟩, -⟩ | ⟨q9, st₀, t, T', L, E9, ce, h0, X', hL9, e1, e2, ⟨ad', er, hag, hP1, hD1, hF1⟩, hce, hcv, hcl9, stp⟩
                  · cases er
                  · cases er
                    obtain ⟨y1, y2, y3⟩ := vx_keep (A0 := A) (A1 := A) (H0 := s.heap) h0 e1 hS (fun _ _ z => z) (fun _ z => z) hL9 hF1
                    have hP2 : va_P D cl (mws ad' cid mem') T'.heap := by rw [e1]; exact hP1
                    have htab9 : c.exceptionTable.toList = [] := by
                      rw [htab]
                      unfold mHh
                      rw [List.isEmpty_iff.mp hh]
                      rfl
                    have k9 : vx_W p l e R s m args below meth c T'.heap (locs ++ L) (cells + (nc' - nc)) (slots + (ns' - ns)) (vx_MQ below (mQc D cl cid A n0 ad0 (.inl x9, mem', nc', ns')) (mXc D cl cid A n0 ad0 (.inl x9, mem', nc', ns')) args s mc ms A) (F0 m q.1 lsA ((st.drop q.2.2.2.2.2.1).map (mcv1 ad))) q9 := by
                      refine vx_out (E := x9) (ce := ce) (by rw [htab9]; exact fun x hx => nomatch hx) hlocks (by rw [e1]; exact hce) hcv hcl9 ?_ y3.2.2 ?_ ?_
                      · intro t9 ht9 hW9
                        exact ⟨ad', rfl, hA9.trans hag hn0, by rw [ht9]; exact hP2, hD1, mF_of y3 ht9⟩
                      · dsimp only at hrc; omega
                      · dsimp only at hrs; omega
                    obtain ⟨t2, f1, f2⟩ := k9 T' rfl X'
                    exact ⟨t2, stp.trans f1, f2⟩
                · cases h
              · rename_i j pc' hcat
                split at h
                · rename_i hj
                  have hw2 : mwf (ls.filter (fun q => !(q.1 == j) && !(q.1 + 1 == j && q.2.category == 2))) [] mem' := ⟨fun q hq9 => (hL q (List.mem_filter.mp hq9).1).mono a3, (fun v hv => by cases hv), a4⟩
                  obtain ⟨b1, b2, -⟩ := mrun_wf hg _ _ _ _ _ _ _ _ _ _ h hw2
                  obtain ⟨hrun, -⟩ := key _ hr b1 b2
                  unfold mcatch at hcat
                  split at hcat
                  · cases hcat
                  · rename_i h9 hf9
                    split at hcat
                    · rename_i q8 hf8
                      split at hcat
                      · rename_i j8 kk8 hms8
                        cases hcat
                        obtain ⟨hq8m, hq8p⟩ := find_mem hf8
                        have hq8p : q8.1 = h9.2.2.1 := by simpa using hq8p
                        obtain ⟨u1, u2, -⟩ := hok.2.2.2.2.1 q8 hq8m
                        rw [hq8p] at u1
                        obtain ⟨hp9, pre, suf, hsplit, hpre⟩ := List.find?_eq_some_iff_append.mp hf9
                        simp only [Bool.and_eq_true, decide_eq_true_eq] at hp9
                        obtain ⟨⟨p1, p2⟩, p3⟩ := hp9
                        have hh9 : h9 ∈ M.2.2.2.2.2 := by rw [hsplit]; simp
                        obtain ⟨v1, v2, v3, v4⟩ := hok.2.2.2.2.2 h9 hh9
                        intro T hT9 X9
                        rcases hrun T hT9 X9 with ⟨v9, st₀, t, T', L, h0, X', hL9, e1, e2, ⟨v0, ad', er, -⟩, -⟩ | ⟨q9, st₀, t, T', L, E9, ce, h0, X', hL9, e1, e2, ⟨ad', er, hag, hP1, hD1, hF1⟩, hce, hcv, hcl9, stp⟩
                        · cases er
                        · cases er
                          obtain ⟨y1, y2, y3⟩ := vx_keep (A0 := A) (A1 := A) (H0 := s.heap) h0 e1 hS (fun _ _ z => z) (fun _ z => z) hL9 hF1
                          have hP2 : va_P D cl (mws ad' cid mem') T'.heap := by rw [e1]; exact hP1
                          have hcast : (Cond.castable x9 h9.2.2.2.2).before args s = true := by
                            rw [← p3]
                            rcases v3 with v3 | v3
                            · exact hG _ v3
                            · exact va_Nw.use (hg.2.2.2.1 _ v3).1 (hT.2.2.2.1 _ v3)
                          have k9 : W p l e R s m args below meth c T'.heap (locs ++ L) (cells + (nc' - nc)) (slots + (ns' - ns)) (vx_MQ below (mQc D cl cid A n0 ad0 r) (mXc D cl cid A n0 ad0 r) args s mc ms A) (F0 m h9.2.2.1 lsA [.ref q9]) := by
                            refine mcatch_W (ad := ad') hx hb u1 hms8 u2 hj (by rw [mcvL_ag hag hL]; exact hl) (fun ls1 hl1 => ?_)
                            exact ih (d + 1) mi (h9.2.2.1 + kk8) _ [] mem' nc' ns' r h hw2 M hM1 p e R s m args below meth c T'.heap (locs ++ L) (cells + (nc' - nc)) (slots + (ns' - ns)) D cid A ad0 ad' mc ms n0 nc0 ns0 ls1 hC (hA9.trans hag hn0) (Nat.le_trans hn0 a3) hP2 hD1 y3 hl1 (by omega) (by omega) hrc hrs
                          have k8 : vx_W p l e R s m args below meth c T'.heap (locs ++ L) (cells + (nc' - nc)) (slots + (ns' - ns)) (vx_MQ below (mQc D cl cid A n0 ad0 r) (mXc D cl cid A n0 ad0 r) args s mc ms A) (F0 m q.1 lsA ((st.drop q.2.2.2.2.2.1).map (mcv1 ad))) q9 := by
                            refine vx_catch (own := M.1.cls) (name := h9.2.2.2.2) (E := x9) (ce := ce) hown (tableOf (pre.map (fun h => (h.1, h.2.1, h.2.2.1, h.2.2.2.1)))) ⟨h9.1, h9.2.1, h9.2.2.1, h9.2.2.2.1⟩ (tableOf (suf.map (fun h => (h.1, h.2.1, h.2.2.1, h.2.2.2.1)))) ?_ ?_ ?_ v2 (hG _ v1) hcast (by rw [e1]; exact hce) hcv hcl9 k9
                            · rw [htab]
                              unfold mHh
                              rw [hsplit]
                              simp [tableOf]
                            · intro z hz
                              obtain ⟨z1, hz1, rfl⟩ := List.mem_map.mp hz
                              obtain ⟨z2, hz2, rfl⟩ := List.mem_map.mp hz1
                              have hz3 := hpre z2 hz2
                              have hz4 : z2 ∈ M.2.2.2.2.2 := by rw [hsplit]; simp [hz2]
                              obtain ⟨w1, w2, -⟩ := hok.2.2.2.2.2 z2 hz4
                              by_cases hn : z2.2.2.2.2 = h9.2.2.2.2
                              · left
                                simp only [Bool.not_eq_true', Bool.and_eq_false_iff, decide_eq_false_iff_not] at hz3
                                have hn2 : z2.2.2.2.2 = x9 := hn.trans p3
                                simp only [covers, Bool.and_eq_false_iff, decide_eq_false_iff_not]
                                rcases hz3 with (hz3 | hz3) | hz3
                                · exact Or.inl hz3
                                · exact Or.inr hz3
                                · exact absurd hn2 hz3
                              · right
                                refine ⟨w2, z2.2.2.2.2, hG _ w1, ?_⟩
                                have h7 := hT.2.2.2.2.1 _ (v4 z2 hz4 hn)
                                rw [p3] at h7
                                exact h7
                            · simp only [covers, Bool.and_eq_true, decide_eq_true_eq]
                              exact ⟨p1, p2⟩
                          obtain ⟨t2, f1, f2⟩ := k8 T' rfl X'
                          exact ⟨t2, stp.trans f1, f2⟩
                      · cases hcat
                    · cases hcat
                · cases h
        · cases h
      · rename_i hk9
        split at h
        · rename_i hk8
          split at h
          · rename_i hh
            cases h
            dsimp only at hrc hrs
            exact mthrow_W hst hg hC hA9 hP hD hS hsz k1 (k4 hk8) hh.1 hh.2.1 hh.2.2 rfl (by omega) (by omega)
          · cases h
        · rename_i hk8
          split at h
          · rename_i hk7
            split at h
            · cases h
            · rename_i hd8
              have d8 : 8 ≤ d := by omega
              have dc : mcat st ≤ 8 := by omega
              split at h
              · rename_i st' mem' hp
                obtain ⟨b1, b2⟩ := mprim_wf hp hw
                obtain ⟨y1, y2, -⟩ := mrun_wf hg _ _ _ _ _ _ _ _ _ _ h b2
                refine mprim_W hx hb (hml.trans hsz.symm) hown hG hK (k5 hk7) k1 k2 hp dc (by rw [hR]; exact d8) (by rw [hR]; show 320 ≤ 40 * d; omega) ?_ hP hD hS ?_
                · intro hk23 hp9 hW9
                  exact hstr p e R s m args below meth c H locs cells slots _ D cid A ad0 ad M mi d mc ms n0 q lsA st st' mem mem' hM1 hqm hk7 hk23 hC hA9 hS hsz d8 dc (by omega) (by omega) hp9 hW9
                · intro H1 locs1 p1 d1 s1
                  exact ih d mi (q.1 + 3) ls st' mem' nc ns r h b2 M hM1 p e R s m args below meth c H1 locs1 cells slots D cid A ad0 ad mc ms n0 nc0 ns0 lsA hC hA9 (by rw [b1]; exact hn0) p1 d1 s1 hl hnc hns hrc hrs
              · cases h
          · rename_i hk7
            have hlk := k6 (by omega)
            split at h
            · rename_i hi
              split at h
              · rename_i hrt
                cases h
                dsimp only at hrc hrs
                have hlen := k2
                rw [hi] at hlen k1
                simp only [mlen, beq_iff_eq] at hlen
                rw [hlen] at k1
                have e1 : mc = cells := by omega
                have e2 : ms = slots := by omega
                subst e1; subst e2
                exact vx_ret (W.vret hx hb (hret.trans hrt) (mend hC hA9 hP hD hS rfl) hS.2.2 k1 hlocks)
              · cases h
            · rename_i x hi
              split at h
              · rename_i ty hrt
                split at h
                · rename_i hty
                  cases h
                  dsimp only at hrc hrs
                  have hlen := k2
                  rw [hi] at hlen k1
                  simp only [mlen, beq_iff_eq] at hlen
                  rw [hlen] at k1
                  have e1 : mc = cells := by omega
                  have e2 : ms = slots := by omega
                  subst e1; subst e2
                  exact vx_ret (W.zret hx hb (hret.trans hrt) hty.1 (mend (v := some (.int x)) hC hA9 hP hD hS rfl) hS.2.2 k1 hlocks)
                · cases h
              · cases h
            · rename_i x hi
              split at h
              · rename_i hrt
                cases h
                dsimp only at hrc hrs
                have hlen := k2
                rw [hi] at hlen k1
                simp only [mlen, beq_iff_eq] at hlen
                rw [hlen] at k1
                have e1 : mc = cells := by omega
                have e2 : ms = slots := by omega
                subst e1; subst e2
                exact vx_ret (W.lret hx hb (hret.trans hrt) (mend (v := some (.long x)) hC hA9 hP hD hS rfl) hS.2.2 k1 hlocks)
              · cases h
            · split at h
              · rename_i pc' ls' st' mem' hp
                obtain ⟨b1, b2⟩ := mplain_wf hg.2.2.1 hlk hp hw
                refine mplain_W hx hb hown hG hTad hg.2.1 hK hg.2.2.2.2.1 (fun hi => by rw [hname]; simpa using hi) hlk k1 k2 hp hl hP hD hS (fun H1 locs1 ls1 p1 d1 s1 l1 => ?_)
                exact ih d mi pc' ls' st' mem' nc ns r h b2 M hM1 p e R s m args below meth c H1 locs1 cells slots D cid A ad0 ad mc ms n0 nc0 ns0 ls1 hC hA9 (by rw [b1]; exact hn0) p1 d1 s1 l1 hnc hns hrc hrs
              · split at h
                · cases h
                · rename_i hn1000
                  split at h
                  · rename_i k st' mem' ms' hp
                    obtain ⟨b1, b2⟩ := malloc_wf hp hw
                    obtain ⟨y1, y2, -⟩ := mrun_wf hg _ _ _ _ _ _ _ _ _ _ h b2
                    have hmc : cells + 1 ≤ mc := by omega
                    have hms : slots + ms' ≤ ms := by omega
                    refine malloc_W hx hb hown hG hg.2.1 hK hA hlk k1 k2 hp (by omega) hMm hSt hP hD hS (by rw [hR]; exact hmc) (by rw [hR]; exact hms) (fun ad' H1 locs1 hag p1 d1 s1 => ?_)
                    exact ih d mi (q.1 + k) ls st' mem' (nc + 1) (ns + ms') r h b2 M hM1 p e R s m args below meth c H1 locs1 (cells + 1) (slots + ms') D cid A ad0 ad' mc ms n0 nc0 ns0 lsA hC (hA9.trans hag hn0) (by rw [b1]; omega) p1 d1 s1 (by rw [mcvL_ag hag hL]; exact hl) (by omega) (by omega) hrc hrs
                  · cases h
