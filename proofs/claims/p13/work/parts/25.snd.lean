/-! the checker is sound -/
theorem zlm_len {r : List Int} : ∀ {vs : List Value} {as : List zV}, zlm r vs as → vs.length = as.length
  | [], [], _ => rfl
  | _ :: _, _ :: _, h => by simp [zlm_len h.2]
theorem zlm_take {r : List Int} : ∀ (n : Nat) {vs : List Value} {as : List zV}, zlm r vs as → zlm r (vs.take n) (as.take n)
  | 0, _, _, _ => by simp only [List.take_zero]; trivial
  | _ + 1, [], [], _ => trivial
  | n + 1, _ :: _, _ :: _, h => ⟨h.1, zlm_take n h.2⟩
theorem zlm_drop {r : List Int} : ∀ (n : Nat) {vs : List Value} {as : List zV}, zlm r vs as → zlm r (vs.drop n) (as.drop n)
  | 0, _, _, h => h
  | _ + 1, [], [], _ => trivial
  | n + 1, _ :: _, _ :: _, h => zlm_drop n h.2
theorem zlm_app {r : List Int} : ∀ {vs us : List Value} {as bs : List zV}, zlm r vs as → zlm r us bs → zlm r (vs ++ us) (as ++ bs)
  | [], _, [], _, _, h => h
  | _ :: _, _, _ :: _, _, h, h2 => ⟨h.1, zlm_app h.2 h2⟩
theorem zlm_rev {r : List Int} : ∀ {vs : List Value} {as : List zV}, zlm r vs as → zlm r vs.reverse as.reverse
  | [], [], _ => trivial
  | _ :: _, _ :: _, h => by
    rw [List.reverse_cons, List.reverse_cons]
    exact zlm_app (zlm_rev h.2) ⟨h.1, trivial⟩
theorem znz_all {as : List zV} : znz as = true ↔ ∀ a ∈ as, Nat.beq a.1 0 = false := by
  induction as with
  | nil => simp [znz]
  | cons a l ih => simp [znz, ih]
theorem zex_ok {E : mEnv} {ro : zQ} {dn : Nat} {con : zK} (hcon : zCon E ro dn con) (hsr : ∀ mi M, E.1 mi = some M → zsr M.2.2.2.2.1 = true) :
    ∀ n d mi M cur pc als ast F w nc ns L, zex E ro dn con n d mi M cur pc als ast F w nc ns = some L → E.1 mi = some M → zsf M.2.2.2.2.1 cur →
    ∀ r ls st mem nc0 ns0 P, zRo E r ro → zFok r F → zls r ls als → zlm r st ast → zmm r mem w → nc0 ≤ nc → ns0 ≤ ns →
    (∀ o ∈ L, ∀ r' res, zX r r' → zuo E r' o res → P res) → mGd E P d mi pc ls st mem nc0 ns0 := by
  intro n
  induction n with
  | zero => intro d mi M cur pc als ast F w nc ns L h; cases h
  | succ n ih =>
    intro d mi M cur pc als ast F w nc ns L h hM hcur r ls st mem nc0 ns0 P hr hF hl hs hm hnc hns hP
    unfold zex at h
    cases hf : zft9 M.2.2.2.2.1 cur pc with
    | none => rw [hf] at h; cases h
    | some qt =>
      obtain ⟨q, tl⟩ := qt
      rw [hf] at h
      simp only at h
      obtain ⟨hq, htl⟩ := zft9_ok (hsr mi M hM) hcur hf
      cases c9 : Nat.beq q.2.2.2.1 9 with
      | true =>
        rw [c9] at h
        simp only [cond_true] at h
        have h9 := zbe.mp c9
        cases d with
        | zero => cases h
        | succ d =>
          cases hM' : E.1 q.2.2.2.2.1 with
          | none => rw [hM'] at h; cases h
          | some M' =>
            rw [hM'] at h
            simp only at h
            cases cc : (Nat.ble q.2.2.2.2.2.1 ast.length && znz ast && Nat.ble (zcat (ast.drop q.2.2.2.2.2.1)) 8 && Nat.ble (zcat (ast.take q.2.2.2.2.2.1)) M'.2.2.1 && zrc q (ast.take q.2.2.2.2.2.1).reverse w) with
            | false => rw [cc] at h; cases h
            | true =>
              rw [cc] at h
              simp only [cond_true] at h
              simp only [Bool.and_eq_true, Nat.ble_eq] at cc
              obtain ⟨⟨⟨⟨k1, k2⟩, k3⟩, k4⟩, k5⟩ := cc
              have hnz := znz_all.mp k2
              have ht := zlm_take q.2.2.2.2.2.1 hs
              have hd := zlm_drop q.2.2.2.2.2.1 hs
              have ntk : znz (ast.take q.2.2.2.2.2.1) = true := znz_all.mpr fun a ha => hnz a (List.mem_of_mem_take ha)
              have ndr : znz (ast.drop q.2.2.2.2.2.1) = true := znz_all.mpr fun a ha => hnz a (List.mem_of_mem_drop ha)
              have nrv : znz (ast.take q.2.2.2.2.2.1).reverse = true := znz_all.mpr fun a ha => hnz a (List.mem_of_mem_take (List.mem_reverse.mp ha))
              have hrev := zlm_rev ht
              refine mGd_call hM hq h9 hM' (by rw [zlm_len hs]; exact k1) (by rw [zcat_ok hd ndr]; exact k3) (by rw [zcat_ok ht ntk]; exact k4) (zrc_ok hrev hm k5) ?_
              -- behind the callee
              have beh : ∀ Lc : List zU, zjn (Lc.map fun o => match o.1 with
                  | 0 => zfn (pc + 3) fun p => zex E ro dn con n (d + 1) mi M tl p als (ast.drop q.2.2.2.2.2.1) o.2.2.1 o.2.2.2.1 o.2.2.2.2.1 o.2.2.2.2.2
                  | 1 => zfn (pc + 3) fun p => zex E ro dn con n (d + 1) mi M tl p als (o.2.1 :: ast.drop q.2.2.2.2.2.1) o.2.2.1 o.2.2.2.1 o.2.2.2.2.1 o.2.2.2.2.2
                  | _ => (match mcatch M pc (E.2.2.2 o.2.1.2.1) with
                    | none => bif M.2.2.2.2.2.isEmpty then some [o] else none
                    | some (j, pc') => bif Nat.ble (j + 1) M.2.2.1 then zex E ro dn con n (d + 1) mi M tl pc' (zrl (zrp als j) j) [] o.2.2.1 o.2.2.2.1 o.2.2.2.2.1 o.2.2.2.2.2 else none)) = some L →
                  ∀ o ∈ Lc, ∀ r' res, zX r r' → zuo E r' o res → mBk E P d mi pc M q.2.2.2.2.2.1 ls st res := by
                intro Lc hj o ho r' res hx hu
                obtain ⟨Lo, e1, e2⟩ := zjn_mem hj _ (List.mem_map_of_mem ho)
                obtain ⟨res1, mem', nc', ns'⟩ := res
                obtain ⟨u1, u2, u3, u4, u5⟩ := hu
                dsimp only at u2 u3 u4 u5
                have go : ∀ o' ∈ Lo, ∀ r'' res, zX r' r'' → zuo E r'' o' res → P res := fun o' ho' r'' res hx' hu' => hP o' (e2 o' ho') r'' res (hx.tr hx') hu'
                split at e1
                · rename_i e0
                  rw [e0] at u5
                  simp only at u5
                  subst u5
                  simp only [zfn_eq] at e1
                  exact ih _ _ _ _ _ _ _ _ _ _ _ _ e1 hM htl r' ls (st.drop q.2.2.2.2.2.1) mem' nc' ns' P (hr.ex hx) u1 (hl.ex hx) (hd.ex hx) u2 u3 u4 go
                · rename_i e0
                  rw [e0] at u5
                  simp only at u5
                  obtain ⟨v, rfl, hv⟩ := u5
                  simp only [zfn_eq] at e1
                  exact ih _ _ _ _ _ _ _ _ _ _ _ _ e1 hM htl r' ls (v :: st.drop q.2.2.2.2.2.1) mem' nc' ns' P (hr.ex hx) u1 (hl.ex hx) ⟨hv, hd.ex hx⟩ u2 u3 u4 go
                · rename_i n0 n1
                  have u6 : res1 = .inl (E.2.2.2 o.2.1.2.1) := by
                    split at u5
                    · rename_i e0; exact absurd e0 n0
                    · rename_i e0; exact absurd e0 n1
                    · exact u5
                  subst u6
                  unfold mBk
                  simp only
                  cases hk : mcatch M pc (E.2.2.2 o.2.1.2.1) with
                  | none =>
                    rw [hk] at e1
                    simp only at e1 ⊢
                    cases hh : M.2.2.2.2.2.isEmpty with
                    | false => rw [hh] at e1; cases e1
                    | true =>
                      rw [hh] at e1
                      have e1 : some [o] = some Lo := e1
                      cases e1
                      refine ⟨rfl, go o List.mem_cons_self r' _ zX.rf ⟨u1, u2, u3, u4, ?_⟩⟩
                      split
                      · rename_i e0; exact absurd e0 n0
                      · rename_i e0; exact absurd e0 n1
                      · rfl
                  | some jp =>
                    obtain ⟨j, pc'⟩ := jp
                    rw [hk] at e1
                    simp only at e1 ⊢
                    cases hj9 : Nat.ble (j + 1) M.2.2.1 with
                    | false => rw [hj9] at e1; cases e1
                    | true =>
                      rw [hj9] at e1
                      rw [Nat.ble_eq] at hj9
                      refine ⟨by omega, ?_⟩
                      exact ih _ _ _ _ _ _ _ _ _ _ _ _ e1 hM htl r' _ [] mem' nc' ns' P (hr.ex hx) u1 ((hl.ex hx).h1 j) trivial u2 u3 u4 go
              cases hc : (bif Nat.ble dn d then con q.2.2.2.2.1 (ast.take q.2.2.2.2.2.1).reverse F w nc ns else none) with
              | some Lc =>
                rw [hc] at h
                simp only at h
                cases hdn : Nat.ble dn d with
                | false => rw [hdn] at hc; cases hc
                | true =>
                  rw [hdn] at hc
                  rw [Nat.ble_eq] at hdn
                  obtain ⟨m, res, h1, o, ho, r', hx, hu⟩ := hcon d _ _ F w nc ns Lc hdn hc r _ mem nc0 ns0 hr hF hrev hm hnc hns
                  exact ⟨m, res, h1, beh Lc h o ho r' res hx hu⟩
              | none =>
                rw [hc] at h
                simp only at h
                cases hi : zex E ro dn con n d q.2.2.2.2.1 M' M'.2.2.2.2.1 0 (zarg 0 (ast.take q.2.2.2.2.2.1).reverse) [] F w nc ns with
                | none => rw [hi] at h; cases h
                | some Lc =>
                  rw [hi] at h
                  simp only at h
                  exact ih _ _ _ _ _ _ _ _ _ _ _ _ hi hM' ⟨[], rfl⟩ r _ [] mem nc0 ns0 _ hr hF (zarg_ok 0 hrev nrv) trivial hm hnc hns (beh Lc h)
      | false =>
        rw [c9] at h
        simp only [cond_false] at h
        cases c8 : Nat.beq q.2.2.2.1 8 with
        | true =>
          rw [c8] at h
          simp only [cond_true] at h
          cases cc : (M.2.2.2.2.2.isEmpty && Nat.ble 8 d && znz ast && Nat.ble (zcat ast) 8) with
          | false => rw [cc] at h; cases h
          | true =>
            rw [cc] at h
            cases h
            simp only [Bool.and_eq_true, Nat.ble_eq] at cc
            obtain ⟨⟨⟨k1, k2⟩, k3⟩, k4⟩ := cc
            refine mGd_thr hM hq (zbe.mp c8) k1 k2 (by rw [zcat_ok hs k3]; exact k4) ?_
            exact hP _ List.mem_cons_self r _ zX.rf ⟨hF, hm, by dsimp only; omega, by dsimp only; omega, rfl⟩
        | false =>
          rw [c8] at h
          simp only [cond_false] at h
          cases c7 : Nat.beq q.2.2.2.1 7 with
          | true =>
            rw [c7] at h
            simp only [cond_true] at h
            cases cc : (Nat.ble 8 d && znz ast && Nat.ble (zcat ast) 8) with
            | false => rw [cc] at h; cases h
            | true =>
              rw [cc] at h
              simp only [cond_true] at h
              simp only [Bool.and_eq_true, Nat.ble_eq] at cc
              obtain ⟨⟨k2, k3⟩, k4⟩ := cc
              split at h
              · rename_i st' w' ep
                simp only [zfn_eq] at h
                obtain ⟨st1, mem1, p1, p2, p3⟩ := zpr_ok (E := E) hF hs hm ep
                refine mGd_prim hM hq (zbe.mp c7) k2 (by rw [zcat_ok hs k3]; exact k4) p1 ?_
                exact ih _ _ _ _ _ _ _ _ _ _ _ _ h hM htl r ls st1 mem1 nc0 ns0 P hr hF hl p2 p3 hnc hns hP
              · cases h
          | false =>
            rw [c7] at h
            simp only [cond_false] at h
            cases c6 : Nat.ble 7 q.2.2.2.1 with
            | true => rw [c6] at h; cases h
            | false =>
              rw [c6] at h
              simp only [cond_false] at h
              have h7 : q.2.2.2.1 < 7 := by
                rw [← Bool.not_eq_true, Nat.ble_eq] at c6; omega
              have alc : ∀ {k : Nat} {st' : List zV} {w' : zW} {ms : Nat}, zao E.2.1 q ast F w = some (k, st', w', ms) → zex E ro dn con n d mi M tl (pc + k) als st' F w' (nc + 1) (ns + ms) = some L →
                  q.2.1 ≠ .return_ → q.2.1 ≠ .ireturn → q.2.1 ≠ .lreturn → mGd E P d mi pc ls st mem nc0 ns0 := by
                intro k st' w' ms ea hz n1 n2 n3
                obtain ⟨b1, b2, st1, mem1, b3, b4, b5⟩ := zao_ok (nL := M.2.2.1) (pc := pc) (ls := ls) hF hs hm ea
                refine mGd_alloc hM hq h7 n1 n2 n3 b1 b2 b3 ?_
                exact ih _ _ _ _ _ _ _ _ _ _ _ _ hz hM htl r ls st1 mem1 _ _ P hr hF hl b4 b5 (by omega) (by omega) hP
              split at h
              · rename_i e
                split at h
                · rename_i et
                  cases h
                  have : st = [] := by cases st with
                    | nil => rfl
                    | cons _ _ => exact hs.elim
                  subst this
                  refine mGd_ret hM hq h7 e et ?_
                  exact hP _ List.mem_cons_self r _ zX.rf ⟨hF, hm, hnc, hns, rfl⟩
                · cases h
              · rename_i e
                split at h
                · rename_i a ty et
                  obtain ⟨v, vs, rfl, hv, hvs⟩ := zlm_cons hs
                  have : vs = [] := by cases vs with
                    | nil => rfl
                    | cons _ _ => exact hvs.elim
                  subst this
                  cases cc : (Nat.beq a.1 1 && zft F ty a) with
                  | false => rw [cc] at h; cases h
                  | true =>
                    rw [cc] at h
                    cases h
                    simp only [Bool.and_eq_true] at cc
                    obtain ⟨x, rfl, hx⟩ := zvm_i hv cc.1
                    obtain ⟨f1, -⟩ := zft_ok hF hv cc.2
                    simp only [mfit, Bool.and_eq_true, decide_eq_true_eq] at f1
                    refine mGd_iret hM hq h7 e et f1.1 f1.2 ?_
                    exact hP _ List.mem_cons_self r _ zX.rf ⟨hF, hm, hnc, hns, _, rfl, hv⟩
                · cases h
              · rename_i e
                split at h
                · rename_i a et
                  obtain ⟨v, vs, rfl, hv, hvs⟩ := zlm_cons hs
                  have : vs = [] := by cases vs with
                    | nil => rfl
                    | cons _ _ => exact hvs.elim
                  subst this
                  cases cc : Nat.ble 3 a.1 with
                  | false => rw [cc] at h; cases h
                  | true =>
                    rw [cc] at h
                    cases h
                    obtain ⟨x, rfl⟩ := zvm_l hv cc
                    refine mGd_lret hM hq h7 e et ?_
                    exact hP _ List.mem_cons_self r _ zX.rf ⟨hF, hm, hnc, hns, _, rfl, hv⟩
                · cases h
              · rename_i k9 e
                split at h
                · rename_i k st' w' ms ea
                  simp only [zfn_eq] at h
                  exact alc ea h (by rw [e]; simp) (by rw [e]; simp) (by rw [e]; simp)
                · cases h
              · rename_i k9 e
                split at h
                · rename_i k st' w' ms ea
                  simp only [zfn_eq] at h
                  exact alc ea h (by rw [e]; simp) (by rw [e]; simp) (by rw [e]; simp)
                · cases h
              · rename_i n1 n2 n3 n4 n5
                split at h
                · rename_i Ls es
                  obtain ⟨pc', ls', st', mem', r', m1, m2, o, ho, m3, m4, m5, m6, m7⟩ := zst_ok hr hF hl hs hm es
                  refine mGd_plain hM hq h7 n1 n2 n3 m1 ?_
                  obtain ⟨Lo, e1, e2⟩ := zjn_mem h _ (List.mem_map_of_mem ho)
                  rw [← m3]
                  exact ih _ _ _ _ _ _ _ _ _ _ _ _ e1 hM htl r' ls' st' mem' nc0 ns0 P (hr.ex m2) m6 m4 m5 m7 hnc hns (fun o' ho' r'' res hx' hu' => hP o' (e2 o' ho') r'' res (m2.tr hx') hu')
                · cases h
