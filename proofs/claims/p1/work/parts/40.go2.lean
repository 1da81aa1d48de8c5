/-! from a place of a method to its ends and to its stops -/
def zgo (E : mEnv) (ro : zQ) (dn : Nat) (con : zK) (fu : Nat) (stop : Nat → zL → Bool) : Nat → Nat → Nat → mMeth → List mIns → Nat → zL → List zV → zF → zW → Nat → Nat → Option (List (zU ⊕ zP))
  | 0, _, _, _, _, _, _, _, _, _, _, _ => none
  | n + 1, d, mi, M, cur, pc, ls, st, F, w, nc, ns =>
    bif stop pc ls then some [.inr (pc, ls, st, F, w, nc, ns)] else
    match zft9 M.2.2.2.2.1 cur pc with
    | none => none
    | some (q, tl) =>
      bif Nat.beq q.2.2.2.1 9 then
        (match d, E.1 q.2.2.2.2.1 with
        | d + 1, some M' =>
          bif Nat.ble q.2.2.2.2.2.1 st.length && znz st && Nat.ble (zcat (st.drop q.2.2.2.2.2.1)) 8 && Nat.ble (zcat (st.take q.2.2.2.2.2.1)) M'.2.2.1 && zrc q (st.take q.2.2.2.2.2.1).reverse w then
            (match (match (bif Nat.ble dn d then con q.2.2.2.2.1 (st.take q.2.2.2.2.2.1).reverse F w nc ns else none) with
              | some L => some L
              | none => yex E ro dn con fu d q.2.2.2.2.1 M' M'.2.2.2.2.1 0 (zarg 0 (st.take q.2.2.2.2.2.1).reverse) [] F w nc ns) with
            | none => none
            | some L => zjn (L.map fun o => match o.1 with
              | 0 => zfn (pc + 3) fun p => zgo E ro dn con fu stop n (d + 1) mi M tl p ls (st.drop q.2.2.2.2.2.1) o.2.2.1 o.2.2.2.1 o.2.2.2.2.1 o.2.2.2.2.2
              | 1 => zfn (pc + 3) fun p => zgo E ro dn con fu stop n (d + 1) mi M tl p ls (o.2.1 :: st.drop q.2.2.2.2.2.1) o.2.2.1 o.2.2.2.1 o.2.2.2.2.1 o.2.2.2.2.2
              | _ => (match mcatch M pc (E.2.2.2 o.2.1.2.1) with
                | none => bif M.2.2.2.2.2.isEmpty then some [.inl o] else none
                | some (j, pc') => bif Nat.ble (j + 1) M.2.2.1 then zgo E ro dn con fu stop n (d + 1) mi M tl pc' (zrl (zrp ls j) j) [] o.2.2.1 o.2.2.2.1 o.2.2.2.2.1 o.2.2.2.2.2 else none)))
          else none
        | _, _ => none)
      else bif Nat.beq q.2.2.2.1 8 then
        (bif M.2.2.2.2.2.isEmpty && Nat.ble 8 d && znz st && Nat.ble (zcat st) 8 then some [.inl (2, (0, q.2.2.2.2.1, 0), F, w, nc + 1, ns + 6)] else none)
      else bif Nat.beq q.2.2.2.1 7 then
        (bif Nat.ble 8 d && znz st && Nat.ble (zcat st) 8 then (match zpr q.2.2.2.2.1 st w with
          | some (st', w') => zfn (pc + 3) fun p => zgo E ro dn con fu stop n d mi M tl p ls st' F w' nc ns
          | none => none) else none)
      else bif Nat.ble 7 q.2.2.2.1 then none else
      match q.2.1 with
      | .return_ => (match st, M.2.2.2.1 with
        | [], none => some [.inl (0, (0, 0, 0), F, w, nc, ns)]
        | _, _ => none)
      | .ireturn => (match st, M.2.2.2.1 with
        | [a], some ty => bif Nat.beq a.1 1 && zft F ty a then some [.inl (1, a, F, w, nc, ns)] else none
        | _, _ => none)
      | .lreturn => (match st, M.2.2.2.1 with
        | [a], some .long => bif Nat.ble 3 a.1 then some [.inl (1, a, F, w, nc, ns)] else none
        | _, _ => none)
      | .new _ => (match zao E.2.1 q st F w with
        | some (k, st', w', ms) => zfn (pc + k) fun p => zfn (nc + 1) fun nc => zfn (ns + ms) fun ns => zgo E ro dn con fu stop n d mi M tl p ls st' F w' nc ns
        | none => none)
      | .newarray _ => (match zao E.2.1 q st F w with
        | some (k, st', w', ms) => zfn (pc + k) fun p => zfn (nc + 1) fun nc => zfn (ns + ms) fun ns => zgo E ro dn con fu stop n d mi M tl p ls st' F w' nc ns
        | none => none)
      | _ => (match zst ro E.2.1 M.2.2.1 q pc ls st F w with
        | some L => zjn (L.map fun o => zgo E ro dn con fu stop n d mi M tl o.1 o.2.1 o.2.2.1 o.2.2.2.1 o.2.2.2.2 nc ns)
        | none => none)
theorem zgo_ok {E : mEnv} {ro : zQ} {dn : Nat} {con : zK} {fu : Nat} {stop : Nat → zL → Bool} (hcon : zCon E ro dn con) (hsr : ∀ mi M, E.1 mi = some M → zsr M.2.2.2.2.1 = true) :
    ∀ n d mi M cur pc als ast F w nc ns L, zgo E ro dn con fu stop n d mi M cur pc als ast F w nc ns = some L → E.1 mi = some M → zsf M.2.2.2.2.1 cur →
    ∀ r ls st mem nc0 ns0 P, zRo E r ro → zFok r F → zls r ls als → zlm r st ast → zmm r mem w → nc0 ≤ nc → ns0 ≤ ns →
    (∀ o, Sum.inl o ∈ L → ∀ r' res, zX r r' → zuo E r' o res → P res) → (∀ s, Sum.inr s ∈ L → ∀ r' ls' st' mem' nc' ns', zX r r' → zpo r' s ls' st' mem' nc' ns' → mGd E P d mi s.1 ls' st' mem' nc' ns') → mGd E P d mi pc ls st mem nc0 ns0 := by
  intro n
  induction n with
  | zero => intro d mi M cur pc als ast F w nc ns L h; cases h
  | succ n ih =>
    intro d mi M cur pc als ast F w nc ns L h hM hcur r ls st mem nc0 ns0 P hr hF hl hs hm hnc hns hP hS
    unfold zgo at h
    cases hst : stop pc als with
    | true =>
      rw [hst] at h
      cases h
      exact hS _ List.mem_cons_self r ls st mem nc0 ns0 zX.rf ⟨hl, hs, hF, hm, hnc, hns⟩
    | false =>
    rw [hst] at h
    simp only [cond_false] at h
    cases hf : zft9 M.2.2.2.2.1 cur pc with
    | none => rw [hf] at h; cases h
    | some qt =>
      obtain ⟨q, tl⟩ := qt
      rw [hf] at h
      simp only at h
      obtain ⟨hq, htl⟩ := zft9_ok (hsr mi M hM) hcur hf
      cases c9 : Nat.beq q.2.2.2.1 9 with
      | true =>
        rw [c9] at h
        simp only [cond_true] at h
        have h9 := zbe.mp c9
        cases d with
        | zero => cases h
        | succ d =>
          cases hM' : E.1 q.2.2.2.2.1 with
          | none => rw [hM'] at h; cases h
          | some M' =>
            rw [hM'] at h
            simp only at h
            cases cc : (Nat.ble q.2.2.2.2.2.1 ast.length && znz ast && Nat.ble (zcat (ast.drop q.2.2.2.2.2.1)) 8 && Nat.ble (zcat (ast.take q.2.2.2.2.2.1)) M'.2.2.1 && zrc q (ast.take q.2.2.2.2.2.1).reverse w) with
            | false => rw [cc] at h; cases h
            | true =>
              rw [cc] at h
              simp only [cond_true] at h
              simp only [Bool.and_eq_true, Nat.ble_eq] at cc
              obtain ⟨⟨⟨⟨k1, k2⟩, k3⟩, k4⟩, k5⟩ := cc
              have hnz := znz_all.mp k2
              have ht := zlm_take q.2.2.2.2.2.1 hs
              have hd := zlm_drop q.2.2.2.2.2.1 hs
              have ntk : znz (ast.take q.2.2.2.2.2.1) = true := znz_all.mpr fun a ha => hnz a (List.mem_of_mem_take ha)
              have ndr : znz (ast.drop q.2.2.2.2.2.1) = true := znz_all.mpr fun a ha => hnz a (List.mem_of_mem_drop ha)
              have nrv : znz (ast.take q.2.2.2.2.2.1).reverse = true := znz_all.mpr fun a ha => hnz a (List.mem_of_mem_take (List.mem_reverse.mp ha))
              have hrev := zlm_rev ht
              refine mGd_call hM hq h9 hM' (by rw [zlm_len hs]; exact k1) (by rw [zcat_ok hd ndr]; exact k3) (by rw [zcat_ok ht ntk]; exact k4) (zrc_ok hrev hm k5) ?_
              -- behind the callee
              have beh : ∀ Lc : List zU, zjn (Lc.map fun o => match o.1 with
                  | 0 => zfn (pc + 3) fun p => zgo E ro dn con fu stop n (d + 1) mi M tl p als (ast.drop q.2.2.2.2.2.1) o.2.2.1 o.2.2.2.1 o.2.2.2.2.1 o.2.2.2.2.2
                  | 1 => zfn (pc + 3) fun p => zgo E ro dn con fu stop n (d + 1) mi M tl p als (o.2.1 :: ast.drop q.2.2.2.2.2.1) o.2.2.1 o.2.2.2.1 o.2.2.2.2.1 o.2.2.2.2.2
                  | _ => (match mcatch M pc (E.2.2.2 o.2.1.2.1) with
                    | none => bif M.2.2.2.2.2.isEmpty then some [Sum.inl o] else none
                    | some (j, pc') => bif Nat.ble (j + 1) M.2.2.1 then zgo E ro dn con fu stop n (d + 1) mi M tl pc' (zrl (zrp als j) j) [] o.2.2.1 o.2.2.2.1 o.2.2.2.2.1 o.2.2.2.2.2 else none)) = some L →
                  ∀ o ∈ Lc, ∀ r' res, zX r r' → zuo E r' o res → mBk E P d mi pc M q.2.2.2.2.2.1 ls st res := by
                intro Lc hj o ho r' res hx hu
                obtain ⟨Lo, e1, e2⟩ := zjn_mem hj _ (List.mem_map_of_mem ho)
                obtain ⟨res1, mem', nc', ns'⟩ := res
                obtain ⟨u1, u2, u3, u4, u5⟩ := hu
                dsimp only at u2 u3 u4 u5
                have go : ∀ o', Sum.inl o' ∈ Lo → ∀ r'' res, zX r' r'' → zuo E r'' o' res → P res := fun o' ho' r'' res hx' hu' => hP o' (e2 _ ho') r'' res (hx.tr hx') hu'
                have goS : ∀ s, Sum.inr s ∈ Lo → ∀ r'' ls' st' mem' nc' ns', zX r' r'' → zpo r'' s ls' st' mem' nc' ns' → mGd E P (d + 1) mi s.1 ls' st' mem' nc' ns' := fun s hs9 r'' ls' st' mem'' nc'' ns'' hx' hp => hS s (e2 _ hs9) r'' ls' st' mem'' nc'' ns'' (hx.tr hx') hp
                split at e1
                · rename_i e0
                  rw [e0] at u5
                  simp only at u5
                  subst u5
                  simp only [zfn_eq] at e1
                  exact ih _ _ _ _ _ _ _ _ _ _ _ _ e1 hM htl r' ls (st.drop q.2.2.2.2.2.1) mem' nc' ns' P (hr.ex hx) u1 (hl.ex hx) (hd.ex hx) u2 u3 u4 go goS
                · rename_i e0
                  rw [e0] at u5
                  simp only at u5
                  obtain ⟨v, rfl, hv⟩ := u5
                  simp only [zfn_eq] at e1
                  exact ih _ _ _ _ _ _ _ _ _ _ _ _ e1 hM htl r' ls (v :: st.drop q.2.2.2.2.2.1) mem' nc' ns' P (hr.ex hx) u1 (hl.ex hx) ⟨hv, hd.ex hx⟩ u2 u3 u4 go goS
                · rename_i n0 n1
                  have u6 : res1 = .inl (E.2.2.2 o.2.1.2.1) := by
                    split at u5
                    · rename_i e0; exact absurd e0 n0
                    · rename_i e0; exact absurd e0 n1
                    · exact u5
                  subst u6
                  unfold mBk
                  simp only
                  cases hk : mcatch M pc (E.2.2.2 o.2.1.2.1) with
                  | none =>
                    rw [hk] at e1
                    simp only at e1 ⊢
                    cases hh : M.2.2.2.2.2.isEmpty with
                    | false => rw [hh] at e1; cases e1
                    | true =>
                      rw [hh] at e1
                      have e1 : some [Sum.inl o] = some Lo := e1
                      cases e1
                      refine ⟨rfl, go o List.mem_cons_self r' _ zX.rf ⟨u1, u2, u3, u4, ?_⟩⟩
                      split
                      · rename_i e0; exact absurd e0 n0
                      · rename_i e0; exact absurd e0 n1
                      · rfl
                  | some jp =>
                    obtain ⟨j, pc'⟩ := jp
                    rw [hk] at e1
                    simp only at e1 ⊢
                    cases hj9 : Nat.ble (j + 1) M.2.2.1 with
                    | false => rw [hj9] at e1; cases e1
                    | true =>
                      rw [hj9] at e1
                      rw [Nat.ble_eq] at hj9
                      refine ⟨by omega, ?_⟩
                      exact ih _ _ _ _ _ _ _ _ _ _ _ _ e1 hM htl r' _ [] mem' nc' ns' P (hr.ex hx) u1 ((hl.ex hx).h1 j) trivial u2 u3 u4 go goS
              cases hc : (bif Nat.ble dn d then con q.2.2.2.2.1 (ast.take q.2.2.2.2.2.1).reverse F w nc ns else none) with
              | some Lc =>
                rw [hc] at h
                simp only at h
                cases hdn : Nat.ble dn d with
                | false => rw [hdn] at hc; cases hc
                | true =>
                  rw [hdn] at hc
                  rw [Nat.ble_eq] at hdn
                  obtain ⟨m, res, h1, o, ho, r', hx, hu⟩ := hcon d _ _ F w nc ns Lc hdn hc r _ mem nc0 ns0 hr hF hrev hm hnc hns
                  exact ⟨m, res, h1, beh Lc h o ho r' res hx hu⟩
              | none =>
                rw [hc] at h
                simp only at h
                cases hi : yex E ro dn con fu d q.2.2.2.2.1 M' M'.2.2.2.2.1 0 (zarg 0 (ast.take q.2.2.2.2.2.1).reverse) [] F w nc ns with
                | none => rw [hi] at h; cases h
                | some Lc =>
                  rw [hi] at h
                  simp only at h
                  rw [yex_eq] at hi
                  exact zex_ok hcon hsr _ _ _ _ _ _ _ _ _ _ _ _ _ hi hM' ⟨[], rfl⟩ r _ [] mem nc0 ns0 _ hr hF (zarg_ok 0 hrev nrv) trivial hm hnc hns (beh Lc h)
      | false =>
        rw [c9] at h
        simp only [cond_false] at h
        cases c8 : Nat.beq q.2.2.2.1 8 with
        | true =>
          rw [c8] at h
          simp only [cond_true] at h
          cases cc : (M.2.2.2.2.2.isEmpty && Nat.ble 8 d && znz ast && Nat.ble (zcat ast) 8) with
          | false => rw [cc] at h; cases h
          | true =>
            rw [cc] at h
            cases h
            simp only [Bool.and_eq_true, Nat.ble_eq] at cc
            obtain ⟨⟨⟨k1, k2⟩, k3⟩, k4⟩ := cc
            refine mGd_thr hM hq (zbe.mp c8) k1 k2 (by rw [zcat_ok hs k3]; exact k4) ?_
            exact hP _ List.mem_cons_self r _ zX.rf ⟨hF, hm, by dsimp only; omega, by dsimp only; omega, rfl⟩
        | false =>
          rw [c8] at h
          simp only [cond_false] at h
          cases c7 : Nat.beq q.2.2.2.1 7 with
          | true =>
            rw [c7] at h
            simp only [cond_true] at h
            cases cc : (Nat.ble 8 d && znz ast && Nat.ble (zcat ast) 8) with
            | false => rw [cc] at h; cases h
            | true =>
              rw [cc] at h
              simp only [cond_true] at h
              simp only [Bool.and_eq_true, Nat.ble_eq] at cc
              obtain ⟨⟨k2, k3⟩, k4⟩ := cc
              split at h
              · rename_i st' w' ep
                simp only [zfn_eq] at h
                obtain ⟨st1, mem1, p1, p2, p3⟩ := zpr_ok (E := E) hF hs hm ep
                refine mGd_prim hM hq (zbe.mp c7) k2 (by rw [zcat_ok hs k3]; exact k4) p1 ?_
                exact ih _ _ _ _ _ _ _ _ _ _ _ _ h hM htl r ls st1 mem1 nc0 ns0 P hr hF hl p2 p3 hnc hns hP hS
              · cases h
          | false =>
            rw [c7] at h
            simp only [cond_false] at h
            cases c6 : Nat.ble 7 q.2.2.2.1 with
            | true => rw [c6] at h; cases h
            | false =>
              rw [c6] at h
              simp only [cond_false] at h
              have h7 : q.2.2.2.1 < 7 := by
                rw [← Bool.not_eq_true, Nat.ble_eq] at c6; omega
              have alc : ∀ {k : Nat} {st' : List zV} {w' : zW} {ms : Nat}, zao E.2.1 q ast F w = some (k, st', w', ms) → zgo E ro dn con fu stop n d mi M tl (pc + k) als st' F w' (nc + 1) (ns + ms) = some L →
                  q.2.1 ≠ .return_ → q.2.1 ≠ .ireturn → q.2.1 ≠ .lreturn → mGd E P d mi pc ls st mem nc0 ns0 := by
                intro k st' w' ms ea hz n1 n2 n3
                obtain ⟨b1, b2, st1, mem1, b3, b4, b5⟩ := zao_ok (nL := M.2.2.1) (pc := pc) (ls := ls) hF hs hm ea
                refine mGd_alloc hM hq h7 n1 n2 n3 b1 b2 b3 ?_
                exact ih _ _ _ _ _ _ _ _ _ _ _ _ hz hM htl r ls st1 mem1 _ _ P hr hF hl b4 b5 (by omega) (by omega) hP hS
              split at h
              · rename_i e
                split at h
                · rename_i et
                  cases h
                  have : st = [] := by cases st with
                    | nil => rfl
                    | cons _ _ => exact hs.elim
                  subst this
                  refine mGd_ret hM hq h7 e et ?_
                  exact hP _ List.mem_cons_self r _ zX.rf ⟨hF, hm, hnc, hns, rfl⟩
                · cases h
              · rename_i e
                split at h
                · rename_i a ty et
                  obtain ⟨v, vs, rfl, hv, hvs⟩ := zlm_cons hs
                  have : vs = [] := by cases vs with
                    | nil => rfl
                    | cons _ _ => exact hvs.elim
                  subst this
                  cases cc : (Nat.beq a.1 1 && zft F ty a) with
                  | false => rw [cc] at h; cases h
                  | true =>
                    rw [cc] at h
                    cases h
                    simp only [Bool.and_eq_true] at cc
                    obtain ⟨x, rfl, hx⟩ := zvm_i hv cc.1
                    obtain ⟨f1, -⟩ := zft_ok hF hv cc.2
                    simp only [mfit, Bool.and_eq_true, decide_eq_true_eq] at f1
                    refine mGd_iret hM hq h7 e et f1.1 f1.2 ?_
                    exact hP _ List.mem_cons_self r _ zX.rf ⟨hF, hm, hnc, hns, _, rfl, hv⟩
                · cases h
              · rename_i e
                split at h
                · rename_i a et
                  obtain ⟨v, vs, rfl, hv, hvs⟩ := zlm_cons hs
                  have : vs = [] := by cases vs with
                    | nil => rfl
                    | cons _ _ => exact hvs.elim
                  subst this
                  cases cc : Nat.ble 3 a.1 with
                  | false => rw [cc] at h; cases h
                  | true =>
                    rw [cc] at h
                    cases h
                    obtain ⟨x, rfl⟩ := zvm_l hv cc
                    refine mGd_lret hM hq h7 e et ?_
                    exact hP _ List.mem_cons_self r _ zX.rf ⟨hF, hm, hnc, hns, _, rfl, hv⟩
                · cases h
              · rename_i k9 e
                split at h
                · rename_i k st' w' ms ea
                  simp only [zfn_eq] at h
                  exact alc ea h (by rw [e]; simp) (by rw [e]; simp) (by rw [e]; simp)
                · cases h
              · rename_i k9 e
                split at h
                · rename_i k st' w' ms ea
                  simp only [zfn_eq] at h
                  exact alc ea h (by rw [e]; simp) (by rw [e]; simp) (by rw [e]; simp)
                · cases h
              · rename_i n1 n2 n3 n4 n5
                split at h
                · rename_i Ls es
                  obtain ⟨pc', ls', st', mem', r', m1, m2, o, ho, m3, m4, m5, m6, m7⟩ := zst_ok hr hF hl hs hm es
                  refine mGd_plain hM hq h7 n1 n2 n3 m1 ?_
                  obtain ⟨Lo, e1, e2⟩ := zjn_mem h _ (List.mem_map_of_mem ho)
                  rw [← m3]
                  exact ih _ _ _ _ _ _ _ _ _ _ _ _ e1 hM htl r' ls' st' mem' nc0 ns0 P (hr.ex m2) m6 m4 m5 m7 hnc hns (fun o' ho' r'' res hx' hu' => hP o' (e2 _ ho') r'' res (m2.tr hx') hu') (fun s hs9 r'' ls' st' mem'' nc'' ns'' hx' hp => hS s (e2 _ hs9) r'' ls' st' mem'' nc'' ns'' (m2.tr hx') hp)
                · cases h
/-! a state told more loosely -/
def zeM (a b : Nat × zV × zV × Nat) : Bool := Nat.beq a.1 b.1 && (eV a.2.1 b.2.1 && (eV a.2.2.1 b.2.2.1 && Nat.beq a.2.2.2 b.2.2.2))
theorem zeM_ok {a b : Nat × zV × zV × Nat} (h : zeM a b = true) : a = b := by
  simp only [zeM, Bool.and_eq_true, zbe] at h
  obtain ⟨a1, a2, a3, a4⟩ := a
  obtain ⟨b1, b2, b3, b4⟩ := b
  obtain ⟨h1, h2, h3, h4⟩ := h
  dsimp only at h1 h2 h3 h4
  rw [h1, eV_ok h2, eV_ok h3, h4]
def zFw (F G : zF) : Bool := Nat.beq F.1 G.1 && ((G.2.1.all fun e => match zlh F (1, e.1, 0) with
    | some (l, h) => zle e.2.1 l && zle h e.2.2
    | none => false) && (G.2.2.1.isEmpty && G.2.2.2.all fun e => F.2.2.2.any fun e' => zeM e' e))
theorem zFw_ok {r : List Int} {F G : zF} (h : zFw F G = true) (hF : zFok r F) : zFok r G := by
  simp only [zFw, Bool.and_eq_true, zbe] at h
  obtain ⟨h1, h2, h3, h4⟩ := h
  refine ⟨by rw [← h1]; exact hF.1, hF.2.1, fun e he => ?_, fun e he => ?_, fun e he => ?_⟩
  · have k := List.all_eq_true.mp h2 e he
    split at k
    · rename_i l h' el
      rw [Bool.and_eq_true, zle_iff, zle_iff] at k
      obtain ⟨x, e1, e2, e3⟩ := zlh_ex hF el
      obtain ⟨v, v1, v2⟩ := zd_some.mp e1
      have v1 : r[e.1]? = some v := v1
      have v2 : x = v + 0 := v2
      exact ⟨v, v1, by omega, by omega⟩
    · cases k
  · rw [List.isEmpty_iff.mp h3] at he
    cases he
  · have k := List.all_eq_true.mp h4 e he
    obtain ⟨e', k1, k2⟩ := List.any_eq_true.mp k
    rw [← zeM_ok k2]
    exact hF.2.2.2.2 e' k1
def zpw (s t : zP) : Bool := Nat.beq s.1 t.1 && (eLo s.2.1 t.2.1 && (eLs eV s.2.2.1 t.2.2.1 && (zFw s.2.2.2.1 t.2.2.2.1 && (Nat.beq s.2.2.2.2.1.1 t.2.2.2.2.1.1 && (eT 7 s.2.2.2.2.1.2 t.2.2.2.2.1.2 && (Nat.ble s.2.2.2.2.2.1 t.2.2.2.2.2.1 && Nat.ble s.2.2.2.2.2.2 t.2.2.2.2.2.2))))))
theorem zpw_ok {s t : zP} (h : zpw s t = true) : s.1 = t.1 ∧ ∀ {r : List Int} {ls : mLs} {st : List Value} {mem : mMem} {nc ns : Nat}, zpo r s ls st mem nc ns → zpo r t ls st mem nc ns := by
  simp only [zpw, Bool.and_eq_true, zbe, Nat.ble_eq] at h
  obtain ⟨h1, h2, h3, h4, h5, h6, h7, h8⟩ := h
  refine ⟨h1, fun {r ls st mem nc ns} hp => ?_⟩
  obtain ⟨p1, p2, p3, p4, p5, p6⟩ := hp
  refine ⟨eLo_ok h2 p1, ?_, zFw_ok h4 p3, ?_, Nat.le_trans p5 h7, Nat.le_trans p6 h8⟩
  · rw [← eLs_ok (fun a b h => eV_ok h) h3]; exact p2
  · have hw : s.2.2.2.2.1 = t.2.2.2.2.1 := Prod.ext h5 (eT_ok 7 _ _ h6)
    rw [← hw]; exact p4
