/-! from a place of a method to its stops -/
abbrev w9zP : Type := Nat × zL × List zV × zF × zW × Nat × Nat
def w9zpo (r : List Int) (s : w9zP) (ls : mLs) (st : List Value) (mem : mMem) (nc ns : Nat) : Prop :=
  zls r ls s.2.1 ∧ zlm r st s.2.2.1 ∧ zFok r s.2.2.2.1 ∧ zmm r mem s.2.2.2.2.1 ∧ nc ≤ s.2.2.2.2.2.1 ∧ ns ≤ s.2.2.2.2.2.2
def w9ygo (E : mEnv) (ro : zQ) (dn : Nat) (con : zK) (stop : Nat → Bool) (fu : Nat) : Nat → Nat → Nat → mMeth → List mIns → Nat → zL → List zV → zF → zW → Nat → Nat → Option (List w9zP)
  | 0, _, _, _, _, _, _, _, _, _, _, _ => none
  | n + 1, d, mi, M, cur, pc, ls, st, F, w, nc, ns =>
    bif stop pc then some [(pc, ls, st, F, w, nc, ns)] else
    match zft9 M.2.2.2.2.1 cur pc with
    | none => none
    | some (q, tl) =>
      bif Nat.beq q.2.2.2.1 9 then
        (match d, E.1 q.2.2.2.2.1 with
        | d + 1, some M' =>
          bif Nat.ble q.2.2.2.2.2.1 st.length && znz st && Nat.ble (zcat (st.drop q.2.2.2.2.2.1)) 8 && Nat.ble (zcat (st.take q.2.2.2.2.2.1)) M'.2.2.1 && zrc q (st.take q.2.2.2.2.2.1).reverse w then
            (match w9yex E ro dn con fu d q.2.2.2.2.1 M' M'.2.2.2.2.1 0 (zarg 0 (st.take q.2.2.2.2.2.1).reverse) [] F w nc ns with
            | none => none
            | some L => zjn (L.map fun o => match o.1 with
              | 0 => zfn (pc + 3) fun p => w9ygo E ro dn con stop fu n (d + 1) mi M tl p ls (st.drop q.2.2.2.2.2.1) o.2.2.1 o.2.2.2.1 o.2.2.2.2.1 o.2.2.2.2.2
              | 1 => zfn (pc + 3) fun p => w9ygo E ro dn con stop fu n (d + 1) mi M tl p ls (o.2.1 :: st.drop q.2.2.2.2.2.1) o.2.2.1 o.2.2.2.1 o.2.2.2.2.1 o.2.2.2.2.2
              | _ => none))
          else none
        | _, _ => none)
      else bif Nat.ble 7 q.2.2.2.1 then none else
      match q.2.1 with
      | .return_ => none
      | .ireturn => none
      | .lreturn => none
      | .new _ => (match zao E.2.1 q st F w with
        | some (k, st', w', ms) => zfn (pc + k) fun p => zfn (nc + 1) fun nc => zfn (ns + ms) fun ns => w9ygo E ro dn con stop fu n d mi M tl p ls st' F w' nc ns
        | none => none)
      | .newarray _ => (match zao E.2.1 q st F w with
        | some (k, st', w', ms) => zfn (pc + k) fun p => zfn (nc + 1) fun nc => zfn (ns + ms) fun ns => w9ygo E ro dn con stop fu n d mi M tl p ls st' F w' nc ns
        | none => none)
      | _ => (match zst ro E.2.1 M.2.2.1 q pc ls st F w with
        | some L => zjn (L.map fun o => w9ygo E ro dn con stop fu n d mi M tl o.1 o.2.1 o.2.2.1 o.2.2.2.1 o.2.2.2.2 nc ns)
        | none => none)
theorem w9ygo_ok {E : mEnv} {ro : zQ} {dn : Nat} {con : zK} {stop : Nat → Bool} {fu : Nat} (hcon : zCon E ro dn con) (hsr : ∀ mi M, E.1 mi = some M → zsr M.2.2.2.2.1 = true) :
    ∀ n d mi M cur pc als ast F w nc ns L, w9ygo E ro dn con stop fu n d mi M cur pc als ast F w nc ns = some L → E.1 mi = some M → zsf M.2.2.2.2.1 cur →
    ∀ r ls st mem nc0 ns0 P, zRo E r ro → zFok r F → zls r ls als → zlm r st ast → zmm r mem w → nc0 ≤ nc → ns0 ≤ ns →
    (∀ s ∈ L, ∀ r' ls' st' mem' nc' ns', zX r r' → w9zpo r' s ls' st' mem' nc' ns' → mGd E P d mi s.1 ls' st' mem' nc' ns') → mGd E P d mi pc ls st mem nc0 ns0 := by
  intro n
  induction n with
  | zero => intro d mi M cur pc als ast F w nc ns L h; cases h
  | succ n ih =>
    intro d mi M cur pc als ast F w nc ns L h hM hcur r ls st mem nc0 ns0 P hr hF hl hs hm hnc hns hP
    unfold w9ygo at h
    cases hst : stop pc with
    | true =>
      rw [hst] at h
      cases h
      exact hP _ List.mem_cons_self r ls st mem nc0 ns0 zX.rf ⟨hl, hs, hF, hm, hnc, hns⟩
    | false =>
    rw [hst] at h
    simp only [cond_false] at h
    cases hf : zft9 M.2.2.2.2.1 cur pc with
    | none => rw [hf] at h; cases h
    | some qt =>
      obtain ⟨q, tl⟩ := qt
      rw [hf] at h
      simp only at h
      obtain ⟨hq, htl⟩ := zft9_ok (hsr mi M hM) hcur hf
      cases c9 : Nat.beq q.2.2.2.1 9 with
      | true =>
        rw [c9] at h
        simp only [cond_true] at h
        have h9 := zbe.mp c9
        cases d with
        | zero => cases h
        | succ d =>
          cases hM' : E.1 q.2.2.2.2.1 with
          | none => rw [hM'] at h; cases h
          | some M' =>
            rw [hM'] at h
            simp only at h
            cases cc : (Nat.ble q.2.2.2.2.2.1 ast.length && znz ast && Nat.ble (zcat (ast.drop q.2.2.2.2.2.1)) 8 && Nat.ble (zcat (ast.take q.2.2.2.2.2.1)) M'.2.2.1 && zrc q (ast.take q.2.2.2.2.2.1).reverse w) with
            | false => rw [cc] at h; cases h
            | true =>
              rw [cc] at h
              simp only [cond_true] at h
              simp only [Bool.and_eq_true, Nat.ble_eq] at cc
              obtain ⟨⟨⟨⟨k1, k2⟩, k3⟩, k4⟩, k5⟩ := cc
              have hnz := znz_all.mp k2
              have ht := zlm_take q.2.2.2.2.2.1 hs
              have hd := zlm_drop q.2.2.2.2.2.1 hs
              have ntk : znz (ast.take q.2.2.2.2.2.1) = true := znz_all.mpr fun a ha => hnz a (List.mem_of_mem_take ha)
              have ndr : znz (ast.drop q.2.2.2.2.2.1) = true := znz_all.mpr fun a ha => hnz a (List.mem_of_mem_drop ha)
              have nrv : znz (ast.take q.2.2.2.2.2.1).reverse = true := znz_all.mpr fun a ha => hnz a (List.mem_of_mem_take (List.mem_reverse.mp ha))
              have hrev := zlm_rev ht
              refine mGd_call hM hq h9 hM' (by rw [zlm_len hs]; exact k1) (by rw [zcat_ok hd ndr]; exact k3) (by rw [zcat_ok ht ntk]; exact k4) (zrc_ok hrev hm k5) ?_
              cases hi : w9yex E ro dn con fu d q.2.2.2.2.1 M' M'.2.2.2.2.1 0 (zarg 0 (ast.take q.2.2.2.2.2.1).reverse) [] F w nc ns with
              | none => rw [hi] at h; cases h
              | some Lc =>
                rw [hi] at h
                simp only at h
                rw [w9yex_eq] at hi
                refine zex_ok hcon hsr _ _ _ _ _ _ _ _ _ _ _ _ _ hi hM' ⟨[], rfl⟩ r _ [] mem nc0 ns0 _ hr hF (zarg_ok 0 hrev nrv) trivial hm hnc hns ?_
                intro o ho r' res hx hu
                obtain ⟨Lo, e1, e2⟩ := zjn_mem h _ (List.mem_map_of_mem ho)
                obtain ⟨res1, mem', nc', ns'⟩ := res
                obtain ⟨u1, u2, u3, u4, u5⟩ := hu
                dsimp only at u2 u3 u4 u5
                split at e1
                · rename_i e0
                  rw [e0] at u5
                  simp only at u5
                  subst u5
                  simp only [zfn_eq] at e1
                  exact ih _ _ _ _ _ _ _ _ _ _ _ _ e1 hM htl r' ls (st.drop q.2.2.2.2.2.1) mem' nc' ns' P (hr.ex hx) u1 (hl.ex hx) (hd.ex hx) u2 u3 u4 (fun s hs9 r'' ls' st' mem'' nc'' ns'' hx' hp => hP s (e2 s hs9) r'' ls' st' mem'' nc'' ns'' (hx.tr hx') hp)
                · rename_i e0
                  rw [e0] at u5
                  simp only at u5
                  obtain ⟨v, rfl, hv⟩ := u5
                  simp only [zfn_eq] at e1
                  exact ih _ _ _ _ _ _ _ _ _ _ _ _ e1 hM htl r' ls (v :: st.drop q.2.2.2.2.2.1) mem' nc' ns' P (hr.ex hx) u1 (hl.ex hx) ⟨hv, hd.ex hx⟩ u2 u3 u4 (fun s hs9 r'' ls' st' mem'' nc'' ns'' hx' hp => hP s (e2 s hs9) r'' ls' st' mem'' nc'' ns'' (hx.tr hx') hp)
                · cases e1
      | false =>
        rw [c9] at h
        simp only [cond_false] at h
        cases c6 : Nat.ble 7 q.2.2.2.1 with
        | true => rw [c6] at h; cases h
        | false =>
          rw [c6] at h
          simp only [cond_false] at h
          have h7 : q.2.2.2.1 < 7 := by
            rw [← Bool.not_eq_true, Nat.ble_eq] at c6; omega
          have alc : ∀ {k : Nat} {st' : List zV} {w' : zW} {ms : Nat}, zao E.2.1 q ast F w = some (k, st', w', ms) → w9ygo E ro dn con stop fu n d mi M tl (pc + k) als st' F w' (nc + 1) (ns + ms) = some L →
              q.2.1 ≠ .return_ → q.2.1 ≠ .ireturn → q.2.1 ≠ .lreturn → mGd E P d mi pc ls st mem nc0 ns0 := by
            intro k st' w' ms ea hz n1 n2 n3
            obtain ⟨b1, b2, st1, mem1, b3, b4, b5⟩ := zao_ok (nL := M.2.2.1) (pc := pc) (ls := ls) hF hs hm ea
            refine mGd_alloc hM hq h7 n1 n2 n3 b1 b2 b3 ?_
            exact ih _ _ _ _ _ _ _ _ _ _ _ _ hz hM htl r ls st1 mem1 _ _ P hr hF hl b4 b5 (by omega) (by omega) hP
          split at h
          · cases h
          · cases h
          · cases h
          · rename_i k9 e
            split at h
            · rename_i k st' w' ms ea
              simp only [zfn_eq] at h
              exact alc ea h (by rw [e]; simp) (by rw [e]; simp) (by rw [e]; simp)
            · cases h
          · rename_i k9 e
            split at h
            · rename_i k st' w' ms ea
              simp only [zfn_eq] at h
              exact alc ea h (by rw [e]; simp) (by rw [e]; simp) (by rw [e]; simp)
            · cases h
          · rename_i n1 n2 n3 n4 n5
            split at h
            · rename_i Ls es
              obtain ⟨pc', ls', st', mem', r', m1, m2, o, ho, m3, m4, m5, m6, m7⟩ := zst_ok hr hF hl hs hm es
              refine mGd_plain hM hq h7 n1 n2 n3 m1 ?_
              obtain ⟨Lo, e1, e2⟩ := zjn_mem h _ (List.mem_map_of_mem ho)
              rw [← m3]
              exact ih _ _ _ _ _ _ _ _ _ _ _ _ e1 hM htl r' ls' st' mem' nc0 ns0 P (hr.ex m2) m6 m4 m5 m7 hnc hns (fun s hs9 r'' ls' st' mem'' nc'' ns'' hx' hp => hP s (e2 s hs9) r'' ls' st' mem'' nc'' ns'' (m2.tr hx') hp)
            · cases h
/-! read-only tables change nothing -/
theorem yex_env {a : Nat → Option mMeth} {b : Nat → List FieldType} {c c' : Nat → Option (Nat × Nat × (Nat → Value))} {d : Nat → String} {ro : zQ} {dn : Nat} {con : zK} : ∀ n, w9yex (a, b, c, d) ro dn con n = w9yex (a, b, c', d) ro dn con n := by
  intro n
  induction n with
  | zero => rfl
  | succ n ih =>
    funext dd mi M cur pc ls st F w nc ns
    show w9yk (a, b, c, d) ro dn con (w9yex (a, b, c, d) ro dn con n) dd mi M pc ls st F w nc ns (zft9 M.2.2.2.2.1 cur pc) = w9yk (a, b, c', d) ro dn con (w9yex (a, b, c', d) ro dn con n) dd mi M pc ls st F w nc ns (zft9 M.2.2.2.2.1 cur pc)
    rw [ih]
    rfl
theorem ygo_env {a : Nat → Option mMeth} {b : Nat → List FieldType} {c c' : Nat → Option (Nat × Nat × (Nat → Value))} {d : Nat → String} {ro : zQ} {dn : Nat} {con : zK} {stop : Nat → Bool} {fu : Nat} : ∀ n, w9ygo (a, b, c, d) ro dn con stop fu n = w9ygo (a, b, c', d) ro dn con stop fu n := by
  intro n
  induction n with
  | zero => rfl
  | succ n ih =>
    funext dd mi M cur pc ls st F w nc ns
    unfold w9ygo
    rw [ih, yex_env (c := c) (c' := c')]
