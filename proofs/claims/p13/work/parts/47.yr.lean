/-! THE RUN of a method over typed memory: all ways from a place to the ends, or to the next cut point. -/
/-- what holds of the memory at the last sync, by numbers -/
abbrev yQp : Type := Nat × Nat × Nat × zV
abbrev yP : Type := List yQp
/-- an end: 0 nothing, 1 a value, 2 a throw (its number as the value's symbol); how many throws -/
abbrev yU : Type := Nat × zV × zF × List yE × yP × Nat
abbrev yS : Type := Nat × zL × List zV × zF × List yE × yP × Nat
def yOk (E : mEnv) (Y : zT yC 7) (K : List (Nat × yK)) (N : Nat) (PH : List Int → mMem → yQp → Prop) (r : List Int) (m0 mem : mMem) (F : zF) (es : List yE) (P : yP) : Prop :=
  zFok r F ∧ ych E r m0 es mem ∧ yTM Y K N mem ∧ ∀ t ∈ P, PH r m0 t
def yFr (mods : List (Nat × Nat × Nat)) (m m' : mMem) : Prop := ∀ p j, ¬ yMi mods p j → yva m' p j = yva m p j
theorem yFr.rf {mods : List (Nat × Nat × Nat)} {m : mMem} : yFr mods m m := fun _ _ _ => rfl
theorem yFr.tr {mods : List (Nat × Nat × Nat)} {a b c : mMem} (h1 : yFr mods a b) (h2 : yFr mods b c) : yFr mods a c := fun p j h => (h2 p j h).trans (h1 p j h)
def yuo (E : mEnv) (Y : zT yC 7) (K : List (Nat × yK)) (N : Nat) (PH : List Int → mMem → yQp → Prop) (nc ns : Nat) (r : List Int) (m0 : mMem) (o : yU) (res : mRes) : Prop :=
  yOk E Y K N PH r m0 res.2.1 o.2.2.1 o.2.2.2.1 o.2.2.2.2.1 ∧ res.2.2.1 ≤ nc + o.2.2.2.2.2 ∧ res.2.2.2 ≤ ns + 6 * o.2.2.2.2.2 ∧
  (match o.1 with
  | 0 => res.1 = .inr none
  | 1 => ∃ v, res.1 = .inr (some v) ∧ zvm r v o.2.1
  | _ => res.1 = .inl (E.2.2.2 o.2.1.2.1))
abbrev yCo : Type := Nat → Nat → List zV → zF → List yE → yP → Option (List yU)
/-- contracts: told what is so ahead of a call, what is so behind it -/
def yCon (E : mEnv) (Y : zT yC 7) (K : List (Nat × yK)) (N : Nat) (PH : List Int → mMem → yQp → Prop) (RI : List Int → Prop) (mods : List (Nat × Nat × Nat)) (kx : Nat) (con : yCo) : Prop :=
  ∀ d mi args F es P L, con d mi args F es P = some L → ∀ r vs m0 mem nc ns, RI r → yOk E Y K N PH r m0 mem F es P → zlm r vs args →
    ∃ n res, mrun E n (kx + d) mi 0 (lv_args 0 vs) [] mem nc ns = some res ∧ yFr mods mem res.2.1 ∧ ∃ o ∈ L, ∃ r' m1, zX r r' ∧ yuo E Y K N PH nc ns r' m1 o res
abbrev yHk : Type := Nat → Nat → zL → List zV → zF → List yE → yP → Option (List (zF × List yE × yP))
/-- hooks: what else may be said at a place -/
def yHok (E : mEnv) (Y : zT yC 7) (K : List (Nat × yK)) (N : Nat) (PH : List Int → mMem → yQp → Prop) (RI : List Int → Prop) (hk : yHk) : Prop :=
  ∀ mi pc als ast F es P L, hk mi pc als ast F es P = some L → ∀ r ls st m0 mem, RI r → yOk E Y K N PH r m0 mem F es P → zls r ls als → zlm r st ast →
    ∃ a ∈ L, ∃ r' m1, zX r r' ∧ yOk E Y K N PH r' m1 mem a.1 a.2.1 a.2.2
abbrev yPm : Type := Nat → List zV → zF → List yE → yP → Option (List zV × zF × List yE × yP)
/-- what is done at once -/
def yPok (E : mEnv) (Y : zT yC 7) (K : List (Nat × yK)) (N : Nat) (PH : List Int → mMem → yQp → Prop) (RI : List Int → Prop) (mods : List (Nat × Nat × Nat)) (prm : yPm) : Prop :=
  ∀ k ast F es P ast' F' es' P', prm k ast F es P = some (ast', F', es', P') → ∀ r st m0 mem, RI r → yOk E Y K N PH r m0 mem F es P → zlm r st ast →
    ∃ st' mem' r' m1, mprim E k st mem = some (st', mem') ∧ yFr mods mem mem' ∧ zX r r' ∧ zlm r' st' ast' ∧ yOk E Y K N PH r' m1 mem' F' es' P'
def yinl : List (yU ⊕ yS) → Option (List yU)
  | [] => some []
  | .inl o :: l => (match yinl l with
    | some L => some (o :: L)
    | none => none)
  | .inr _ :: _ => none
theorem yinl_ok : ∀ {l : List (yU ⊕ yS)} {L : List yU}, yinl l = some L → (∀ o, .inl o ∈ l → o ∈ L) ∧ ∀ s, .inr s ∉ l
  | [], L, h => by cases h; exact ⟨fun o ho => (by cases ho), fun s hs => (by cases hs)⟩
  | .inl o :: l, L, h => by
    unfold yinl at h
    split at h
    · rename_i L' e
      cases h
      obtain ⟨h1, h2⟩ := yinl_ok e
      refine ⟨fun o' ho => ?_, fun s hs => ?_⟩
      · rcases List.mem_cons.mp ho with ho | ho
        · cases ho; exact List.mem_cons_self
        · exact List.mem_cons_of_mem _ (h1 o' ho)
      · rcases List.mem_cons.mp hs with hs | hs
        · cases hs
        · exact h2 s hs
    · cases h
  | .inr s :: l, L, h => by cases h
def yadd (dc : Nat) (o : yU) : yU := (o.1, o.2.1, o.2.2.1, o.2.2.2.1, o.2.2.2.2.1, dc + o.2.2.2.2.2)
def yrn (E : mEnv) (k0 : Nat) (ro : yQ) (Y : zT yC 7) (K : List (Nat × yK)) (N : Nat) (mods : List (Nat × Nat × Nat)) (con : yCo) (hk : yHk) (prm : yPm) (inl : Nat → List zV → zF → List yE → Bool) :
    Nat → Nat → (Nat → Nat → Bool) → Nat → mMeth → List mIns → Bool → Nat → zL → List zV → zF → List yE → yP → Nat → Option (List (yU ⊕ yS))
  | 0, _, _, _, _, _, _, _, _, _, _, _, _, _ => none
  | n + 1, d, stop, mi, M, cur, hd, pc, ls, st, F, es, P, dc =>
    match (bif hd then none else hk mi pc ls st F es P) with
    | some L => zjn (L.map fun a => yrn E k0 ro Y K N mods con hk prm inl n d stop mi M cur true pc ls st a.1 a.2.1 a.2.2 dc)
    | none =>
    match zft9 M.2.2.2.2.1 cur pc with
    | none => none
    | some (q, tl) =>
      bif Nat.beq q.2.2.2.1 9 then
        (match d, E.1 q.2.2.2.2.1 with
        | d + 1, some M' =>
          bif Nat.ble q.2.2.2.2.2.1 st.length && znz st && Nat.ble (zcat (st.drop q.2.2.2.2.2.1)) 8 && Nat.ble (zcat (st.take q.2.2.2.2.2.1)) M'.2.2.1 && zrc q (st.take q.2.2.2.2.2.1).reverse (yw0 Y N) then
            (match (bif inl q.2.2.2.2.1 (st.take q.2.2.2.2.2.1).reverse F es then
                (match yrn E k0 ro Y K N mods con hk prm inl n d (fun _ _ => false) q.2.2.2.2.1 M' M'.2.2.2.2.1 false 0 (zarg 0 (st.take q.2.2.2.2.2.1).reverse) [] F es P dc with
                | some L => yinl L
                | none => none)
              else (match con d q.2.2.2.2.1 (st.take q.2.2.2.2.2.1).reverse F es P with
                | some L => some (L.map (yadd dc))
                | none => none)) with
            | none => none
            | some Lc => zjn (Lc.map fun o => match o.1 with
              | 0 => zfn (pc + 3) fun p => bif stop pc p then some [.inr (p, ls, st.drop q.2.2.2.2.2.1, o.2.2.1, o.2.2.2.1, o.2.2.2.2.1, o.2.2.2.2.2)] else
                  yrn E k0 ro Y K N mods con hk prm inl n (d + 1) stop mi M tl false p ls (st.drop q.2.2.2.2.2.1) o.2.2.1 o.2.2.2.1 o.2.2.2.2.1 o.2.2.2.2.2
              | 1 => zfn (pc + 3) fun p => bif stop pc p then some [.inr (p, ls, o.2.1 :: st.drop q.2.2.2.2.2.1, o.2.2.1, o.2.2.2.1, o.2.2.2.2.1, o.2.2.2.2.2)] else
                  yrn E k0 ro Y K N mods con hk prm inl n (d + 1) stop mi M tl false p ls (o.2.1 :: st.drop q.2.2.2.2.2.1) o.2.2.1 o.2.2.2.1 o.2.2.2.2.1 o.2.2.2.2.2
              | _ => (match mcatch M pc (E.2.2.2 o.2.1.2.1) with
                | none => bif M.2.2.2.2.2.isEmpty then some [.inl o] else none
                | some (j, pc') => bif Nat.ble (j + 1) M.2.2.1 then
                    (bif stop pc pc' then some [.inr (pc', zrl (zrp ls j) j, [], o.2.2.1, o.2.2.2.1, o.2.2.2.2.1, o.2.2.2.2.2)] else
                    yrn E k0 ro Y K N mods con hk prm inl n (d + 1) stop mi M tl false pc' (zrl (zrp ls j) j) [] o.2.2.1 o.2.2.2.1 o.2.2.2.2.1 o.2.2.2.2.2) else none)))
          else none
        | _, _ => none)
      else bif Nat.beq q.2.2.2.1 8 then
        (bif M.2.2.2.2.2.isEmpty && Nat.ble 8 d && znz st && Nat.ble (zcat st) 8 then some [.inl (2, (0, q.2.2.2.2.1, 0), F, es, P, dc + 1)] else none)
      else bif Nat.beq q.2.2.2.1 7 then
        (bif Nat.ble 8 d && znz st && Nat.ble (zcat st) 8 then (match prm q.2.2.2.2.1 st F es P with
          | some (st', F', es', P') => zfn (pc + 3) fun p => bif stop pc p then some [.inr (p, ls, st', F', es', P', dc)] else
              yrn E k0 ro Y K N mods con hk prm inl n d stop mi M tl false p ls st' F' es' P' dc
          | none => none) else none)
      else bif Nat.ble 7 q.2.2.2.1 then none else
      match q.2.1 with
      | .return_ => (match st, M.2.2.2.1 with
        | [], none => some [.inl (0, (0, 0, 0), F, es, P, dc)]
        | _, _ => none)
      | .ireturn => (match st, M.2.2.2.1 with
        | [a], some ty => bif Nat.beq a.1 1 && zft F ty a then some [.inl (1, a, F, es, P, dc)] else none
        | _, _ => none)
      | .lreturn => (match st, M.2.2.2.1 with
        | [a], some .long => bif Nat.ble 3 a.1 then some [.inl (1, a, F, es, P, dc)] else none
        | _, _ => none)
      | _ => (match ysp k0 E.2.1 ro Y K N mods M.2.2.1 q pc ls st F es with
        | some L => zjn (L.map fun o => bif stop pc o.1 then some [.inr (o.1, o.2.1, o.2.2.1, o.2.2.2.1, o.2.2.2.2, P, dc)] else
            yrn E k0 ro Y K N mods con hk prm inl n d stop mi M tl false o.1 o.2.1 o.2.2.1 o.2.2.2.1 o.2.2.2.2 P dc)
        | none => none)
theorem yOk.fr {E : mEnv} {Y : zT yC 7} {K : List (Nat × yK)} {N : Nat} {PH : List Int → mMem → yQp → Prop} {r r' : List Int} {m0 mem : mMem} {F F' : zF} {es es' : List yE} {P : yP}
    (hPX : ∀ r r' m t, zX r r' → PH r m t → PH r' m t) (h : yOk E Y K N PH r m0 mem F es P) (hx : zX r r') : ∀ t ∈ P, PH r' m0 t := fun t ht => hPX r r' m0 t hx (h.2.2.2 t ht)
theorem yrn_ok {E : mEnv} {k0 : Nat} {ro : yQ} {Y : zT yC 7} {K : List (Nat × yK)} {N : Nat} {mods : List (Nat × Nat × Nat)} {con : yCo} {hk : yHk} {prm : yPm} {inl : Nat → List zV → zF → List yE → Bool} {PH : List Int → mMem → yQp → Prop} {RI : List Int → Prop} {kx : Nat}
    (hPX : ∀ r r' m t, zX r r' → PH r m t → PH r' m t) (hRI : ∀ r, RI r → yRo E r ro) (hRX : ∀ r r', zX r r' → RI r → RI r') (hcon : yCon E Y K N PH RI mods kx con) (hhk : yHok E Y K N PH RI hk) (hpr : yPok E Y K N PH RI mods prm) (hsr : ∀ mi M, E.1 mi = some M → zsr M.2.2.2.2.1 = true) (mE : mMem) (ncE nsE : Nat) :
    ∀ n d stop mi M cur hd pc als ast F es P dc L, yrn E k0 ro Y K N mods con hk prm inl n d stop mi M cur hd pc als ast F es P dc = some L → E.1 mi = some M → zsf M.2.2.2.2.1 cur →
    ∀ r ls st mem m0 nc0 ns0 Pf, RI r → yOk E Y K N PH r m0 mem F es P → yFr mods mE mem → zls r ls als → zlm r st ast → nc0 ≤ ncE + dc → ns0 ≤ nsE + 6 * dc →
    (∀ o, .inl o ∈ L → ∀ r' m1 res, zX r r' → yuo E Y K N PH ncE nsE r' m1 o res → yFr mods mE res.2.1 → Pf res) →
    (∀ s, .inr s ∈ L → ∀ r' m1 ls' st' mem' nc' ns', zX r r' → yOk E Y K N PH r' m1 mem' s.2.2.2.1 s.2.2.2.2.1 s.2.2.2.2.2.1 → yFr mods mE mem' → zls r' ls' s.2.1 → zlm r' st' s.2.2.1 → nc' ≤ ncE + s.2.2.2.2.2.2 → ns' ≤ nsE + 6 * s.2.2.2.2.2.2 → mGd E Pf (kx + d) mi s.1 ls' st' mem' nc' ns') →
    mGd E Pf (kx + d) mi pc ls st mem nc0 ns0 := by
  intro n
  induction n with
  | zero => intro d stop mi M cur hd pc als ast F es P dc L h; cases h
  | succ n ih =>
    intro d stop mi M cur hd pc als ast F es P dc L h hM hcur r ls st mem m0 nc0 ns0 Pf hr hok hfr hl hs hnc hns hE hA
    unfold yrn at h
    split at h
    · -- a hook
      rename_i L1 e1
      have e2 : hk mi pc als ast F es P = some L1 := by
        cases hd with
        | true => cases e1
        | false => exact e1
      obtain ⟨a, ha, r', m1, hx, hok'⟩ := hhk mi pc als ast F es P L1 e2 r ls st m0 mem hr hok hl hs
      obtain ⟨Lo, g1, g2⟩ := zjn_mem h _ (List.mem_map_of_mem ha)
      exact ih _ _ _ _ _ _ _ _ _ _ _ _ _ _ g1 hM hcur r' ls st mem m1 nc0 ns0 Pf (hRX _ _ hx hr) hok' hfr (hl.ex hx) (hs.ex hx) hnc hns
        (fun o ho r'' m2 res hx' hu hf => hE o (g2 _ ho) r'' m2 res (hx.tr hx') hu hf)
        (fun s hs' r'' m2 ls' st' mem' nc' ns' hx' => hA s (g2 _ hs') r'' m2 ls' st' mem' nc' ns' (hx.tr hx'))
    · cases hf : zft9 M.2.2.2.2.1 cur pc with
      | none => rw [hf] at h; cases h
      | some qt =>
        obtain ⟨q, tl⟩ := qt
        rw [hf] at h
        simp only at h
        obtain ⟨hq, htl⟩ := zft9_ok (hsr mi M hM) hcur hf
        have hF := hok.1
        cases c9 : Nat.beq q.2.2.2.1 9 with
        | true =>
          rw [c9] at h
          simp only [cond_true] at h
          have h9 := zbe.mp c9
          cases d with
          | zero => cases h
          | succ d =>
            cases hM' : E.1 q.2.2.2.2.1 with
            | none => rw [hM'] at h; cases h
            | some M' =>
              rw [hM'] at h
              simp only at h
              cases cc : (Nat.ble q.2.2.2.2.2.1 ast.length && znz ast && Nat.ble (zcat (ast.drop q.2.2.2.2.2.1)) 8 && Nat.ble (zcat (ast.take q.2.2.2.2.2.1)) M'.2.2.1 && zrc q (ast.take q.2.2.2.2.2.1).reverse (yw0 Y N)) with
              | false => rw [cc] at h; cases h
              | true =>
                rw [cc] at h
                simp only [cond_true] at h
                simp only [Bool.and_eq_true, Nat.ble_eq] at cc
                obtain ⟨⟨⟨⟨k1, k2⟩, k3⟩, k4⟩, k5⟩ := cc
                have hnz := znz_all.mp k2
                have ht := zlm_take q.2.2.2.2.2.1 hs
                have hdp := zlm_drop q.2.2.2.2.2.1 hs
                have ntk : znz (ast.take q.2.2.2.2.2.1) = true := znz_all.mpr fun a ha => hnz a (List.mem_of_mem_take ha)
                have ndr : znz (ast.drop q.2.2.2.2.2.1) = true := znz_all.mpr fun a ha => hnz a (List.mem_of_mem_drop ha)
                have nrv : znz (ast.take q.2.2.2.2.2.1).reverse = true := znz_all.mpr fun a ha => hnz a (List.mem_of_mem_take (List.mem_reverse.mp ha))
                have hrev := zlm_rev ht
                refine mGd_call hM hq h9 hM' (by rw [zlm_len hs]; exact k1) (by rw [zcat_ok hdp ndr]; exact k3) (by rw [zcat_ok ht ntk]; exact k4) (zrc_ok hrev (yw0_ok (r := r) hok.2.2.1) k5) ?_
                -- behind the callee
                have beh : ∀ Lc : List yU, zjn (Lc.map fun o => match o.1 with
                    | 0 => zfn (pc + 3) fun p => bif stop pc p then some [.inr (p, als, ast.drop q.2.2.2.2.2.1, o.2.2.1, o.2.2.2.1, o.2.2.2.2.1, o.2.2.2.2.2)] else
                        yrn E k0 ro Y K N mods con hk prm inl n (d + 1) stop mi M tl false p als (ast.drop q.2.2.2.2.2.1) o.2.2.1 o.2.2.2.1 o.2.2.2.2.1 o.2.2.2.2.2
                    | 1 => zfn (pc + 3) fun p => bif stop pc p then some [.inr (p, als, o.2.1 :: ast.drop q.2.2.2.2.2.1, o.2.2.1, o.2.2.2.1, o.2.2.2.2.1, o.2.2.2.2.2)] else
                        yrn E k0 ro Y K N mods con hk prm inl n (d + 1) stop mi M tl false p als (o.2.1 :: ast.drop q.2.2.2.2.2.1) o.2.2.1 o.2.2.2.1 o.2.2.2.2.1 o.2.2.2.2.2
                    | _ => (match mcatch M pc (E.2.2.2 o.2.1.2.1) with
                      | none => bif M.2.2.2.2.2.isEmpty then some [.inl o] else none
                      | some (j, pc') => bif Nat.ble (j + 1) M.2.2.1 then
                          (bif stop pc pc' then some [.inr (pc', zrl (zrp als j) j, [], o.2.2.1, o.2.2.2.1, o.2.2.2.2.1, o.2.2.2.2.2)] else
                          yrn E k0 ro Y K N mods con hk prm inl n (d + 1) stop mi M tl false pc' (zrl (zrp als j) j) [] o.2.2.1 o.2.2.2.1 o.2.2.2.2.1 o.2.2.2.2.2) else none)) = some L →
                    ∀ o ∈ Lc, ∀ r' m1 res, zX r r' → yuo E Y K N PH ncE nsE r' m1 o res → yFr mods mE res.2.1 → mBk E Pf (kx + d) mi pc M q.2.2.2.2.2.1 ls st res := by
                  intro Lc hj o ho r' m1 res hx hu hfr'
                  obtain ⟨Lo, e1, e2⟩ := zjn_mem hj _ (List.mem_map_of_mem ho)
                  obtain ⟨res1, mem', nc', ns'⟩ := res
                  obtain ⟨u1, u3, u4, u5⟩ := hu
                  dsimp only at u1 u3 u4 u5 hfr'
                  have goE : ∀ o', .inl o' ∈ Lo → ∀ r'' m2 res, zX r' r'' → yuo E Y K N PH ncE nsE r'' m2 o' res → yFr mods mE res.2.1 → Pf res := fun o' ho' r'' m2 res hx' hu' hf' => hE o' (e2 _ ho') r'' m2 res (hx.tr hx') hu' hf'
                  have goA : ∀ s, .inr s ∈ Lo → ∀ r'' m2 ls' st' mem' nc' ns', zX r' r'' → yOk E Y K N PH r'' m2 mem' s.2.2.2.1 s.2.2.2.2.1 s.2.2.2.2.2.1 → yFr mods mE mem' → zls r'' ls' s.2.1 → zlm r'' st' s.2.2.1 → nc' ≤ ncE + s.2.2.2.2.2.2 → ns' ≤ nsE + 6 * s.2.2.2.2.2.2 → mGd E Pf (kx + (d + 1)) mi s.1 ls' st' mem' nc' ns' :=
                    fun s hs' r'' m2 ls' st' mem' nc' ns' hx' => hA s (e2 _ hs') r'' m2 ls' st' mem' nc' ns' (hx.tr hx')
                  split at e1
                  · rename_i e0
                    rw [e0] at u5
                    simp only at u5
                    subst u5
                    simp only [zfn_eq] at e1
                    cases cs : stop pc (pc + 3) with
                    | true =>
                      rw [cs] at e1
                      cases e1
                      exact goA _ List.mem_cons_self r' m1 ls (st.drop q.2.2.2.2.2.1) mem' nc' ns' zX.rf u1 hfr' (hl.ex hx) (hdp.ex hx) u3 u4
                    | false =>
                      rw [cs] at e1
                      exact ih _ _ _ _ _ _ _ _ _ _ _ _ _ _ e1 hM htl r' ls (st.drop q.2.2.2.2.2.1) mem' m1 nc' ns' Pf (hRX _ _ hx hr) u1 hfr' (hl.ex hx) (hdp.ex hx) u3 u4 goE goA
                  · rename_i e0
                    rw [e0] at u5
                    simp only at u5
                    obtain ⟨v, rfl, hv⟩ := u5
                    simp only [zfn_eq] at e1
                    cases cs : stop pc (pc + 3) with
                    | true =>
                      rw [cs] at e1
                      cases e1
                      exact goA _ List.mem_cons_self r' m1 ls (v :: st.drop q.2.2.2.2.2.1) mem' nc' ns' zX.rf u1 hfr' (hl.ex hx) ⟨hv, hdp.ex hx⟩ u3 u4
                    | false =>
                      rw [cs] at e1
                      exact ih _ _ _ _ _ _ _ _ _ _ _ _ _ _ e1 hM htl r' ls (v :: st.drop q.2.2.2.2.2.1) mem' m1 nc' ns' Pf (hRX _ _ hx hr) u1 hfr' (hl.ex hx) ⟨hv, hdp.ex hx⟩ u3 u4 goE goA
                  · rename_i n0 n1
                    have u6 : res1 = .inl (E.2.2.2 o.2.1.2.1) := by
                      split at u5
                      · rename_i e0; exact absurd e0 n0
                      · rename_i e0; exact absurd e0 n1
                      · exact u5
                    subst u6
                    unfold mBk
                    simp only
                    cases hk9 : mcatch M pc (E.2.2.2 o.2.1.2.1) with
                    | none =>
                      rw [hk9] at e1
                      simp only at e1 ⊢
                      cases hh : M.2.2.2.2.2.isEmpty with
                      | false => rw [hh] at e1; cases e1
                      | true =>
                        rw [hh] at e1
                        cases e1
                        refine ⟨rfl, goE o List.mem_cons_self r' m1 _ zX.rf ⟨u1, u3, u4, ?_⟩ hfr'⟩
                        split
                        · rename_i e0; exact absurd e0 n0
                        · rename_i e0; exact absurd e0 n1
                        · rfl
                    | some jp =>
                      obtain ⟨j, pc'⟩ := jp
                      rw [hk9] at e1
                      simp only at e1 ⊢
                      cases hj9 : Nat.ble (j + 1) M.2.2.1 with
                      | false => rw [hj9] at e1; cases e1
                      | true =>
                        rw [hj9] at e1
                        rw [Nat.ble_eq] at hj9
                        simp only [cond_true] at e1
                        refine ⟨by omega, ?_⟩
                        cases cs : stop pc pc' with
                        | true =>
                          rw [cs] at e1
                          cases e1
                          exact goA _ List.mem_cons_self r' m1 _ [] mem' nc' ns' zX.rf u1 hfr' ((hl.ex hx).h1 j) trivial u3 u4
                        | false =>
                          rw [cs] at e1
                          exact ih _ _ _ _ _ _ _ _ _ _ _ _ _ _ e1 hM htl r' _ [] mem' m1 nc' ns' Pf (hRX _ _ hx hr) u1 hfr' ((hl.ex hx).h1 j) trivial u3 u4 goE goA
                cases hi : inl q.2.2.2.2.1 (ast.take q.2.2.2.2.2.1).reverse F es with
                | true =>
                  rw [hi] at h
                  simp only [cond_true] at h
                  split at h
                  · cases h
                  · rename_i Lc e9
                    split at e9
                    · rename_i L9 e8
                      obtain ⟨y1, y2⟩ := yinl_ok e9
                      exact ih _ _ _ _ _ _ _ _ _ _ _ _ _ _ e8 hM' ⟨[], rfl⟩ r _ [] mem m0 nc0 ns0 _ hr hok hfr (zarg_ok 0 hrev nrv) trivial hnc hns
                        (fun o ho r' m1 res hx hu hf' => beh Lc h o (y1 o ho) r' m1 res hx hu hf')
                        (fun s hs' => absurd hs' (y2 s))
                    · cases e9
                | false =>
                  rw [hi] at h
                  simp only [cond_false] at h
                  split at h
                  · cases h
                  · rename_i Lc e9
                    split at e9
                    · rename_i L9 e8
                      cases e9
                      obtain ⟨m, res, g1, g2, o, ho, r', m1, hx, g3⟩ := hcon d _ _ F es P L9 e8 r _ m0 mem nc0 ns0 hr hok hrev
                      refine ⟨m, res, g1, beh _ h (yadd dc o) (List.mem_map_of_mem ho) r' m1 res hx ?_ (hfr.tr g2)⟩
                      obtain ⟨z1, z2, z3, z4⟩ := g3
                      exact ⟨z1, by show _ ≤ ncE + (dc + o.2.2.2.2.2); omega, by show _ ≤ nsE + 6 * (dc + o.2.2.2.2.2); omega, z4⟩
                    · cases e9
        | false =>
          rw [c9] at h
          simp only [cond_false] at h
          cases c8 : Nat.beq q.2.2.2.1 8 with
          | true =>
            rw [c8] at h
            simp only [cond_true] at h
            cases cc : (M.2.2.2.2.2.isEmpty && Nat.ble 8 d && znz ast && Nat.ble (zcat ast) 8) with
            | false => rw [cc] at h; cases h
            | true =>
              rw [cc] at h
              cases h
              simp only [Bool.and_eq_true, Nat.ble_eq] at cc
              obtain ⟨⟨⟨k1, k2⟩, k3⟩, k4⟩ := cc
              refine mGd_thr hM hq (zbe.mp c8) k1 (by omega) (by rw [zcat_ok hs k3]; exact k4) ?_
              exact hE _ List.mem_cons_self r m0 _ zX.rf ⟨hok, by dsimp only; omega, by dsimp only; omega, rfl⟩ hfr
          | false =>
            rw [c8] at h
            simp only [cond_false] at h
            cases c7 : Nat.beq q.2.2.2.1 7 with
            | true =>
              rw [c7] at h
              simp only [cond_true] at h
              cases cc : (Nat.ble 8 d && znz ast && Nat.ble (zcat ast) 8) with
              | false => rw [cc] at h; cases h
              | true =>
                rw [cc] at h
                simp only [cond_true] at h
                simp only [Bool.and_eq_true, Nat.ble_eq] at cc
                obtain ⟨⟨k2, k3⟩, k4⟩ := cc
                split at h
                · rename_i st' F' es' P' ep
                  simp only [zfn_eq] at h
                  obtain ⟨st1, mem1, r', m1, p1, p2, p3, p4, p5⟩ := hpr _ _ _ _ _ _ _ _ _ ep r st m0 mem hr hok hs
                  refine mGd_prim hM hq (zbe.mp c7) (by omega) (by rw [zcat_ok hs k3]; exact k4) p1 ?_
                  cases cs : stop pc (pc + 3) with
                  | true =>
                    rw [cs] at h
                    cases h
                    exact hA _ List.mem_cons_self r' m1 ls st1 mem1 nc0 ns0 p3 p5 (hfr.tr p2) (hl.ex p3) p4 hnc hns
                  | false =>
                    rw [cs] at h
                    exact ih _ _ _ _ _ _ _ _ _ _ _ _ _ _ h hM htl r' ls st1 mem1 m1 nc0 ns0 Pf (hRX _ _ p3 hr) p5 (hfr.tr p2) (hl.ex p3) p4 hnc hns
                      (fun o ho r'' m2 res hx' hu hf => hE o ho r'' m2 res (p3.tr hx') hu hf)
                      (fun s hs' r'' m2 ls' st' mem' nc' ns' hx' => hA s hs' r'' m2 ls' st' mem' nc' ns' (p3.tr hx'))
                · cases h
            | false =>
              rw [c7] at h
              simp only [cond_false] at h
              cases c6 : Nat.ble 7 q.2.2.2.1 with
              | true => rw [c6] at h; cases h
              | false =>
                rw [c6] at h
                simp only [cond_false] at h
                have h7 : q.2.2.2.1 < 7 := by
                  rw [← Bool.not_eq_true, Nat.ble_eq] at c6; omega
                split at h
                · rename_i hi
                  split at h
                  · rename_i e2 _
                    cases h
                    cases st with
                    | cons v vs => exact hs.elim
                    | nil =>
                      refine mGd_ret hM hq h7 hi e2 ?_
                      exact hE _ List.mem_cons_self r m0 _ zX.rf ⟨hok, hnc, hns, rfl⟩ hfr
                  · cases h
                · rename_i hi
                  split at h
                  · rename_i a ty e2 _
                    cases cc : (Nat.beq a.1 1 && zft F ty a) with
                    | false => rw [cc] at h; cases h
                    | true =>
                      rw [cc] at h
                      cases h
                      simp only [Bool.and_eq_true] at cc
                      obtain ⟨v, vs, rfl, hv, hvs⟩ := zlm_cons hs
                      have hvs0 : vs = [] := by cases vs with
                        | nil => rfl
                        | cons _ _ => exact hvs.elim
                      subst hvs0
                      obtain ⟨x, rfl, hx⟩ := zvm_i hv cc.1
                      have hm := (zft_ok hF hv cc.2).1
                      unfold mfit at hm
                      simp only [Bool.and_eq_true, decide_eq_true_eq] at hm
                      refine mGd_iret hM hq h7 hi e2 hm.1 hm.2 ?_
                      exact hE _ List.mem_cons_self r m0 _ zX.rf ⟨hok, hnc, hns, _, rfl, hv⟩ hfr
                  · cases h
                · rename_i hi
                  split at h
                  · rename_i a e2 _
                    cases cc : Nat.ble 3 a.1 with
                    | false => rw [cc] at h; cases h
                    | true =>
                      rw [cc] at h
                      cases h
                      obtain ⟨v, vs, rfl, hv, hvs⟩ := zlm_cons hs
                      have hvs0 : vs = [] := by cases vs with
                        | nil => rfl
                        | cons _ _ => exact hvs.elim
                      subst hvs0
                      obtain ⟨x, rfl⟩ := zvm_l hv cc
                      refine mGd_lret hM hq h7 hi e2 ?_
                      exact hE _ List.mem_cons_self r m0 _ zX.rf ⟨hok, hnc, hns, _, rfl, hv⟩ hfr
                  · cases h
                · rename_i n1 n2 n3
                  split at h
                  · rename_i L9 e9
                    obtain ⟨pc', ls', st', mem', r', g1, g2, g3, g4, o, ho, h1, h2, h3, h4, h5⟩ := ysp_ok (hRI _ hr) hF hl hs hok.2.2.1 hok.2.1 e9
                    obtain ⟨Lo, e1, e2⟩ := zjn_mem h _ (List.mem_map_of_mem ho)
                    refine mGd_plain hM hq h7 n1 n2 n3 g1 ?_
                    subst h1
                    have hok' : yOk E Y K N PH r' m0 mem' o.2.2.2.1 o.2.2.2.2 P := ⟨h4, h5, g3, fun t ht => hPX _ _ _ _ g2 (hok.2.2.2 t ht)⟩
                    cases cs : stop pc o.1 with
                    | true =>
                      rw [cs] at e1
                      cases e1
                      exact hA _ (e2 _ List.mem_cons_self) r' m0 ls' st' mem' nc0 ns0 g2 hok' (hfr.tr g4) h2 h3 hnc hns
                    | false =>
                      rw [cs] at e1
                      exact ih _ _ _ _ _ _ _ _ _ _ _ _ _ _ e1 hM htl r' ls' st' mem' m0 nc0 ns0 Pf (hRX _ _ g2 hr) hok' (hfr.tr g4) h2 h3 hnc hns
                        (fun o ho r'' m2 res hx' hu hf => hE o (e2 _ ho) r'' m2 res (g2.tr hx') hu hf)
                        (fun s hs' r'' m2 ls' st' mem' nc' ns' hx' => hA s (e2 _ hs') r'' m2 ls' st' mem' nc' ns' (g2.tr hx'))
                  · cases h
