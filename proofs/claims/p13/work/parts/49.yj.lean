/-! a contract at a call -/
/-- preds of which nothing is told by symbols -/
def ycq (t : yQp) : Bool := !(Nat.beq t.1 4) && !(Nat.beq t.1 7) && !(Nat.beq t.1 10) && !(Nat.beq t.1 12) && !(Nat.beq t.1 14)
def yqe (t u : yQp) : Bool := Nat.beq t.1 u.1 && Nat.beq t.2.1 u.2.1 && Nat.beq t.2.2.1 u.2.2.1
theorem yqe_rf {t : yQp} : yqe t t = true := by simp [yqe]
def ywn (P W : yP) : Bool := W.all fun t => ycq t && P.any fun u => yqe t u
/-- facts -/
def yFa (E : mEnv) (r : List Int) (m : mMem) (es : List yE) : Prop := ∀ e ∈ es, e.2.2.2 = 0 ∧ ∃ (i : Nat) (v : Value), zd r e.2.1 = some (i : Int) ∧ yvx E m e.1 i = some v ∧ zvm r v e.2.2.1
theorem yFa.ch {E : mEnv} {r : List Int} {m : mMem} : ∀ {es : List yE}, yFa E r m es → ych E r m es m
  | [], _ => rfl
  | e :: es, h => by
    obtain ⟨h0, i, v, h1, h2, h3⟩ := h e List.mem_cons_self
    refine ⟨i, h1, ?_⟩
    rw [h0]
    exact ⟨yFa.ch fun e he => h e (List.mem_cons_of_mem _ he), v, h2, h3⟩
theorem ych.fa {E : mEnv} {r : List Int} {m0 m : mMem} : ∀ {es : List yE}, ych E r m0 es m → (∀ e ∈ es, e.2.2.2 = 0) → yFa E r m es
  | [], _, _, e, he => by cases he
  | e9 :: es, h, h0, e, he => by
    obtain ⟨i, h1, h2⟩ := h
    rw [h0 e9 List.mem_cons_self] at h2
    obtain ⟨h3, v, h4, h5⟩ := h2
    rcases List.mem_cons.mp he with rfl | he
    · exact ⟨h0 _ List.mem_cons_self, i, v, h1, h4, h5⟩
    · exact ych.fa h3 (fun e he => h0 e (List.mem_cons_of_mem _ he)) e he
theorem yFa.ex {E : mEnv} {r r' : List Int} {m : mMem} {es : List yE} (hx : zX r r') (h : yFa E r m es) : yFa E r' m es := fun e he => by
  obtain ⟨h0, i, v, h1, h2, h3⟩ := h e he
  exact ⟨h0, i, v, hx.den h1, h2, h3.ex hx⟩
/-- what is known of places that stay -/
def ykf (F : zF) (mods : List (Nat × Nat × Nat)) (es : List yE) : List yE := es.filter fun e => mods.all fun q => !(Nat.beq q.1 e.1) || yle 2 F (zsh e.2.1 1) (zk q.2.1) || yge 2 F e.2.1 q.2.2
theorem ykf_ok {E : mEnv} {r : List Int} {F : zF} {mods : List (Nat × Nat × Nat)} {m m' : mMem} {es : List yE} (hF : zFok r F) (h : yFa E r m es) (hf : yFr mods m m') : yFa E r m' (ykf F mods es) := by
  intro e he
  obtain ⟨he1, he2⟩ := List.mem_filter.mp he
  obtain ⟨h0, i, v, h1, h2, h3⟩ := h e he1
  refine ⟨h0, i, v, h1, ?_, h3⟩
  have hn : ¬ yMi mods e.1 i := by
    rintro ⟨q, hq, q1, q2, q3⟩
    have := List.all_eq_true.mp he2 q hq
    simp only [Bool.or_eq_true, Bool.not_eq_true'] at this
    rcases this with (c | c) | c
    · rw [zbe.mpr q1] at c; cases c
    · have := yle_ok hF 2 (zsh_d h1) (zk_d hF _) c; omega
    · have := yge_ok hF 2 h1 c; omega
  unfold yvx at h2 ⊢
  by_cases hp : e.1 < 1000
  · rw [if_pos hp] at h2 ⊢
    rw [hf _ _ hn]
    exact h2
  · rw [if_neg hp] at h2 ⊢
    exact h2
abbrev ySyn : Type := zF → List yE → yP → List yE × yP
/-- a sync: facts of the memory as it is, and what holds of it -/
def ySy (E : mEnv) (Y : zT yC 7) (K : List (Nat × yK)) (N : Nat) (PH : List Int → mMem → yQp → Prop) (sy : ySyn) : Prop :=
  ∀ r m0 mem F es P, yOk E Y K N PH r m0 mem F es P → yFa E r mem (sy F es P).1 ∧ ∀ t ∈ (sy F es P).2, PH r mem t
def ynt {α : Type} : List α → Nat → Option α
  | [], _ => none
  | a :: l, n => match n with
    | 0 => some a
    | k + 1 => ynt l k
theorem ynt_eq {α : Type} : ∀ (l : List α) (n : Nat), ynt l n = l[n]?
  | [], n => by simp [ynt]
  | a :: l, 0 => rfl
  | a :: l, n + 1 => by
    show ynt l n = _
    rw [ynt_eq l n]
    simp
/-- the callee's symbols are the caller's -/
def ymv (n0 np : Nat) (th : List zV) (a : zV) : zV := bif Nat.beq a.1 1 || Nat.beq a.1 3 then
    (bif Nat.ble (Nat.succ a.2.1) np then (match ynt th a.2.1 with
      | some b => zfi (b.2.2 + a.2.2) fun c => (a.1, b.2.1, c)
      | none => (0, 0, 0)) else zfn (n0 + (a.2.1 - np)) fun s => (a.1, s, a.2.2)) else a
def yMv (r θ : List Int) (n0 np : Nat) (th : List zV) : Prop := (∀ k b, k < np → th[k]? = some b → ∃ x, zd r b = some x ∧ θ[k]? = some x) ∧ th.length = np ∧ ∀ k x, np ≤ k → θ[k]? = some x → r[n0 + (k - np)]? = some x
theorem ymv_d {r θ : List Int} {n0 np : Nat} {th : List zV} (h : yMv r θ n0 np th) {a : zV} {x : Int} (ht : a.1 = 1 ∨ a.1 = 3) (ha : zd θ a = some x) : zd r (ymv n0 np th a) = some x ∧ (ymv n0 np th a).1 = a.1 := by
  obtain ⟨v, h1, rfl⟩ := zd_some.mp ha
  have hb : (Nat.beq a.1 1 || Nat.beq a.1 3) = true := by rcases ht with e | e <;> rw [e] <;> rfl
  unfold ymv
  rw [hb]
  simp only [cond_true]
  cases c : Nat.ble (Nat.succ a.2.1) np with
  | true =>
    rw [Nat.ble_eq] at c
    simp only [cond_true]
    have hlt : a.2.1 < th.length := by rw [h.2.1]; omega
    obtain ⟨y, y1, y2⟩ := h.1 a.2.1 th[a.2.1] (by omega) (List.getElem?_eq_getElem hlt)
    rw [h1] at y2
    cases y2
    rw [ynt_eq, List.getElem?_eq_getElem hlt]
    simp only [zfi_eq]
    obtain ⟨w, w1, rfl⟩ := zd_some.mp y1
    exact ⟨zd_some.mpr ⟨w, w1, by dsimp only; omega⟩, trivial⟩
  | false =>
    have c : ¬ (Nat.succ a.2.1 ≤ np) := by rw [← Nat.ble_eq, c]; simp
    simp only [cond_false, zfn_eq]
    exact ⟨zd_some.mpr ⟨v, h.2.2 _ _ (by omega) h1, rfl⟩, trivial⟩
theorem ymv_v {r θ : List Int} {n0 np : Nat} {th : List zV} (h : yMv r θ n0 np th) {a : zV} {v : Value} (ha : zvm θ v a) : zvm r v (ymv n0 np th a) := by
  unfold zvm at ha
  split at ha
  · rename_i e
    have : ymv n0 np th a = a := by unfold ymv; rw [e]; rfl
    rw [this]
    unfold zvm
    rw [e]
    trivial
  · rename_i e
    obtain ⟨x, rfl, hx⟩ := ha
    obtain ⟨g1, g2⟩ := ymv_d h (Or.inl e) hx
    exact zvm_int (by rw [g2, e]) g1
  · rename_i e
    have : ymv n0 np th a = a := by unfold ymv; rw [e]; rfl
    rw [this]
    unfold zvm
    rw [e]
    exact ha
  · rename_i e
    obtain ⟨x, rfl, hx⟩ := ha
    obtain ⟨g1, g2⟩ := ymv_d h (Or.inr e) hx
    exact zvm_lng (by rw [g2, e]) g1
  · rename_i n0' n1 n2 n3
    obtain ⟨x, rfl⟩ := ha
    have : ymv n0 np th a = a := by
      unfold ymv
      have c : (Nat.beq a.1 1 || Nat.beq a.1 3) = false := by
        rw [Bool.or_eq_false_iff]
        exact ⟨by rw [← Bool.not_eq_true, zbe]; exact n1, by rw [← Bool.not_eq_true, zbe]; exact n3⟩
      rw [c]
      rfl
    rw [this]
    unfold zvm
    split
    · trivial
    · rename_i e; exact (n1 e).elim
    · rename_i e; exact (n2 e).elim
    · rename_i e; exact (n3 e).elim
    · exact ⟨x, rfl⟩
def yds (k0 : Nat) (f : zV → zV) : List (Nat × Nat × Int) → zF → Option zF
  | [], F => some F
  | e :: l, F => match yas k0 F (zsh (f (1, e.1, 0)) e.2.2) (f (1, e.2.1, 0)) with
    | none => none
    | some F1 => yds k0 f l F1
theorem yds_ok {r θ : List Int} {k0 n0 np : Nat} {th : List zV} (h : yMv r θ n0 np th) : ∀ {l : List (Nat × Nat × Int)} {F : zF}, zFok r F → (∀ e ∈ l, ∃ u v, θ[e.1]? = some u ∧ θ[e.2.1]? = some v ∧ u + e.2.2 ≤ v) → ∃ F', yds k0 (ymv n0 np th) l F = some F' ∧ zFok r F'
  | [], F, hF, _ => ⟨F, rfl, hF⟩
  | e :: l, F, hF, hl => by
    obtain ⟨u, v, e1, e2, e3⟩ := hl e List.mem_cons_self
    have g1 := (ymv_d h (a := (1, e.1, 0)) (Or.inl rfl) (x := u) (zd_some.mpr ⟨u, e1, by simp⟩)).1
    have g2 := (ymv_d h (a := (1, e.2.1, 0)) (Or.inl rfl) (x := v) (zd_some.mpr ⟨v, e2, by simp⟩)).1
    obtain ⟨F1, f1, f2⟩ := yas_ok (k0 := k0) hF (zsh_d (n := e.2.2) g1) g2 (by omega)
    obtain ⟨F', f3, f4⟩ := yds_ok (k0 := k0) h (l := l) f2 (fun e he => hl e (List.mem_cons_of_mem _ he))
    refine ⟨F', ?_, f4⟩
    unfold yds
    rw [f1]
    exact f3
/-- what is told of a contract's ends is as it should be -/
def yoo (np : Nat) (o : yU) : Bool := (o.2.2.2.1.all fun e => Nat.beq e.2.2.2 0 && Nat.beq e.2.1.1 1) && (o.2.2.1.2.1.all fun e => Nat.ble np e.1) && o.2.2.2.2.1.all ycq && Nat.ble np o.2.2.1.1 && (Nat.ble o.1 1 || Nat.beq o.2.1.1 0)
def ycv (k0 n0 np : Nat) (th : List zV) (F : zF) (es : List yE) (P : yP) (o : yU) : Option yU :=
  match yds k0 (ymv n0 np th) o.2.2.1.2.2.1 (n0 + (o.2.2.1.1 - np), (o.2.2.1.2.1.map fun e => (n0 + (e.1 - np), e.2)) ++ F.2.1, F.2.2.1, F.2.2.2) with
  | none => none
  | some F1 => some (o.1, ymv n0 np th o.2.1, F1, (o.2.2.2.1.map fun e => (e.1, ymv n0 np th e.2.1, ymv n0 np th e.2.2.1, 0)) ++ es, o.2.2.2.2.1 ++ P, o.2.2.2.2.2)
def ycu (k0 : Nat) (Y : zT yC 7) (K : List (Nat × yK)) (N : Nat) (sy : ySyn) (fd : yQp → List (Nat × Nat × Nat) → Bool) (gd : zF → List zV → Bool) (c : yKt) (args : List zV) (F : zF) (es : List yE) (P : yP) : Option (List yU) :=
  match yma F args c.1 with
  | none => none
  | some t1 => match ymc Y K N c.2.1 F es with
    | none => none
    | some (t2, F1, es1) =>
      bif ywn (sy F1 es1 P).2 c.2.2.1 && c.2.2.2.2.1.all (yoo (ykF c).1) && gd F1 (zk 0 :: (t1 ++ t2)) then
        some (c.2.2.2.2.1.filterMap (ycv k0 F1.1 (ykF c).1 (zk 0 :: (t1 ++ t2)) F1 (ykf F1 c.2.2.2.1 (sy F1 es1 P).1) ((sy F1 es1 P).2.filter fun t => fd t c.2.2.2.1)))
      else none
theorem ycu_ok {E : mEnv} {Y : zT yC 7} {K : List (Nat × yK)} {N k0 d mi : Nat} {PH : List Int → mMem → yQp → Prop} {sy : ySyn} {fd : yQp → List (Nat × Nat × Nat) → Bool} {gd : zF → List zV → Bool} {Q : List Int → Prop} {c : yKt} {args : List zV} {F : zF} {es : List yE} {P : yP} {L : List yU}
    (hPX : ∀ r r' m t, zX r r' → PH r m t → PH r' m t) (hPq : ∀ r r' m t u, ycq t = true → yqe t u = true → PH r m u → PH r' m t) (hsy : ySy E Y K N PH sy) (hfd : ∀ r m m' t mods, fd t mods = true → yFr mods m m' → PH r m t → PH r m' t)
    (hct : yCt E Y K N PH Q d mi c) (h : ycu k0 Y K N sy fd gd c args F es P = some L) {r : List Int} (hQ : ∀ r1 θ F1 th, zX r r1 → zFok r1 F1 → gd F1 th = true → (∀ (k : Nat) (a : zV), th[k]? = some a → ∃ x, zd r1 a = some x ∧ θ[k]? = some x) → Q θ) {vs : List Value} {m0 mem : mMem} {nc ns : Nat} (hok : yOk E Y K N PH r m0 mem F es P) (hs : zlm r vs args) :
    ∃ n res, mrun E n d mi 0 (lv_args 0 vs) [] mem nc ns = some res ∧ yFr c.2.2.2.1 mem res.2.1 ∧ ∃ o ∈ L, ∃ r' m1, zX r r' ∧ yuo E Y K N PH nc ns r' m1 o res := by
  obtain ⟨hF, hc, hT, hP⟩ := hok
  unfold ycu at h
  split at h
  · cases h
  · rename_i t1 e1
    split at h
    · cases h
    · rename_i t2 F1 es1 e2
      obtain ⟨r1, x1, hF1, hc1, hn, hden, hcell⟩ := ymc_ok hT hF hc e2
      cases cc : (ywn (sy F1 es1 P).2 c.2.2.1 && c.2.2.2.2.1.all (yoo (ykF c).1) && gd F1 (zk 0 :: (t1 ++ t2))) with
      | false => rw [cc] at h; cases h
      | true =>
        rw [cc] at h
        simp only [cond_true] at h
        cases h
        simp only [Bool.and_eq_true] at cc
        obtain ⟨⟨c1, c2⟩, c3⟩ := cc
        -- the values of the first symbols
        have hth1 : ∀ a ∈ t1, ∃ x, zd r a = some x := by
          have : ∀ (as : List zV) (vs : List Value) (qs : List yKa) (t : List zV), yma F as qs = some t → zlm r vs as → ∀ a ∈ t, ∃ x, zd r a = some x := by
            intro as
            induction as with
            | nil =>
              intro vs qs t ht _ a ha
              cases qs with
              | nil => cases ht; cases ha
              | cons q qs => cases ht
            | cons b as ih =>
              intro vs qs t ht hs a ha
              cases vs with
              | nil => exact hs.elim
              | cons v vs =>
                cases qs with
                | nil => cases ht
                | cons q qs =>
                  unfold yma at ht
                  split at ht
                  · cases c3 : (Nat.beq b.1 1 && yin F b q.2.2.1 q.2.2.2) with
                    | false => rw [c3] at ht; cases ht
                    | true =>
                      rw [c3] at ht
                      simp only [cond_true] at ht
                      simp only [Bool.and_eq_true] at c3
                      split at ht
                      · rename_i t' et
                        cases ht
                        rcases List.mem_cons.mp ha with rfl | ha
                        · obtain ⟨x, -, hx⟩ := zvm_i hs.1 c3.1
                          exact ⟨_, hx⟩
                        · exact ih vs qs t' et hs.2 a ha
                      · cases ht
                  · cases c3 : (Nat.beq b.1 2 && Nat.beq b.2.1 q.2.1) with
                    | false => rw [c3] at ht; cases ht
                    | true => rw [c3] at ht; exact ih vs qs t ht hs.2 a ha
                  · cases c3 : Nat.ble 3 b.1 with
                    | false => rw [c3] at ht; cases ht
                    | true => rw [c3] at ht; exact ih vs qs t ht hs.2 a ha
          exact this args vs c.1 t1 e1 hs
        have hth1' : ∀ a ∈ t1, ∃ x, zd r1 a = some x := fun a ha => by
          obtain ⟨x, hx⟩ := hth1 a ha
          exact ⟨x, x1.den hx⟩
        obtain ⟨θ, hθe⟩ : ∃ θ : List Int, θ = 0 :: (t1 ++ t2).map fun a => (zd r1 a).getD 0 := ⟨_, rfl⟩
        have hall : ∀ a ∈ t1 ++ t2, ∃ x, zd r1 a = some x := fun a ha => (List.mem_append.mp ha).elim (hth1' a) (hden a)
        have hθ : ∀ k a, (t1 ++ t2)[k]? = some a → ∃ x, zd r1 a = some x ∧ θ[1 + k]? = some x := by
          intro k a ha
          obtain ⟨x, hx⟩ := hall a (List.mem_of_getElem? ha)
          refine ⟨x, hx, ?_⟩
          rw [hθe, Nat.add_comm, List.getElem?_cons_succ, List.getElem?_map, ha]
          simp [hx]
        have hθ0 : θ[0]? = some 0 := by rw [hθe]; rfl
        have hthQ : ∀ (k : Nat) (a : zV), (zk 0 :: (t1 ++ t2))[k]? = some a → ∃ x, zd r1 a = some x ∧ θ[k]? = some x := by
          intro k a ha
          cases k with
          | zero => cases ha; exact ⟨0, zk_d hF1 0, hθ0⟩
          | succ k =>
            rw [List.getElem?_cons_succ] at ha
            rw [Nat.add_comm]
            exact hθ k a ha
        have hθl : θ.length = 1 + (t1.length + t2.length) := by rw [hθe]; simp; omega
        have d1 : yDn r θ 1 t1 := fun k a ha => by
          obtain ⟨x, h1, h2⟩ := hθ k a (by rw [List.getElem?_append_left (List.getElem?_eq_some_iff.mp ha).1]; exact ha)
          obtain ⟨y, hy⟩ := hth1 a (List.mem_of_getElem? ha)
          rw [x1.den hy] at h1
          cases h1
          exact ⟨_, hy, h2⟩
        have d2 : yDn r1 θ (1 + t1.length) t2 := fun k a ha => by
          have := hθ (t1.length + k) a (by rw [List.getElem?_append_right (by omega), Nat.add_sub_cancel_left]; exact ha)
          rw [← Nat.add_assoc] at this
          exact this
        have hn1 : ykn c.1 1 = 1 + t1.length := yma_n e1
        obtain ⟨z1, z2⟩ := yma_ok hF e1 hs d1
        obtain ⟨z3, z4⟩ := hcell θ (1 + t1.length) hθ0 d2
        have hnp : (ykF c).1 = θ.length := by
          show ykm c.2.1 (ykn c.1 1) = _
          rw [hn1, hn, hθl]
          omega
        have hFθ : zFok θ (ykF c) := by
          refine ⟨hnp.symm, hθ0, fun e he => ?_, fun e he => (by cases he), fun e he => (by cases he)⟩
          rcases List.mem_append.mp he with he | he
          · rw [hn1] at he; exact z4 e he
          · exact z2 e he
        have hsyn := hsy r1 m0 mem F1 es1 P ⟨hF1, hc1, hT, fun t ht => hPX _ _ _ _ x1 (hP t ht)⟩
        have hpre : ∀ t ∈ c.2.2.1, PH θ mem t := by
          intro t ht
          have := List.all_eq_true.mp c1 t ht
          simp only [Bool.and_eq_true, List.any_eq_true] at this
          obtain ⟨q1, u, hu, q2⟩ := this
          exact hPq r1 θ mem t u q1 q2 (hsyn.2 u hu)
        obtain ⟨n, res, run, hfr, o, ho, θ', hx', hu⟩ := hct θ vs mem nc ns (hQ r1 θ F1 _ x1 hF1 c3 hthQ) hFθ z1 (by show ych E θ mem (yke c.2.1 (ykn c.1 1)) mem; rw [hn1]; exact z3) hT hpre
        refine ⟨n, res, run, hfr, ?_⟩
        obtain ⟨t, ht⟩ := hx'
        obtain ⟨⟨u1, u2, u3, u4⟩, u5, u6, u7⟩ := hu
        have hoo := List.all_eq_true.mp c2 o ho
        unfold yoo at hoo
        simp only [Bool.and_eq_true, List.all_eq_true, Nat.ble_eq, zbe, Bool.or_eq_true] at hoo
        obtain ⟨⟨⟨⟨o1, o2⟩, o3⟩, o4⟩, o5⟩ := hoo
        have xr : zX r1 (r1 ++ t) := ⟨t, rfl⟩
        have hM : yMv (r1 ++ t) θ' F1.1 (ykF c).1 (zk 0 :: (t1 ++ t2)) := by
          refine ⟨fun k b hk hb => ?_, ?_, fun k x hk hx => ?_⟩
          · rw [ht]
            cases k with
            | zero =>
              cases hb
              exact ⟨0, xr.den (zk_d hF1 0), by rw [List.getElem?_append_left (by omega)]; exact hθ0⟩
            | succ k =>
              obtain ⟨x, h1, h2⟩ := hθ k b (by simpa using hb)
              refine ⟨x, xr.den h1, ?_⟩
              rw [List.getElem?_append_left (by rw [hnp] at hk; exact hk), Nat.add_comm]
              exact h2
          · rw [hnp, hθl]; simp; omega
          · rw [ht, List.getElem?_append_right (by omega)] at hx
            rw [List.getElem?_append_right (by rw [hF1.1]; omega), hF1.1, Nat.add_sub_cancel_left, hnp]
            exact hx
        have hF2 : zFok (r1 ++ t) (F1.1 + (o.2.2.1.1 - (ykF c).1), (o.2.2.1.2.1.map fun e => (F1.1 + (e.1 - (ykF c).1), e.2)) ++ F1.2.1, F1.2.2.1, F1.2.2.2) := by
          refine ⟨?_, xr.get hF1.2.1, fun e he => ?_, fun e he => ?_, fun e he => ?_⟩
          · rw [List.length_append, hF1.1, ← u1.1, ht, List.length_append, hnp]
            dsimp only
            omega
          · rcases List.mem_append.mp he with he | he
            · obtain ⟨e', he', rfl⟩ := List.mem_map.mp he
              obtain ⟨v, v1, v2⟩ := u1.2.2.1 e' he'
              exact ⟨v, hM.2.2 _ _ (o2 e' he') v1, v2⟩
            · obtain ⟨v, v1, v2⟩ := hF1.2.2.1 e he
              exact ⟨v, xr.get v1, v2⟩
          · obtain ⟨u, v, v1, v2, v3⟩ := hF1.2.2.2.1 e he
            exact ⟨u, v, xr.get v1, xr.get v2, v3⟩
          · obtain ⟨x, y, z, v1, v2, v3, v4⟩ := hF1.2.2.2.2 e he
            exact ⟨x, y, z, xr.den v1, xr.den v2, v3, xr.get v4⟩
        obtain ⟨F3, f1, f2⟩ := yds_ok (k0 := k0) hM hF2 u1.2.2.2.1
        have hmem : ycv k0 F1.1 (ykF c).1 (zk 0 :: (t1 ++ t2)) F1 (ykf F1 c.2.2.2.1 (sy F1 es1 P).1) ((sy F1 es1 P).2.filter fun t => fd t c.2.2.2.1) o = some (o.1, ymv F1.1 (ykF c).1 (zk 0 :: (t1 ++ t2)) o.2.1, F3, (o.2.2.2.1.map fun e => (e.1, ymv F1.1 (ykF c).1 (zk 0 :: (t1 ++ t2)) e.2.1, ymv F1.1 (ykF c).1 (zk 0 :: (t1 ++ t2)) e.2.2.1, 0)) ++ ykf F1 c.2.2.2.1 (sy F1 es1 P).1, o.2.2.2.2.1 ++ (sy F1 es1 P).2.filter fun t => fd t c.2.2.2.1, o.2.2.2.2.2) := by
          unfold ycv
          rw [f1]
        refine ⟨_, List.mem_filterMap.mpr ⟨o, ho, hmem⟩, r1 ++ t, res.2.1, x1.tr xr, ⟨f2, yFa.ch ?_, u3, fun q hq => ?_⟩, u5, u6, ?_⟩
        · intro e he
          rcases List.mem_append.mp he with he | he
          · obtain ⟨e', he', rfl⟩ := List.mem_map.mp he
            obtain ⟨-, i, v, v1, v2, v3⟩ := ych.fa u2 (fun e he => (o1 e he).1) e' he'
            exact ⟨rfl, i, v, (ymv_d hM (Or.inl (o1 e' he').2) v1).1, v2, ymv_v hM v3⟩
          · exact (ykf_ok hF1 hsyn.1 hfr).ex xr e he
        · rcases List.mem_append.mp hq with hq | hq
          · exact hPq θ' _ _ q q (o3 q hq) yqe_rf (u4 q hq)
          · obtain ⟨q1, q2⟩ := List.mem_filter.mp hq
            exact hPX _ _ _ _ xr (hfd _ _ _ _ _ q2 hfr (hsyn.2 q q1))
        · dsimp only
          split
          · rename_i e0; rw [e0] at u7; exact u7
          · rename_i e0
            rw [e0] at u7
            obtain ⟨v, v1, v2⟩ := u7
            exact ⟨v, v1, ymv_v hM v2⟩
          · rename_i k n0 n1
            split at u7
            · rename_i e0; exact absurd e0 n0
            · rename_i e0; exact absurd e0 n1
            · rw [u7]
              have : (ymv F1.1 (ykF c).1 (zk 0 :: (t1 ++ t2)) o.2.1).2.1 = o.2.1.2.1 := by
                have h0 : o.2.1.1 = 0 := by
                  rcases o5 with h | h
                  · have : o.1 = 0 ∨ o.1 = 1 := by omega
                    rcases this with e | e
                    · exact (n0 e).elim
                    · exact (n1 e).elim
                  · exact h
                unfold ymv
                rw [h0]
                rfl
              rw [this]
