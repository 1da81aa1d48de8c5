/-! what begins leaves of the old places: 20 to 26; its loops by hand, the rest by the checker -/
theorem zbeg1 {E : mEnv} (hE : E.1 157 = some zm_157) {P : mRes → Prop} {d nc ns Mp mp : Nat} {fs : List Value} (e1 : fs[2]? = some (.ref mp)) (n1 : mp ≠ Mp) (I : (Nat → Value) → Prop) :
    ∀ (t k : Nat) (mem : mMem) (h : Nat → Value), k + t = 20 → 0 ≤ k → mem.length ≤ 128 → mem[Mp]? = some (.inr (11, fs)) → mem[mp]? = some (.inl (0, 969, h)) → (∀ j, 0 ≤ j → j < k → h j = .int 0) → I h → (∀ h k, 0 ≤ k → k < 20 → I h → I (mup h k (.int 0))) →
    (∀ h', (∀ j, 0 ≤ j → j < 20 → h' j = .int 0) → I h' → mGd E P d 157 21 [(1, .int (Int32.ofNat 20)), (0, .ref Mp)] [] (mem.set mp (.inl (0, 969, h'))) nc ns) → mGd E P d 157 2 [(1, .int (Int32.ofNat k)), (0, .ref Mp)] [] mem nc ns := by
  intro t
  induction t with
  | zero =>
    intro k mem h hk hk0 h8 m1 m3 hh hI hup hP
    obtain rfl : k = 20 := by omega
    have hP := hP h hh hI
    rw [zset_same m3] at hP
    refine mGd_plain (M := zm_157) (q := (2, .iload_n 1, 1, 0, 0, 0, 0)) hE rfl (by decide) (fun h => nomatch h) (fun h => nomatch h) (fun h => nomatch h) rfl ?_
    refine mGd_plain (M := zm_157) (q := (3, .bipush 20, 2, 0, 0, 0, 0)) hE rfl (by decide) (fun h => nomatch h) (fun h => nomatch h) (fun h => nomatch h) rfl ?_
    refine mGd_plain (M := zm_157) (q := (5, .if_icmp .ge 16, 3, 0, 0, 0, 0)) hE rfl (by decide) (fun h => nomatch h) (fun h => nomatch h) (fun h => nomatch h) (mp_ge1 (t := 21) rfl (by decide)) ?_
    exact hP
  | succ t ih =>
    intro k mem h hk hk0 h8 m1 m3 hh hI hup hP
    have hin : mIn (Int32.ofNat k) 969 = true := zi32in (by omega) (by decide)
    refine mGd_plain (M := zm_157) (q := (2, .iload_n 1, 1, 0, 0, 0, 0)) hE rfl (by decide) (fun h => nomatch h) (fun h => nomatch h) (fun h => nomatch h) rfl ?_
    refine mGd_plain (M := zm_157) (q := (3, .bipush 20, 2, 0, 0, 0, 0)) hE rfl (by decide) (fun h => nomatch h) (fun h => nomatch h) (fun h => nomatch h) rfl ?_
    refine mGd_plain (M := zm_157) (q := (5, .if_icmp .ge 16, 3, 0, 0, 0, 0)) hE rfl (by decide) (fun h => nomatch h) (fun h => nomatch h) (fun h => nomatch h) (mp_ge0 (t := 21) rfl (by rw [show (Int8.ofInt 20).toInt32 = Int32.ofNat 20 from by decide, zi32le (by decide) (by omega)]; omega)) ?_
    refine mGd_plain (M := zm_157) (q := (8, .aload_n 0, 1, 0, 0, 0, 0)) hE rfl (by decide) (fun h => nomatch h) (fun h => nomatch h) (fun h => nomatch h) rfl ?_
    refine mGd_plain (M := zm_157) (q := (9, .getfield 17, 3, 0, 11, 2, 0)) hE rfl (by decide) (fun h => nomatch h) (fun h => nomatch h) (fun h => nomatch h) (mp_getf m1 e1 rfl) ?_
    refine mGd_plain (M := zm_157) (q := (12, .iload_n 1, 1, 0, 0, 0, 0)) hE rfl (by decide) (fun h => nomatch h) (fun h => nomatch h) (fun h => nomatch h) rfl ?_
    refine mGd_plain (M := zm_157) (q := (13, .iconst 0, 1, 0, 0, 0, 0)) hE rfl (by decide) (fun h => nomatch h) (fun h => nomatch h) (fun h => nomatch h) rfl ?_
    refine mGd_plain (M := zm_157) (q := (14, .iastore, 1, 0, 0, 0, 0)) hE rfl (by decide) (fun h => nomatch h) (fun h => nomatch h) (fun h => nomatch h) (mp_iast m3 hin) ?_
    refine mGd_plain (M := zm_157) (q := (15, .iinc 1 1, 3, 0, 0, 0, 0)) hE rfl (by decide) (fun h => nomatch h) (fun h => nomatch h) (fun h => nomatch h) rfl ?_
    refine mGd_plain (M := zm_157) (q := (18, .goto (-16), 3, 0, 0, 0, 0)) hE rfl (by decide) (fun h => nomatch h) (fun h => nomatch h) (fun h => nomatch h) rfl ?_
    rw [zi32c (by omega : k < 2147483648)]
    show mGd E P d 157 2 [(1, .int (Int32.ofNat k + Int32.ofInt 1)), (0, .ref Mp)] [] _ nc ns
    rw [zi32s]
    refine ih (k + 1) _ (mup h k (.int 0)) (by omega) (by omega) (by rw [List.length_set]; exact h8) (by rw [mset_ne n1]; exact m1) (mset_eq m3) (fun j hj hj2 => ?_) (hup h k hk0 (by omega) hI) hup (fun h' hh' hI' => ?_)
    · unfold mup
      by_cases e : j = k
      · rw [if_pos e]
      · rw [if_neg e]; exact hh j hj (by omega)
    · rw [mset_set]
      exact hP h' hh' hI'
theorem zbeg2 {E : mEnv} (hE : E.1 157 = some zm_157) {P : mRes → Prop} {d nc ns Mp mp : Nat} {fs : List Value} (e1 : fs[2]? = some (.ref mp)) (n1 : mp ≠ Mp) (I : (Nat → Value) → Prop) :
    ∀ (t k : Nat) (mem : mMem) (h : Nat → Value), k + t = 969 → 27 ≤ k → mem.length ≤ 128 → mem[Mp]? = some (.inr (11, fs)) → mem[mp]? = some (.inl (0, 969, h)) → (∀ j, 27 ≤ j → j < k → h j = .int 0) → I h → (∀ h k, 27 ≤ k → k < 969 → I h → I (mup h k (.int 0))) →
    (∀ h', (∀ j, 27 ≤ j → j < 969 → h' j = .int 0) → I h' → mGd E P d 157 44 [(1, .int (Int32.ofNat 969)), (0, .ref Mp)] [] (mem.set mp (.inl (0, 969, h'))) nc ns) → mGd E P d 157 24 [(1, .int (Int32.ofNat k)), (0, .ref Mp)] [] mem nc ns := by
  intro t
  induction t with
  | zero =>
    intro k mem h hk hk0 h8 m1 m3 hh hI hup hP
    obtain rfl : k = 969 := by omega
    have hP := hP h hh hI
    rw [zset_same m3] at hP
    refine mGd_plain (M := zm_157) (q := (24, .iload_n 1, 1, 0, 0, 0, 0)) hE rfl (by decide) (fun h => nomatch h) (fun h => nomatch h) (fun h => nomatch h) rfl ?_
    refine mGd_plain (M := zm_157) (q := (25, .sipush 969, 3, 0, 0, 0, 0)) hE rfl (by decide) (fun h => nomatch h) (fun h => nomatch h) (fun h => nomatch h) rfl ?_
    refine mGd_plain (M := zm_157) (q := (28, .if_icmp .ge 16, 3, 0, 0, 0, 0)) hE rfl (by decide) (fun h => nomatch h) (fun h => nomatch h) (fun h => nomatch h) (mp_ge1 (t := 44) rfl (by decide)) ?_
    exact hP
  | succ t ih =>
    intro k mem h hk hk0 h8 m1 m3 hh hI hup hP
    have hin : mIn (Int32.ofNat k) 969 = true := zi32in (by omega) (by decide)
    refine mGd_plain (M := zm_157) (q := (24, .iload_n 1, 1, 0, 0, 0, 0)) hE rfl (by decide) (fun h => nomatch h) (fun h => nomatch h) (fun h => nomatch h) rfl ?_
    refine mGd_plain (M := zm_157) (q := (25, .sipush 969, 3, 0, 0, 0, 0)) hE rfl (by decide) (fun h => nomatch h) (fun h => nomatch h) (fun h => nomatch h) rfl ?_
    refine mGd_plain (M := zm_157) (q := (28, .if_icmp .ge 16, 3, 0, 0, 0, 0)) hE rfl (by decide) (fun h => nomatch h) (fun h => nomatch h) (fun h => nomatch h) (mp_ge0 (t := 44) rfl (by rw [show (Int16.ofInt 969).toInt32 = Int32.ofNat 969 from by decide, zi32le (by decide) (by omega)]; omega)) ?_
    refine mGd_plain (M := zm_157) (q := (31, .aload_n 0, 1, 0, 0, 0, 0)) hE rfl (by decide) (fun h => nomatch h) (fun h => nomatch h) (fun h => nomatch h) rfl ?_
    refine mGd_plain (M := zm_157) (q := (32, .getfield 17, 3, 0, 11, 2, 0)) hE rfl (by decide) (fun h => nomatch h) (fun h => nomatch h) (fun h => nomatch h) (mp_getf m1 e1 rfl) ?_
    refine mGd_plain (M := zm_157) (q := (35, .iload_n 1, 1, 0, 0, 0, 0)) hE rfl (by decide) (fun h => nomatch h) (fun h => nomatch h) (fun h => nomatch h) rfl ?_
    refine mGd_plain (M := zm_157) (q := (36, .iconst 0, 1, 0, 0, 0, 0)) hE rfl (by decide) (fun h => nomatch h) (fun h => nomatch h) (fun h => nomatch h) rfl ?_
    refine mGd_plain (M := zm_157) (q := (37, .iastore, 1, 0, 0, 0, 0)) hE rfl (by decide) (fun h => nomatch h) (fun h => nomatch h) (fun h => nomatch h) (mp_iast m3 hin) ?_
    refine mGd_plain (M := zm_157) (q := (38, .iinc 1 1, 3, 0, 0, 0, 0)) hE rfl (by decide) (fun h => nomatch h) (fun h => nomatch h) (fun h => nomatch h) rfl ?_
    refine mGd_plain (M := zm_157) (q := (41, .goto (-17), 3, 0, 0, 0, 0)) hE rfl (by decide) (fun h => nomatch h) (fun h => nomatch h) (fun h => nomatch h) rfl ?_
    rw [zi32c (by omega : k < 2147483648)]
    show mGd E P d 157 24 [(1, .int (Int32.ofNat k + Int32.ofInt 1)), (0, .ref Mp)] [] _ nc ns
    rw [zi32s]
    refine ih (k + 1) _ (mup h k (.int 0)) (by omega) (by omega) (by rw [List.length_set]; exact h8) (by rw [mset_ne n1]; exact m1) (mset_eq m3) (fun j hj hj2 => ?_) (hup h k hk0 (by omega) hI) hup (fun h' hh' hI' => ?_)
    · unfold mup
      by_cases e : j = k
      · rw [if_pos e]
      · rw [if_neg e]; exact hh j hj (by omega)
    · rw [mset_set]
      exact hP h' hh' hI'
theorem zbegA {E : mEnv} (hE : E.1 157 = some zm_157) {P : mRes → Prop} {d nc ns Mp mp : Nat} {fs : List Value} (e1 : fs[2]? = some (.ref mp)) (n1 : mp ≠ Mp) {mem : mMem} {f : Nat → Value} (h8 : mem.length ≤ 128) (m1 : mem[Mp]? = some (.inr (11, fs))) (m3 : mem[mp]? = some (.inl (0, 969, f)))
    (hP : ∀ h', (∀ j, j < 20 → h' j = .int 0) → (∀ j, 20 ≤ j → j < 27 → h' j = f j) → (∀ j, 27 ≤ j → j < 969 → h' j = .int 0) → mGd E P d 157 44 [(1, .int (Int32.ofNat 969)), (0, .ref Mp)] [] (mem.set mp (.inl (0, 969, h'))) nc ns) : mGd E P d 157 0 [(0, .ref Mp)] [] mem nc ns := by
  refine mGd_plain (M := zm_157) (q := (0, .iconst 0, 1, 0, 0, 0, 0)) hE rfl (by decide) (fun h => nomatch h) (fun h => nomatch h) (fun h => nomatch h) rfl ?_
  refine mGd_plain (M := zm_157) (q := (1, .istore_n 1, 1, 0, 0, 0, 0)) hE rfl (by decide) (fun h => nomatch h) (fun h => nomatch h) (fun h => nomatch h) rfl ?_
  refine zbeg1 hE e1 n1 (fun h => ∀ j, 20 ≤ j → h j = f j) 20 0 mem f rfl (Nat.le_refl _) h8 m1 m3 (fun j _ hj => absurd hj (Nat.not_lt_zero _)) (fun j _ => rfl) (fun h k _ hk hI j hj => by unfold mup; rw [if_neg (by omega)]; exact hI j hj) (fun h1 z1 i1 => ?_)
  refine mGd_plain (M := zm_157) (q := (21, .bipush 27, 2, 0, 0, 0, 0)) hE rfl (by decide) (fun h => nomatch h) (fun h => nomatch h) (fun h => nomatch h) rfl ?_
  refine mGd_plain (M := zm_157) (q := (23, .istore_n 1, 1, 0, 0, 0, 0)) hE rfl (by decide) (fun h => nomatch h) (fun h => nomatch h) (fun h => nomatch h) rfl ?_
  refine zbeg2 hE e1 n1 (fun h => ∀ j, j < 27 → h j = h1 j) 942 27 _ h1 rfl (Nat.le_refl _) (by rw [List.length_set]; exact h8) (by rw [mset_ne n1]; exact m1) (mset_eq m3) (fun j h1 h2 => absurd h2 (by omega)) (fun j _ => rfl) (fun h k hk _ hI j hj => by unfold mup; rw [if_neg (by omega)]; exact hI j hj) (fun h2 z2 i2 => ?_)
  rw [mset_set]
  exact hP h2 (fun j hj => by rw [i2 j (by omega)]; exact z1 j (Nat.zero_le _) hj) (fun j ha hb => by rw [i2 j hb]; exact i1 j ha) z2
def zbq : List zR → Option (Nat × Int × Int)
  | [] => none
  | q :: l => bif Nat.ble q.1 20 then zbq l else bif Nat.ble 27 q.1 then some q.2 else none
theorem zbq_ok : ∀ {b : List zR} {z : Nat × Int × Int}, zbq b = some z → ∀ {j : Nat}, 20 ≤ j → j < 27 → zba b j = some z
  | [], z, h, _, _, _ => by cases h
  | q :: l, z, h, j, h1, h2 => by
    unfold zbq at h
    unfold zba
    cases c : Nat.ble q.1 20 with
    | true =>
      rw [c] at h
      rw [Nat.ble_eq] at c
      rw [show Nat.ble (Nat.succ j) q.1 = false from by rw [Bool.eq_false_iff, ne_eq, Nat.ble_eq]; omega]
      exact zbq_ok h h1 h2
    | false =>
      rw [c] at h
      simp only [cond_false] at h
      cases c2 : Nat.ble 27 q.1 with
      | false => rw [c2] at h; cases h
      | true =>
        rw [c2] at h
        rw [Nat.ble_eq] at c2
        rw [show Nat.ble (Nat.succ j) q.1 = true from by rw [Nat.ble_eq]; omega]
        exact h
def zbk (F : zF) : zN → Option zN
  | [] => some []
  | e :: es => match zlh F e.1, zbk F es with
    | some (l, h), some es' => bif zle 20 l && zle h 26 then some (e :: es') else bif zle 27 l || zle h 19 then some es' else none
    | _, _ => none
theorem zbk_in {r : List Int} {F : zF} {base base' : List zR} (hF : zFok r F) {j : Nat} {v : Value} (hj : 20 ≤ j) (hj2 : j < 27) (hb : ∀ z, zba base j = some z → zba base' j = some z) : ∀ {es es' : zN}, zbk F es = some es' → zak r base es j v → zak r base' es' j v
  | [], es', h, hv => by
    cases h
    obtain ⟨t, l, hh, e, hv⟩ := hv
    exact ⟨t, l, hh, hb _ e, hv⟩
  | e :: es, es', h, hv => by
    unfold zbk at h
    split at h
    · rename_i l hh es1 e1 e2
      obtain ⟨i, h1, h2⟩ := hv
      obtain ⟨b1, b2⟩ := zlh_ok hF e1 h1
      cases c1 : (zle 20 l && zle hh 26) with
      | true =>
        rw [c1] at h
        cases h
        refine ⟨i, h1, ?_⟩
        by_cases hi : j = i
        · rw [if_pos hi] at h2 ⊢; exact h2
        · rw [if_neg hi] at h2 ⊢; exact zbk_in hF hj hj2 hb e2 h2
      | false =>
        rw [c1] at h
        simp only [cond_false] at h
        cases c2 : (zle 27 l || zle hh 19) with
        | false => rw [c2] at h; cases h
        | true =>
          rw [c2] at h
          cases h
          simp only [Bool.or_eq_true, zle_iff] at c2
          rw [if_neg (by omega)] at h2
          exact zbk_in hF hj hj2 hb e2 h2
    · cases h
theorem zbk_out {r : List Int} {F : zF} {base' : List zR} (hF : zFok r F) {j : Nat} {v : Value} (hj : j < 20 ∨ 27 ≤ j) (hb : zak r base' [] j v) : ∀ {es es' : zN}, zbk F es = some es' → zak r base' es' j v
  | [], es', h => by cases h; exact hb
  | e :: es, es', h => by
    unfold zbk at h
    split at h
    · rename_i l hh es1 e1 e2
      cases c1 : (zle 20 l && zle hh 26) with
      | true =>
        rw [c1] at h
        cases h
        simp only [Bool.and_eq_true, zle_iff] at c1
        obtain ⟨x, hx, b1, b2⟩ := zlh_ex hF e1
        refine ⟨x.toNat, by rw [hx]; congr 1; omega, ?_⟩
        rw [if_neg (by omega)]
        exact zbk_out hF hj hb e2
      | false =>
        rw [c1] at h
        simp only [cond_false] at h
        cases c2 : (zle 27 l || zle hh 19) with
        | false => rw [c2] at h; cases h
        | true => rw [c2] at h; cases h; exact zbk_out hF hj hb e2
    · cases h

theorem yex_env {a : Nat → Option mMeth} {b : Nat → List FieldType} {c c' : Nat → Option (Nat × Nat × (Nat → Value))} {d : Nat → String} {ro : zQ} {dn : Nat} {con : zK} : ∀ n, yex (a, b, c, d) ro dn con n = yex (a, b, c', d) ro dn con n := by
  intro n
  induction n with
  | zero => rfl
  | succ n ih =>
    funext dd mi M cur pc ls st F w nc ns
    show yk (a, b, c, d) ro dn con (yex (a, b, c, d) ro dn con n) dd mi M pc ls st F w nc ns (zft9 M.2.2.2.2.1 cur pc) = yk (a, b, c', d) ro dn con (yex (a, b, c', d) ro dn con n) dd mi M pc ls st F w nc ns (zft9 M.2.2.2.2.1 cur pc)
    rw [ih]
    rfl
def zEb : mEnv := (zmt, zft_, fun _ => none, zxn)
def zbgc (args : List zV) (F : zF) (w : zW) (nc ns : Nat) : Option (List zU) := match args with
  | [x] => bif Nat.beq x.1 2 && Nat.ble (Nat.succ x.2.1) w.1 then (match ztg 7 w.2 x.2.1 with
    | .inr (ci, fs) => (match zln fs 2 with
      | some mm => bif Nat.beq ci 11 && Nat.beq mm.1 2 && !(Nat.beq mm.2.1 x.2.1) && Nat.ble (Nat.succ mm.2.1) w.1 then
        (match ztg 7 w.2 mm.2.1 with
        | .inl (t, n, base, es) => bif Nat.beq t 0 && Nat.beq n 969 then (match zbq base, zbk F es with
          | some q, some es' => yex zEb (fun _ => none) 100 (fun _ _ _ _ _ _ => none) 3000 50 157 zm_157 zm_157.2.2.2.2.1 44 [(1, zk 969), (0, x)] [] F (w.1, zts 7 w.2 mm.2.1 (.inl (0, 969, [(20, 1, 0, 0), (27, q), (969, 1, 0, 0)], es'))) nc ns
          | _, _ => none) else none
        | .inr _ => none) else none
      | none => none)
    | .inl _ => none) else none
  | _ => none
theorem zb0_ok {r : List Int} {base : List zR} {j : Nat} (h : zba base j = some (1, 0, 0)) : zak r base [] j (.int 0) := ⟨1, 0, 0, h, 0, rfl, by decide, by decide⟩
theorem zbgc_ok {E : mEnv} (hE1 : E.1 = zmt) (hE2 : E.2.1 = zft_) (hE4 : E.2.2.2 = zxn) {d : Nat} (hd : 100 ≤ d) {args : List zV} {F : zF} {w : zW} {nc ns : Nat} {L : List zU} (h : zbgc args F w nc ns = some L) {r : List Int} {vs : List Value} {mem : mMem} {nc0 ns0 : Nat} (hF : zFok r F) (hl : zlm r vs args) (hm : zmm r mem w) (hnc : nc0 ≤ nc) (hns : ns0 ≤ ns) :
    ∃ n res, mrun E n d 157 0 (lv_args 0 vs) [] mem nc0 ns0 = some res ∧ ∃ o ∈ L, ∃ r', zX r r' ∧ zuo E r' o res := by
  unfold zbgc at h
  split at h
  · rename_i x
    obtain ⟨u1, vs1, rfl, hu1, hvs1⟩ := zlm_cons hl
    cases vs1 with
    | cons _ _ => exact hvs1.elim
    | nil =>
    cases c1 : (Nat.beq x.1 2 && Nat.ble (Nat.succ x.2.1) w.1) with
    | false => rw [c1] at h; cases h
    | true =>
      rw [c1] at h
      simp only [cond_true] at h
      simp only [Bool.and_eq_true, Nat.ble_eq] at c1
      have hx := hu1
      obtain rfl := zvm_r hu1 c1.1
      obtain ⟨cc, q1, q2⟩ := hm.2.2 x.2.1 (by omega)
      split at h
      · rename_i ci fs ez
        rw [ez] at q2
        obtain ⟨fs', rfl, hfs⟩ := q2
        split at h
        · rename_i mm e1
          cases c2 : (Nat.beq ci 11 && Nat.beq mm.1 2 && !(Nat.beq mm.2.1 x.2.1) && Nat.ble (Nat.succ mm.2.1) w.1) with
          | false => rw [c2] at h; cases h
          | true =>
            rw [c2] at h
            simp only [cond_true] at h
            simp only [Bool.and_eq_true, Nat.ble_eq, Bool.not_eq_true'] at c2
            obtain ⟨⟨⟨j1, j2⟩, j3⟩, j4⟩ := c2
            obtain rfl := zbe.mp j1
            obtain ⟨um, g1, v1⟩ := zln_ok hfs e1
            obtain rfl := zvm_r v1 j2
            have n2 : mm.2.1 ≠ x.2.1 := fun e => by rw [zbe.mpr e] at j3; cases j3
            obtain ⟨cm, m1, z1⟩ := hm.2.2 mm.2.1 (by omega)
            split at h
            · rename_i t n base es x1
              cases c3 : (Nat.beq t 0 && Nat.beq n 969) with
              | false => rw [c3] at h; cases h
              | true =>
                rw [c3] at h
                simp only [cond_true] at h
                simp only [Bool.and_eq_true, zbe] at c3
                obtain ⟨rfl, rfl⟩ := c3
                rw [x1] at z1
                obtain ⟨f, rfl, hf⟩ := z1
                split at h
                · rename_i q es' y1 y2
                  have he : E = (zmt, zft_, E.2.2.1, zxn) := by rw [← hE1, ← hE2, ← hE4]
                  unfold zEb at h
                  rw [yex_env (c' := E.2.2.1), ← he, yex_eq] at h
                  refine zbegA (P := fun res => ∃ o ∈ L, ∃ r', zX r r' ∧ zuo E r' o res) (by rw [hE1]; rfl) g1 n2 (by rw [hm.1]; exact hm.2.1) q1 m1 ?_
                  intro h' w1 w2 w3
                  refine mGd_deep (d := 50) (by omega) ?_
                  refine zex_ok (dn := 100) (con := fun _ _ _ _ _ _ => none) (ro := fun _ => none) (fun d mi args F w nc ns L hd h => (by cases h)) (fun mi M hM => zmt_sr hE1 mi M hM) _ _ _ _ _ _ _ _ _ _ _ _ _ h (by rw [hE1]; rfl) ⟨[], rfl⟩ r _ _ _ _ _ _ (fun p t n b es e => (by cases e)) hF ?_ trivial ?_ hnc hns (fun o ho r' res hx hu => ⟨o, ho, r', hx, hu⟩)
                  · intro i a e
                    unfold zld at e
                    cases ci : Nat.beq 1 i with
                    | true =>
                      obtain rfl := zbe.mp ci
                      cases e
                      exact ⟨_, rfl, _, rfl, zk_d hF 969⟩
                    | false =>
                      rw [ci] at e
                      simp only [cond_false] at e
                      unfold zld at e
                      cases cj : Nat.beq 0 i with
                      | true =>
                        obtain rfl := zbe.mp cj
                        cases e
                        exact ⟨_, rfl, hx⟩
                      | false => rw [cj] at e; cases e
                  · refine hm.set (by omega) (c := .inl (0, 969, h')) (z := .inl (0, 969, [(20, 1, 0, 0), (27, q), (969, 1, 0, 0)], es')) ⟨h', rfl, fun j hj => ?_⟩
                    by_cases ja : j < 20
                    · rw [w1 j ja]
                      exact zbk_out hF (Or.inl ja) (zb0_ok (by simp only [zba]; rw [show Nat.ble (Nat.succ j) 20 = true from by rw [Nat.ble_eq]; omega]; rfl)) y2
                    · by_cases jb : j < 27
                      · rw [w2 j (by omega) jb]
                        refine zbk_in hF (by omega) jb (fun z hz => ?_) y2 (hf j hj)
                        rw [zbq_ok y1 (by omega) jb] at hz
                        cases hz
                        simp only [zba]
                        rw [show Nat.ble (Nat.succ j) 20 = false from by rw [Bool.eq_false_iff, ne_eq, Nat.ble_eq]; omega, show Nat.ble (Nat.succ j) 27 = true from by rw [Nat.ble_eq]; omega]
                        rfl
                      · rw [w3 j (by omega) hj]
                        exact zbk_out hF (Or.inr (by omega)) (zb0_ok (by simp only [zba]; rw [show Nat.ble (Nat.succ j) 20 = false from by rw [Bool.eq_false_iff, ne_eq, Nat.ble_eq]; omega, show Nat.ble (Nat.succ j) 27 = false from by rw [Bool.eq_false_iff, ne_eq, Nat.ble_eq]; omega, show Nat.ble (Nat.succ j) 969 = true from by rw [Nat.ble_eq]; omega]; rfl)) y2
                · cases h
            · cases h
        · cases h
      · cases h
  · cases h
def zcon4 : zK := fun mi args F w nc ns => bif Nat.beq mi 157 then zbgc args F w nc ns else zcon3 mi args F w nc ns
theorem zcon4_ok {E : mEnv} (hE : E.1 = zmt) (hE2 : E.2.1 = zft_) (hE4 : E.2.2.2 = zxn) {ro : zQ} : zCon E ro 100 zcon4 := by
  intro d mi args F w nc ns L hd h r vs mem nc0 ns0 hro hF hl hm hnc hns
  unfold zcon4 at h
  cases c0 : Nat.beq mi 157 with
  | true =>
    rw [c0] at h
    obtain rfl := zbe.mp c0
    exact zbgc_ok hE hE2 hE4 hd h hF hl hm hnc hns
  | false =>
    rw [c0] at h
    exact zcon3_ok hE hE2 d mi args F w nc ns L hd h r vs mem nc0 ns0 hro hF hl hm hnc hns
