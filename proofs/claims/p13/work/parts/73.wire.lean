/-! THE CLAIM OUT OF ONE WALK OF THE LAW'S BODY. Your part is whole_start (and what it stands on); all else here is the same for every law, but numbers. -/
def R_law : String := "NearFarLaw"
def lw_P (b : Addr) (xs : List Int32) (args : Array Value) (s : State) : Prop := args = #[.ref b] ∧ s.IntsAt b xs ∧ xs.length ≤ 3072 ∧ (Jvm.Cond.and given_1 narrow_1).before args s = true
def lw_Q (_ : Array Value) (s : State) (o : Outcome) (t : State) : Prop := o = .returned (some (.int 1)) ∧ Framed s o t [] 601024 7293034
def lw_Z (below : List Frame) (a : Array Value) (s : State) : State → Prop := fun t => ∃ o, t.status = .running ∧ Ended t below o ∧ lw_Q a s o t
theorem zroom {s : State} {pl : Platform} {R R' : Room} (h : s.hasRoom pl R = true) (h1 : R'.frames ≤ R.frames) (h2 : R'.cells ≤ R.cells) (h3 : R'.slots ≤ R.slots) (h4 : R'.locals ≤ R.locals) : s.hasRoom pl R' = true := by
  simp only [State.hasRoom, Bool.and_eq_true, decide_eq_true_eq] at h ⊢
  obtain ⟨⟨⟨⟨k1, k2, k3, k4, k5, k6⟩, k7⟩, k8⟩, k9⟩ := h
  exact ⟨⟨⟨⟨by omega, by omega, by omega, by omega, by omega, k6⟩, by omega⟩, by omega⟩, k9⟩
theorem zW_room {p : Program} {l : Launch} {e : Env} {R R' : Room} {s : State} {m : MethodId} {args : Array Value} {below : List Frame} {meth : Method} {c : Code} {H : Heap} {locs : List Loc} {cells slots : Nat} {Q Q' : State → Prop} {g : JFrame}
    (h1 : R'.frames ≤ R.frames) (h2 : R'.cells ≤ R.cells) (h3 : R'.slots ≤ R.slots) (h4 : R'.locals ≤ R.locals) (hQ : ∀ t, Q t → Q' t) (k : W p l e R' s m args below meth c H locs cells slots Q g) : W p l e R s m args below meth c H locs cells slots Q' g := by
  intro T hT X
  obtain ⟨t, a, b⟩ := k T hT { X with room := zroom X.room h1 h2 h3 h4 }
  exact ⟨t, a, hQ t b⟩
/-- which calls ask a text -/
def zsq (M : mMeth) (q : mIns) : Bool := bif Nat.beq q.2.2.2.1 7 && (Nat.beq q.2.2.2.2.1 2 || Nat.beq q.2.2.2.2.1 3) then decide (M.1.cls = "NearFar$Text") && (match q.2.1 with
  | .invokevirtual ix => bif Nat.beq q.2.2.2.2.1 2 then Nat.beq ix 65 else Nat.beq ix 71
  | _ => false) else true
def zsQ : (n : Nat) → zT (Option mMeth) n → Bool
  | 0, t => (match (show Option mMeth from t) with
    | none => true
    | some M => M.2.2.2.2.1.all (zsq M))
  | n + 1, t => zsQ n (show zT (Option mMeth) n × zT (Option mMeth) n from t).1 && zsQ n (show zT (Option mMeth) n × zT (Option mMeth) n from t).2
theorem zsQ_ok : ∀ {n : Nat} {t : zT (Option mMeth) n} {i : Nat} {M : mMeth}, zsQ n t = true → ztg n t i = some M → M.2.2.2.2.1.all (zsq M) = true
  | 0, t, i, M, h, e => by
    have e' : (show Option mMeth from t) = some M := e
    unfold zsQ at h
    rw [e'] at h
    exact h
  | n + 1, t, i, M, h, e => by
    unfold zsQ at h
    simp only [Bool.and_eq_true] at h
    unfold ztg at e
    cases c : Nat.beq (Nat.mod i 2) 0 with
    | true => rw [c] at e; exact zsQ_ok h.1 e
    | false => rw [c] at e; exact zsQ_ok h.2 e
theorem zsQ_all : zsQ 9 zm_t = true := by decide +kernel
theorem zsq_at {mi : Nat} {M : mMeth} (h : zmt mi = some M) {q : mIns} (hq : q ∈ M.2.2.2.2.1) (h7 : q.2.2.2.1 = 7) (hk : q.2.2.2.2.1 = 2 ∨ q.2.2.2.2.1 = 3) : M.1.cls = "NearFar$Text" ∧ ∃ ix, q.2.1 = .invokevirtual ix ∧ ((q.2.2.2.2.1 = 2 ∧ ix = 65) ∨ (q.2.2.2.2.1 = 3 ∧ ix = 71)) := by
  unfold zmt at h
  cases c : Nat.ble mi 511 with
  | false => rw [c] at h; cases h
  | true =>
    rw [c] at h
    have h9 := List.all_eq_true.mp (zsQ_ok zsQ_all h) q hq
    unfold zsq at h9
    have e : (Nat.beq q.2.2.2.1 7 && (Nat.beq q.2.2.2.2.1 2 || Nat.beq q.2.2.2.2.1 3)) = true := by
      simp only [Bool.and_eq_true, Bool.or_eq_true, zbe]
      exact ⟨h7, hk⟩
    rw [e] at h9
    simp only [cond_true, Bool.and_eq_true, decide_eq_true_eq] at h9
    refine ⟨h9.1, ?_⟩
    have h9 := h9.2
    split at h9
    · rename_i ix ei
      refine ⟨ix, ei, ?_⟩
      cases c2 : Nat.beq q.2.2.2.2.1 2 with
      | true => rw [c2] at h9; exact Or.inl ⟨zbe.mp c2, zbe.mp h9⟩
      | false =>
        rw [c2] at h9
        refine Or.inr ⟨?_, zbe.mp h9⟩
        rcases hk with hk | hk
        · rw [zbe.mpr hk] at c2; cases c2
        · exact hk
    · cases h9
theorem zg_len : GoodIn zGt (wsV "NearFar$Text" 65 "java/lang/String" sy_len sw_len) := sgood (by decide +kernel) (cWs_ok (h := [3198, 3199, 3200, 1019, 3201, 8180, 3202, 3203, 3204, 1019, 3205, 3206, 8181]) (by decide +kernel))
theorem zg_cha : GoodIn zGt (wsV "NearFar$Text" 71 "java/lang/String" sy_cha sw_cha) := sgood (by decide +kernel) (cWs_ok (h := [3208, 3209, 3210, 1019, 3211, 8180, 3212, 3213, 3214, 1019, 3215, 3206, 8181, 3216, 3217, 1020, 3218, 3219, 3220, 1019, 3221, 3222, 3224, 3225, 1021, 3226]) (by decide +kernel))
theorem zstr (l : Launch) (L : Nat) (xs : Nat → Int32) : mStrOk l (zE1 L xs) zGt zcl zXt := by
  intro p e R s m args below meth c H locs cells slots Q D cid A ad0 ad M mi d mc ms n0 q lsA st st' mem mem' h1 h2 h3 h4 h5 h6 h7 h8 h9 h10 h11 h12 h13 kk
  obtain ⟨hx, hb, hml, hown, hG, hlocks, hret, htab, hname, hR, hK, hA, hT⟩ := h5
  have hM : zmt mi = some M := h1
  obtain ⟨hcl, ix, hi, hix⟩ := zsq_at hM h2 h3 h4
  have hMok := (zglob L xs).2.2.2.2.2 mi M h1
  obtain ⟨hdec, hlen, -⟩ := hMok.2.2.2.2.1 q h2
  rw [hi] at hdec hlen
  simp only [mlen, beq_iff_eq] at hlen
  rw [hlen] at hdec
  rw [hcl] at hown
  subst hR
  have hRf : 8 ≤ (mRm d mc ms).frames := h9
  have hRl : 320 ≤ (mRm d mc ms).locals := by show 320 ≤ 40 * d; omega
  rcases hix with ⟨hk, rfl⟩ | ⟨hk, rfl⟩
  · rw [hk] at h13
    simp only [mprim] at h13
    split at h13
    · rename_i a r
      by_cases ha : a < 1000
      · rw [if_pos ha] at h13
        cases h13
      · rw [if_neg ha] at h13
        split at h13
        · rename_i n f ee
          simp only [Option.some.injEq, Prod.mk.injEq] at h13
          obtain ⟨rfl, rfl⟩ := h13
          have hE := (hT.2.1 a 3 n f (Nat.not_lt.mp ha) ee).2 rfl
          have ead : ad a = ad0 a := h6 a (Or.inr (Nat.not_lt.mp ha))
          have hrm : ((r.map (mcv1 ad)).map fun v => v.category).sum ≤ 8 := by
            rw [mcat_cv]
            exact Nat.le_trans (mcat_tl (v := .ref a)) h10
          refine W.eq (g2 := F0 m q.1 lsA (.ref (ad0 a) :: r.map (mcv1 ad))) (by rw [← ead]; rfl) ?_
          refine W.callR (W.runV (C := "java/lang/String") (b := ad0 a) (As := []) (rest := r.map (mcv1 ad)) ⟨hx, hb, hml, hown, hG⟩ (sc_len l (ad0 a) n f) (cwV 0 hG zg_len rfl rfl rfl (by decide +kernel) ⟨by show 1 + 1 ≤ _; omega, by show 8 + (1 + 11) + 20 ≤ _; omega⟩) (s_preV hE h7 []) rfl rfl h8 rfl (lv_room hrm) hdec ⟨h11, h12⟩) ?_
          exact kk
        · cases h13
    · cases h13
  · rw [hk] at h13
    simp only [mprim] at h13
    split at h13
    · rename_i i a r
      by_cases ha : a < 1000
      · rw [if_pos ha] at h13
        cases h13
      · rw [if_neg ha] at h13
        split at h13
        · rename_i n f ee
          split at h13
          · rename_i hin
            split at h13
            · rename_i x hfx
              simp only [Option.some.injEq, Prod.mk.injEq] at h13
              obtain ⟨rfl, rfl⟩ := h13
              have hE := (hT.2.1 a 3 n f (Nat.not_lt.mp ha) ee).2 rfl
              have ead : ad a = ad0 a := h6 a (Or.inr (Nat.not_lt.mp ha))
              have hrm : ((r.map (mcv1 ad)).map fun v => v.category).sum ≤ 8 := by
                rw [mcat_cv]
                exact Nat.le_trans (Nat.le_trans (mcat_tl (v := .ref a)) (mcat_tl (v := .int i))) h10
              refine W.eq (g2 := F0 m q.1 lsA (.int i :: .ref (ad0 a) :: r.map (mcv1 ad))) (by rw [← ead]; rfl) ?_
              refine W.callR (W.runV (C := "java/lang/String") (b := ad0 a) (As := [.int i]) (rest := r.map (mcv1 ad)) ⟨hx, hb, hml, hown, hG⟩ (sc_cha l (ad0 a) n f i x (mIn_of hin) hfx) (cwV 1 hG zg_cha rfl rfl rfl (by decide +kernel) ⟨by show 3 + 1 ≤ _; omega, by show 8 + (2 + 11) + 64 ≤ _; omega⟩) (s_preV hE h7 [.int i]) rfl rfl h8 rfl (lv_room hrm) hdec ⟨h11, h12⟩) ?_
              exact kk
            · cases h13
          · cases h13
        · cases h13
    · cases h13
theorem zsEl : ((List.range 104).all fun j => decide (Cond.eq (.elem (.field (.string "NearFar$Text" 63) "java/lang/String" "value" "[B") (.int (Int32.ofNat j))) (.int (([zaS].getD 0 []).getD j 0)) ∈ flatC (Jvm.Cond.and given_1 narrow_1))) = true := by decide +kernel
theorem zaS_lt : ∀ j, j < 104 → 0 ≤ (zaS.getD j 0).toInt ∧ (zaS.getD j 0).toInt < 128 := by decide +kernel
/-- what the Statement says of the start, in the small machine's words -/
theorem zstart {s : State} {b L : Nat} {xs : Nat → Int32} (hts : ∀ w ∈ zbig, w.before #[Value.ref b] s = true) (hgv : (Jvm.Cond.and given_1 narrow_1).before #[Value.ref b] s = true) (hX : va_X b L xs s s.heap) (hbl : b < s.heap.size) :
    ∃ ad0 : Nat → Nat, ad0 1000 = b ∧ mTk ad0 (fun q => s.heap.size ≤ q) (zE1 L xs) zXt s s.heap := by
  have hs := flat_of_before _ hgv
  have hA : ∀ a : Nat, a < s.heap.size → ¬ (fun q => s.heap.size ≤ q) a := fun a h => Nat.not_le.mpr h
  have hin : ∀ i w, (match (zch (i / 1000))[i % 1000]? with | some v => decide (v = w) | none => false) = true → w.before #[Value.ref b] s = true := by
    intro i w h
    split at h
    · rename_i v e
      have := of_decide_eq_true h
      subst this
      exact hts _ (zch_in (List.mem_of_getElem? e))
    · cases h
  obtain ⟨t0, e0, T0⟩ := va_Tof (args := #[Value.ref b]) (s := s) (tm := (Term.static "NearFar" "LOWEST" "[I")) (ty := .int) (N := 7) (f := fun j => .int (Int32.ofInt (zaL.getD j 0))) (A := fun q => s.heap.size ≤ q) (by decide) (hs (.arrayOf (Term.static "NearFar" "LOWEST" "[I") .int) (by decide +kernel)) (va_eqt (hs (.eq (.length (Term.static "NearFar" "LOWEST" "[I")) (.int 7)) (by decide +kernel))) (fun j hj => by
      match j, hj with
      | 0, _ => exact va_eqt (hs (.eq (.elem (Term.static "NearFar" "LOWEST" "[I") (.int 0)) (.int 1)) (by decide +kernel))
      | 1, _ => exact va_eqt (hs (.eq (.elem (Term.static "NearFar" "LOWEST" "[I") (.int 1)) (.int 1)) (by decide +kernel))
      | 2, _ => exact va_eqt (hs (.eq (.elem (Term.static "NearFar" "LOWEST" "[I") (.int 2)) (.int 1)) (by decide +kernel))
      | 3, _ => exact va_eqt (hs (.eq (.elem (Term.static "NearFar" "LOWEST" "[I") (.int 3)) (.int 0)) (by decide +kernel))
      | 4, _ => exact va_eqt (hs (.eq (.elem (Term.static "NearFar" "LOWEST" "[I") (.int 4)) (.int 0)) (by decide +kernel))
      | 5, _ => exact va_eqt (hs (.eq (.elem (Term.static "NearFar" "LOWEST" "[I") (.int 5)) (.int 0)) (by decide +kernel))
      | 6, _ => exact va_eqt (hs (.eq (.elem (Term.static "NearFar" "LOWEST" "[I") (.int 6)) (.int 0)) (by decide +kernel))
      | j + 7, h => exact absurd h (by omega)) hA
  have Z0 := va_Zof (args := #[Value.ref b]) (hin 5070 (.laysStatic "NearFar" "LOWEST" "[I") (by decide +kernel)) (hin 1001 (.initialized "NearFar") (by decide +kernel)) e0 hA
  obtain ⟨t1, e1, T1⟩ := va_Tof (args := #[Value.ref b]) (s := s) (tm := (Term.static "NearFar" "HIGHEST" "[I")) (ty := .int) (N := 7) (f := fun j => .int (Int32.ofInt (zaH.getD j 0))) (A := fun q => s.heap.size ≤ q) (by decide) (hs (.arrayOf (Term.static "NearFar" "HIGHEST" "[I") .int) (by decide +kernel)) (va_eqt (hs (.eq (.length (Term.static "NearFar" "HIGHEST" "[I")) (.int 7)) (by decide +kernel))) (fun j hj => by
      match j, hj with
      | 0, _ => exact va_eqt (hs (.eq (.elem (Term.static "NearFar" "HIGHEST" "[I") (.int 0)) (.int 99)) (by decide +kernel))
      | 1, _ => exact va_eqt (hs (.eq (.elem (Term.static "NearFar" "HIGHEST" "[I") (.int 1)) (.int 99)) (by decide +kernel))
      | 2, _ => exact va_eqt (hs (.eq (.elem (Term.static "NearFar" "HIGHEST" "[I") (.int 2)) (.int 99)) (by decide +kernel))
      | 3, _ => exact va_eqt (hs (.eq (.elem (Term.static "NearFar" "HIGHEST" "[I") (.int 3)) (.int 8)) (by decide +kernel))
      | 4, _ => exact va_eqt (hs (.eq (.elem (Term.static "NearFar" "HIGHEST" "[I") (.int 4)) (.int 64)) (by decide +kernel))
      | 5, _ => exact va_eqt (hs (.eq (.elem (Term.static "NearFar" "HIGHEST" "[I") (.int 5)) (.int 99)) (by decide +kernel))
      | 6, _ => exact va_eqt (hs (.eq (.elem (Term.static "NearFar" "HIGHEST" "[I") (.int 6)) (.int 9999)) (by decide +kernel))
      | j + 7, h => exact absurd h (by omega)) hA
  have Z1 := va_Zof (args := #[Value.ref b]) (hin 5072 (.laysStatic "NearFar" "HIGHEST" "[I") (by decide +kernel)) (hin 1001 (.initialized "NearFar") (by decide +kernel)) e1 hA
  obtain ⟨t2, e2, T2⟩ := va_Tof (args := #[Value.ref b]) (s := s) (tm := (Term.static "NearFarModel" "WHAT" "[J")) (ty := .long) (N := 10) (f := fun j => .long (Int64.ofInt (zaW.getD j 0))) (A := fun q => s.heap.size ≤ q) (by decide) (hs (.arrayOf (Term.static "NearFarModel" "WHAT" "[J") .long) (by decide +kernel)) (va_eqt (hs (.eq (.length (Term.static "NearFarModel" "WHAT" "[J")) (.int 10)) (by decide +kernel))) (fun j hj => by
      match j, hj with
      | 0, _ => exact va_eqtl (hs (.eq (.elem (Term.static "NearFarModel" "WHAT" "[J") (.int 0)) (.long 23580851)) (by decide +kernel))
      | 1, _ => exact va_eqtl (hs (.eq (.elem (Term.static "NearFarModel" "WHAT" "[J") (.int 1)) (.long 21174436004)) (by decide +kernel))
      | 2, _ => exact va_eqtl (hs (.eq (.elem (Term.static "NearFarModel" "WHAT" "[J") (.int 2)) (.long 522327635)) (by decide +kernel))
      | 3, _ => exact va_eqtl (hs (.eq (.elem (Term.static "NearFarModel" "WHAT" "[J") (.int 3)) (.long 463922)) (by decide +kernel))
      | 4, _ => exact va_eqtl (hs (.eq (.elem (Term.static "NearFarModel" "WHAT" "[J") (.int 4)) (.long 6194)) (by decide +kernel))
      | 5, _ => exact va_eqtl (hs (.eq (.elem (Term.static "NearFarModel" "WHAT" "[J") (.int 5)) (.long 12891444)) (by decide +kernel))
      | 6, _ => exact va_eqtl (hs (.eq (.elem (Term.static "NearFarModel" "WHAT" "[J") (.int 6)) (.long 525541)) (by decide +kernel))
      | 7, _ => exact va_eqtl (hs (.eq (.elem (Term.static "NearFarModel" "WHAT" "[J") (.int 7)) (.long 272019)) (by decide +kernel))
      | 8, _ => exact va_eqtl (hs (.eq (.elem (Term.static "NearFarModel" "WHAT" "[J") (.int 8)) (.long 446287027)) (by decide +kernel))
      | 9, _ => exact va_eqtl (hs (.eq (.elem (Term.static "NearFarModel" "WHAT" "[J") (.int 9)) (.long 17171758)) (by decide +kernel))
      | j + 10, h => exact absurd h (by omega)) hA
  have Z2 := va_Zof (args := #[Value.ref b]) (hin 7032 (.laysStatic "NearFarModel" "WHAT" "[J") (by decide +kernel)) (hin 1014 (.initialized "NearFarModel") (by decide +kernel)) e2 hA
  have SOR := va_Zof (args := #[Value.ref b]) (hin 7055 (.laysStatic "NearFarModel" "OR" "J") (by decide +kernel)) (hin 1014 (.initialized "NearFarModel") (by decide +kernel)) (va_eql (hs (.eq (.static "NearFarModel" "OR" "J") (.long 498)) (by decide +kernel))) hA
  have SAND := va_Zof (args := #[Value.ref b]) (hin 7053 (.laysStatic "NearFarModel" "AND" "J") (by decide +kernel)) (hin 1014 (.initialized "NearFarModel") (by decide +kernel)) (va_eql (hs (.eq (.static "NearFarModel" "AND" "J") (.long 1476)) (by decide +kernel))) hA
  have SNOT := va_Zof (args := #[Value.ref b]) (hin 6218 (.laysStatic "NearFarModel" "NOT" "J") (by decide +kernel)) (hin 1014 (.initialized "NearFarModel") (by decide +kernel)) (va_eql (hs (.eq (.static "NearFarModel" "NOT" "J") (.long 14836)) (by decide +kernel))) hA
  have SREAD := va_Zof (args := #[Value.ref b]) (hin 7155 (.laysStatic "NearFarModel" "READ" "J") (by decide +kernel)) (hin 1014 (.initialized "NearFarModel") (by decide +kernel)) (va_eql (hs (.eq (.static "NearFarModel" "READ" "J") (.long 594980)) (by decide +kernel))) hA
  have SWRITE := va_Zof (args := #[Value.ref b]) (hin 7157 (.laysStatic "NearFarModel" "WRITE" "J") (by decide +kernel)) (hin 1014 (.initialized "NearFarModel") (by decide +kernel)) (va_eql (hs (.eq (.static "NearFarModel" "WRITE" "J") (.long 24716933)) (by decide +kernel))) hA
  have SSWEEP := va_Zof (args := #[Value.ref b]) (hin 7159 (.laysStatic "NearFarModel" "SWEEP" "J") (by decide +kernel)) (hin 1014 (.initialized "NearFarModel") (by decide +kernel)) (va_eql (hs (.eq (.static "NearFarModel" "SWEEP" "J") (.long 20681904)) (by decide +kernel))) hA
  have SWAIT := va_Zof (args := #[Value.ref b]) (hin 7087 (.laysStatic "NearFarModel" "WAIT" "J") (by decide +kernel)) (hin 1014 (.initialized "NearFarModel") (by decide +kernel)) (va_eql (hs (.eq (.static "NearFarModel" "WAIT" "J") (.long 754996)) (by decide +kernel))) hA
  have SFLUSH := va_Zof (args := #[Value.ref b]) (hin 7121 (.laysStatic "NearFarModel" "FLUSH" "J") (by decide +kernel)) (hin 1014 (.initialized "NearFarModel") (by decide +kernel)) (va_eql (hs (.eq (.static "NearFarModel" "FLUSH" "J") (.long 6706792)) (by decide +kernel))) hA
  have SAGAIN := va_Zof (args := #[Value.ref b]) (hin 7081 (.laysStatic "NearFarModel" "AGAIN" "J") (by decide +kernel)) (hin 1014 (.initialized "NearFarModel") (by decide +kernel)) (va_eql (hs (.eq (.static "NearFarModel" "AGAIN" "J") (.long 1279278)) (by decide +kernel))) hA
  obtain ⟨a1005, -, -, -, v1005, -⟩ := Cond.exactly_spec (args := #[Value.ref b]) (first := s) (o := none) (s := s) (idx := []) (t := .string "NearFar" 347) (cls := "java/lang/String") (hs (.exactly (.string "NearFar" 347) "java/lang/String") (by decide +kernel))
  have R1005 := vk_R.of (U := s) (hin 5053 (.stringRef "NearFar" 347 "no such group, page, segment, order or access") (by decide +kernel)) v1005
  obtain ⟨a1006, -, -, -, v1006, -⟩ := Cond.exactly_spec (args := #[Value.ref b]) (first := s) (o := none) (s := s) (idx := []) (t := .string "NearFar" 354) (cls := "java/lang/String") (hs (.exactly (.string "NearFar" 354) "java/lang/String") (by decide +kernel))
  have R1006 := vk_R.of (U := s) (hin 3132 (.stringRef "NearFar" 354 "an argument is out of its range") (by decide +kernel)) v1006
  obtain ⟨a1007, -, -, -, v1007, -⟩ := Cond.exactly_spec (args := #[Value.ref b]) (first := s) (o := none) (s := s) (idx := []) (t := .string "NearFar" 363) (cls := "java/lang/String") (hs (.exactly (.string "NearFar" 363) "java/lang/String") (by decide +kernel))
  have R1007 := vk_R.of (U := s) (hin 5128 (.stringRef "NearFar" 363 "the clock would be above 1,000,000") (by decide +kernel)) v1007
  obtain ⟨adK, adV, hVS, hEv⟩ := vk_Sof (args := #[Value.ref b]) (s := s) (N := 1) (tm := fun _ => .string "NearFar$Text" 63) (len := [104]) (byt := [zaS]) (A := fun q => s.heap.size ≤ q) (fun i hi => by
      obtain rfl : i = 0 := by omega
      decide)
    (fun i hi => hs (.exactly (.string "NearFar$Text" 63) "java/lang/String") (by decide +kernel)) (fun i hi => hs (.eq (.field (.string "NearFar$Text" 63) "java/lang/String" "coder" "B") (.int 0)) (by decide +kernel)) (fun i hi => hs (.arrayOf (.field (.string "NearFar$Text" 63) "java/lang/String" "value" "[B") .byte) (by decide +kernel))
    (fun i hi => by
      obtain rfl : i = 0 := by omega
      exact hs (.eq (.length (.field (.string "NearFar$Text" 63) "java/lang/String" "value" "[B")) (.int (Int32.ofNat ([104].getD 0 0)))) (by decide +kernel))
    (fun i hi j hj => by
      obtain rfl : i = 0 := by omega
      exact hs _ (of_decide_eq_true (List.all_eq_true.mp zsEl j (List.mem_range.mpr hj))))
    (fun i j hi hj hij => absurd (show i = j by omega) hij) hA
  obtain ⟨a1004, ha1004⟩ : ∃ a, a = adK 0 := ⟨_, rfl⟩
  have v1004 := hEv 0 (by decide)
  rw [← ha1004] at v1004
  have hCS := va_Zof (args := #[Value.ref b]) (hin 3207 (.laysStatic "java/lang/String" "COMPACT_STRINGS" "Z") (by decide +kernel)) (hin 1019 (.initialized "java/lang/String") (by decide +kernel)) (va_eqi (hs (.eq (.static "java/lang/String" "COMPACT_STRINGS" "Z") (.int 1)) (by decide +kernel))) hA
  have hSF := va_Zqof (args := #[Value.ref b]) (s := s) (C := "jdk/internal/util/Preconditions") (n := "SIOOBE_FORMATTER") (d := "Ljava/util/function/BiFunction;") (A := fun q => s.heap.size ≤ q) (hin 3223 (.laysStatic "jdk/internal/util/Preconditions" "SIOOBE_FORMATTER" "Ljava/util/function/BiFunction;") (by decide +kernel)) (hin 1021 (.initialized "jdk/internal/util/Preconditions") (by decide +kernel)) (hs (.isRef (.static "jdk/internal/util/Preconditions" "SIOOBE_FORMATTER" "Ljava/util/function/BiFunction;")) (by decide +kernel)) hA
  have R1004 := vk_R.of (U := s) (hin 3197 (.stringRef "NearFar$Text" 63 "votes swapped orders near far limit page hits misses plain or and not read write sweep wait flush again ") (by decide +kernel)) v1004
  have hU := vx_Zqof (args := #[Value.ref b]) (s := s) (C := Bundle.tN) (n := "UNASSIGNED_STACK") (d := "[Ljava/lang/StackTraceElement;") (A := fun q => s.heap.size ≤ q) (hin 3118 (.laysStatic "java/lang/Throwable" "UNASSIGNED_STACK" "[Ljava/lang/StackTraceElement;") (by decide +kernel)) (hin 1015 (.initialized "java/lang/Throwable") (by decide +kernel)) (hs (.isRef (.static "java/lang/Throwable" "UNASSIGNED_STACK" "[Ljava/lang/StackTraceElement;")) (by decide +kernel)) hA
  have hN := vx_Zqof (args := #[Value.ref b]) (s := s) (C := Bundle.tN) (n := "SUPPRESSED_SENTINEL") (d := "Ljava/util/List;") (A := fun q => s.heap.size ≤ q) (hin 3120 (.laysStatic "java/lang/Throwable" "SUPPRESSED_SENTINEL" "Ljava/util/List;") (by decide +kernel)) (hin 1015 (.initialized "java/lang/Throwable") (by decide +kernel)) (hs (.isRef (.static "java/lang/Throwable" "SUPPRESSED_SENTINEL" "Ljava/util/List;")) (by decide +kernel)) hA
  refine ⟨fun a => if a = 1000 then b else if a = 1001 then t0 else if a = 1002 then t1 else if a = 1003 then t2 else if a = 1005 then a1005 else if a = 1006 then a1006 else if a = 1007 then a1007 else if a = 1004 then a1004 else 0, rfl, ?_, ?_, ?_, ?_, ?_, hU, hN⟩
  · intro z hz
    simp only [zXt, List.mem_cons, List.not_mem_nil, or_false] at hz
    rcases hz with rfl | rfl | rfl | rfl | rfl | rfl | rfl | rfl | rfl | rfl | rfl | rfl
    · exact Z0
    · exact Z1
    · exact Z2
    · exact SOR
    · exact SAND
    · exact SNOT
    · exact SREAD
    · exact SWRITE
    · exact SSWEEP
    · exact SWAIT
    · exact SFLUSH
    · exact SAGAIN
  · intro a t n f ha he
    have he : zro0 L xs a = some (t, n, f) := he
    unfold zro0 at he
    split at he
    · rename_i e
      subst e
      cases he
      obtain ⟨scr, h1, h2, h3, h4, h5⟩ := hX
      exact ⟨fun _ => ⟨scr, h1, h2, h3, Nat.le_of_eq h4.symm, congrArg Int32.ofNat h4, h5, hA b hbl⟩, fun h => absurd h (by decide)⟩
    · split at he
      · rename_i e
        subst e
        cases he
        exact ⟨fun _ => T0, fun h => absurd h (by decide)⟩
      · split at he
        · rename_i e
          subst e
          cases he
          exact ⟨fun _ => T1, fun h => absurd h (by decide)⟩
        · split at he
          · rename_i e
            subst e
            cases he
            exact ⟨fun _ => T2, fun h => absurd h (by decide)⟩
          · split at he
            · rename_i e
              subst e
              cases he
              refine ⟨fun h => absurd h (by decide), fun _ => ?_⟩
              obtain ⟨g1, g2, g3, g4⟩ := hVS.1 0 (by decide)
              rw [← ha1004] at g1 g2 g3
              exact ⟨by decide, fun j hj => ⟨_, rfl, zaS_lt j hj⟩, g1, g2, ⟨adV 0, g3, g4⟩, hCS, hSF⟩
            · cases he
  · intro r hr
    simp only [zXt, List.mem_cons, List.not_mem_nil, or_false] at hr
    rcases hr with rfl | rfl | rfl | rfl
    · exact R1005
    · exact R1006
    · exact R1007
    · exact R1004
  · intro w hw
    have hk := List.all_eq_true.mp zX3k w hw
    refine va_Nw.of (A := #[Value.ref b]) (zwkd_ok hk).1 ?_
    simp only [zXt, List.mem_cons, List.not_mem_nil, or_false] at hw
    rcases hw with rfl | rfl | rfl | rfl | rfl | rfl | rfl | rfl | rfl | rfl | rfl | rfl | rfl | rfl | rfl | rfl | rfl | rfl | rfl
    · exact (hin 2095 (.methodLinkNest "NearFar" 21 ⟨"NearFar$Text", "<init>", "()V"⟩ "NearFar") (by decide +kernel))
    · exact (hin 2131 (.methodLinkNest "NearFar" 28 ⟨"NearFar$Rule", "<init>", "()V"⟩ "NearFar") (by decide +kernel))
    · exact (hin 2134 (.methodLinkNest "NearFar" 35 ⟨"NearFar$Work", "<init>", "()V"⟩ "NearFar") (by decide +kernel))
    · exact (hin 1043 (.methodLinkNest "NearFar$World" 17 ⟨"NearFar$Rule", "<init>", "()V"⟩ "NearFar") (by decide +kernel))
    · exact (hin 1069 (.methodLinkNest "NearFar$World" 43 ⟨"NearFar$Orders", "<init>", "()V"⟩ "NearFar") (by decide +kernel))
    · exact (hin 1123 (.methodLinkNest "NearFar$World" 50 ⟨"NearFar$Votes", "<init>", "()V"⟩ "NearFar") (by decide +kernel))
    · exact (hin 1150 (.methodLinkNest "NearFar$World" 57 ⟨"NearFar$Tags", "<init>", "()V"⟩ "NearFar") (by decide +kernel))
    · exact (hin 1165 (.methodLinkNest "NearFar$World" 64 ⟨"NearFar$Balance", "<init>", "()V"⟩ "NearFar") (by decide +kernel))
    · exact (hin 1186 (.methodLinkNest "NearFar$World" 71 ⟨"NearFar$Tally", "<init>", "()V"⟩ "NearFar") (by decide +kernel))
    · exact (hin 1203 (.methodLinkNest "NearFar$World" 78 ⟨"NearFar$History", "<init>", "()V"⟩ "NearFar") (by decide +kernel))
    · exact (hin 5046 (.castable "java/util/NoSuchElementException" "java/util/NoSuchElementException") (by decide +kernel))
    · exact (hin 3093 (.castable "java/lang/IllegalArgumentException" "java/lang/IllegalArgumentException") (by decide +kernel))
    · exact (hin 5121 (.castable "java/lang/IllegalStateException" "java/lang/IllegalStateException") (by decide +kernel))
    · exact (hin 3094 (.declares ⟨"java/lang/RuntimeException", "<init>", "()V"⟩) (by decide +kernel))
    · exact (hin 3095 (.declares ⟨"java/lang/RuntimeException", "<init>", "(Ljava/lang/String;)V"⟩) (by decide +kernel))
    · exact (hin 3096 (.declares ⟨"java/lang/Exception", "<init>", "()V"⟩) (by decide +kernel))
    · exact (hin 3097 (.declares ⟨"java/lang/Exception", "<init>", "(Ljava/lang/String;)V"⟩) (by decide +kernel))
    · exact (hin 3098 (.declares ⟨"java/lang/Throwable", "<init>", "()V"⟩) (by decide +kernel))
    · exact (hin 3099 (.declares ⟨"java/lang/Throwable", "<init>", "(Ljava/lang/String;)V"⟩) (by decide +kernel))
  · intro w hw
    simp only [zXt, List.mem_cons, List.not_mem_nil, or_false] at hw
    rcases hw with rfl | rfl | rfl | rfl | rfl | rfl
    · exact va_Nc.of (hs (.not (.castable "java/util/NoSuchElementException" "java/lang/IllegalArgumentException")) (by decide +kernel))
    · exact va_Nc.of (hs (.not (.castable "java/util/NoSuchElementException" "java/lang/IllegalStateException")) (by decide +kernel))
    · exact va_Nc.of (hs (.not (.castable "java/lang/IllegalArgumentException" "java/util/NoSuchElementException")) (by decide +kernel))
    · exact va_Nc.of (hs (.not (.castable "java/lang/IllegalArgumentException" "java/lang/IllegalStateException")) (by decide +kernel))
    · exact va_Nc.of (hs (.not (.castable "java/lang/IllegalStateException" "java/util/NoSuchElementException")) (by decide +kernel))
    · exact va_Nc.of (hs (.not (.castable "java/lang/IllegalStateException" "java/lang/IllegalArgumentException")) (by decide +kernel))
theorem zknown {s : State} {b : Nat} (hts : ∀ w ∈ zGt, w.before #[Value.ref b] s = true) : ∃ (D : va_G) (cid : Nat → ClassId), va_K D zcl (mtys cid) s := by
  obtain ⟨c0, i0, K0⟩ := u_known (C := "NearFar$Balance") (T := zcT_0) (N := 4) (n := 4) hts (cCl_ok zclk 0 _ _ _ rfl).1 (hts _ (gI_ok (i := 1164) (by decide +kernel)))
  obtain ⟨c1, i1, K1⟩ := u_known (C := "NearFar$History") (T := zcT_1) (N := 3) (n := 3) hts (cCl_ok zclk 1 _ _ _ rfl).1 (hts _ (gI_ok (i := 1202) (by decide +kernel)))
  obtain ⟨c2, i2, K2⟩ := u_known (C := "NearFar$Orders") (T := zcT_2) (N := 10) (n := 10) hts (cCl_ok zclk 2 _ _ _ rfl).1 (hts _ (gI_ok (i := 1068) (by decide +kernel)))
  obtain ⟨c3, i3, K3⟩ := u_known (C := "NearFar$Rule") (T := zcT_3) (N := 5) (n := 5) hts (cCl_ok zclk 3 _ _ _ rfl).1 (hts _ (gI_ok (i := 1042) (by decide +kernel)))
  obtain ⟨c4, i4, K4⟩ := u_known (C := "NearFar$Tags") (T := zcT_4) (N := 2) (n := 2) hts (cCl_ok zclk 4 _ _ _ rfl).1 (hts _ (gI_ok (i := 1149) (by decide +kernel)))
  obtain ⟨c5, i5, K5⟩ := u_known (C := "NearFar$Tally") (T := zcT_5) (N := 2) (n := 2) hts (cCl_ok zclk 5 _ _ _ rfl).1 (hts _ (gI_ok (i := 1185) (by decide +kernel)))
  obtain ⟨c6, i6, K6⟩ := u_known (C := "NearFar$Text") (T := zcT_6) (N := 8) (n := 8) hts (cCl_ok zclk 6 _ _ _ rfl).1 (hts _ (gI_ok (i := 2094) (by decide +kernel)))
  obtain ⟨c7, i7, K7⟩ := u_known (C := "NearFar$Votes") (T := zcT_7) (N := 5) (n := 5) hts (cCl_ok zclk 7 _ _ _ rfl).1 (hts _ (gI_ok (i := 1122) (by decide +kernel)))
  obtain ⟨c8, i8, K8⟩ := u_known (C := "NearFar$Work") (T := zcT_8) (N := 9) (n := 9) hts (cCl_ok zclk 8 _ _ _ rfl).1 (hts _ (gI_ok (i := 2133) (by decide +kernel)))
  obtain ⟨c9, i9, K9⟩ := u_known (C := "NearFar$World") (T := zcT_9) (N := 18) (n := 18) hts (cCl_ok zclk 9 _ _ _ rfl).1 (hts _ (gI_ok (i := 1036) (by decide +kernel)))
  obtain ⟨c10, i10, K10⟩ := u_known (C := "NearFar") (T := zcT_10) (N := 6) (n := 6) hts (cCl_ok zclk 10 _ _ _ rfl).1 (hts _ (gI_ok (i := 1028) (by decide +kernel)))
  obtain ⟨c11, i11, K11⟩ := u_known (C := "NearFarModel") (T := zcT_11) (N := 35) (n := 35) hts (cCl_ok zclk 11 _ _ _ rfl).1 (hts _ (gI_ok (i := 6055) (by decide +kernel)))
  obtain ⟨q0, k0, m0, f0, g0, h0⟩ := Cond.arrayClass_spec (args := #[Value.ref b]) (first := s) (o := none) (s := s) (idx := []) (type := .int) (hts (.arrayClass .int) (gI_ok (i := 1065) (by decide +kernel)))
  obtain ⟨q1, k1, m1, f1, g1, h1⟩ := Cond.arrayClass_spec (args := #[Value.ref b]) (first := s) (o := none) (s := s) (idx := []) (type := .long) (hts (.arrayClass .long) (gI_ok (i := 1066) (by decide +kernel)))
  obtain ⟨q2, k2, m2, f2, g2, h2⟩ := Cond.arrayClass_spec (args := #[Value.ref b]) (first := s) (o := none) (s := s) (idx := []) (type := .byte) (hts (.arrayClass .byte) (gI_ok (i := 2129) (by decide +kernel)))
  refine ⟨(fun k => if k = 0 then c0 else if k = 1 then c1 else if k = 2 then c2 else if k = 3 then c3 else if k = 4 then c4 else if k = 5 then c5 else if k = 6 then c6 else if k = 7 then c7 else if k = 8 then c8 else if k = 9 then c9 else if k = 10 then c10 else c11, fun k => if k = 0 then i0 else if k = 1 then i1 else if k = 2 then i2 else if k = 3 then i3 else if k = 4 then i4 else if k = 5 then i5 else if k = 6 then i6 else if k = 7 then i7 else if k = 8 then i8 else if k = 9 then i9 else if k = 10 then i10 else i11), fun k => if k = 0 then q0 else if k = 1 then q1 else q2, fun k z hz => ?_, fun k z hz => ?_⟩
  · match k, hz with
    | 0, hz => cases hz; exact K0
    | 1, hz => cases hz; exact K1
    | 2, hz => cases hz; exact K2
    | 3, hz => cases hz; exact K3
    | 4, hz => cases hz; exact K4
    | 5, hz => cases hz; exact K5
    | 6, hz => cases hz; exact K6
    | 7, hz => cases hz; exact K7
    | 8, hz => cases hz; exact K8
    | 9, hz => cases hz; exact K9
    | 10, hz => cases hz; exact K10
    | 11, hz => cases hz; exact K11
    | k + 12, hz => simp [zcl] at hz
  · match k, hz with
    | 0, hz => cases hz; exact ⟨fun n z => ⟨fun k h => (by cases h), k0, g0, m0, h0⟩, f0⟩
    | 1, hz => cases hz; exact ⟨fun n z => ⟨fun k h => (by cases h), k1, g1, m1, h1⟩, f1⟩
    | 2, hz => cases hz; exact ⟨fun n z => ⟨fun k h => (by cases h), k2, g2, m2, h2⟩, f2⟩
    | k + 3, hz => simp [mtys] at hz
set_option maxHeartbeats 4000000 in
theorem zwire {p : Program} {e : Env} {s : State} {m : MethodId} {below : List Frame} {meth : Method} {c : Code} (l : Launch) (hflags : l.flags = flags0) {b L : Nat} {xs : Nat → Int32}
    (hx : p.tables.exec = Jvm.exec) (hb : c.code = code) (hr : meth.sig.returnType = ret) (hml : c.maxLocals = 8) (hown : s.vm.findClass R_law = some m.cls) (hts : ∀ w ∈ zbig, w.before #[Value.ref b] s = true) (hX : va_X b L xs s s.heap) (hbl : b < s.heap.size) (hlocks : meth.locks = false)
    (hgv : (Jvm.Cond.and given_1 narrow_1).before #[Value.ref b] s = true) (hexc : c.exceptionTable.toList = []) (hname : meth.name = "law")
    (hrun : ∃ n r, mrun (zE1 L xs) n 1000 300 0 [(0, .ref 1000)] [] [] 0 0 = some r ∧ r.1 = .inr (some (.int 1)) ∧ r.2.2.1 ≤ 601024 ∧ r.2.2.2 ≤ 7293034) :
    W p l e room_1 s m #[Value.ref b] below meth c s.heap [] 0 0 (lw_Z below #[Value.ref b] s) (entryFrame m ([Value.ref b] : List Value).toArray 8) := by
  obtain ⟨n, r, hrun, hv, h1, h2⟩ := hrun
  have hst : l.stackTraces = false := by unfold Launch.stackTraces; rw [hflags]; decide
  have htG : ∀ w ∈ zGt, w.before #[Value.ref b] s = true := fun w hw => hts w (List.mem_filter.mp hw).1
  obtain ⟨ad0, hb0, hT⟩ := zstart (L := L) (xs := xs) hts hgv hX hbl
  obtain ⟨D, cid, hK⟩ := zknown htG
  have hP : va_P D zcl (mws ad0 cid []) s.heap := fun k q h => by simp [mws] at h
  have hD : va_D (fun q : Nat => s.heap.size ≤ q) (mws ad0 cid []) := ⟨fun i j p q h => by simp [mws] at h, fun k q h => by simp [mws] at h⟩
  have hl := lv_entry ([.ref b]) (n := 8) (Nat.le_of_ble_eq_true rfl)
  rw [lg_entry_eq]
  generalize (lg_sl ([.ref b]) ++ List.replicate (8 - (lg_sl ([.ref b])).length) Slot.unset).toArray = ls at hl ⊢
  have hl : lv_has ls 8 (mcvL ad0 [(0, .ref 1000)]) := by
    rw [show mcvL ad0 [(0, .ref 1000)] = [(0, .ref b)] from by simp [mcvL, mcv1, hb0]]
    exact hl
  have hw : mwf [(0, Value.ref 1000)] [] [] := ⟨(fun q hq => (by rcases List.mem_singleton.mp hq with rfl; intro a ha; cases ha; exact Or.inr (Nat.le_refl _))), (fun v hv => (by cases hv)), (fun k ci fs h => (by cases h))⟩
  have K := mrun_W hst (zglob L xs) (zstr l L xs) n 1000 300 0 [(0, .ref 1000)] [] [] 0 0 r hrun hw zm_300 rfl p e (mRm 1000 r.2.2.1 r.2.2.2) s m #[Value.ref b] below meth c s.heap [] 0 0 D cid (fun q => s.heap.size ≤ q) ad0 ad0 r.2.2.1 r.2.2.2 0 0 0 ls
    ⟨hx, hb, hml, hown, htG, hlocks, hr, hexc, hname, rfl, hK, fun q h => h, hT⟩ (fun a _ => rfl) (Nat.le_refl _) hP hD va_S.rf hl rfl rfl (Nat.zero_add _).symm (Nat.zero_add _).symm
  refine zW_room (R' := mRm 1000 r.2.2.1 r.2.2.2) (show (1000 : Nat) ≤ 2048 from Nat.le_of_ble_eq_true rfl) h1 h2 (show (40 * 1000 : Nat) ≤ 84000 from Nat.le_of_ble_eq_true rfl) (fun t ht => ?_) K
  obtain ⟨o, a1, a2, a3⟩ := ht
  refine ⟨o, a1, a2, ?_⟩
  rcases a3 with ⟨⟨v, ad, e1, e2, -⟩, Lc, ⟨-, hW, hsame⟩, hfree⟩ | ⟨q, -, E, ce, Lc, ⟨ad, e1, -⟩, -⟩
  · rw [hv] at e1
    cases e1
    exact ⟨e2, ⟨_, e2⟩, hW, hsame.weaken (fun y hy hlt => absurd hlt (Nat.not_lt.mpr (hfree y hy))) h1 h2⟩
  · rw [hv] at e1
    cases e1
