/-! the bursts, stage by stage -/
theorem zgo_env {a : Nat → Option mMeth} {b : Nat → List FieldType} {c c' : Nat → Option (Nat × Nat × (Nat → Value))} {d : Nat → String} {ro : zQ} {dn : Nat} {con : zK} {fu : Nat} {stop : Nat → zL → Bool} : ∀ n, zgo (a, b, c, d) ro dn con fu stop n = zgo (a, b, c', d) ro dn con fu stop n := by
  intro n
  induction n with
  | zero => rfl
  | succ n ih =>
    funext dd mi M cur pc ls st F w nc ns
    unfold zgo
    rw [ih, yex_env (c := c) (c' := c')]
theorem zbs_ok {E : mEnv} (hE1 : E.1 = zmt) (hE2 : E.2.1 = zft_) (hE4 : E.2.2.2 = zxn) {mi : Nat} {M : mMeth} (hM : zmt mi = some M) {W3 : zT zC 7} {V : List Int} {stop : Nat → zL → Bool} {a : zP} {b : Option zP} (h : zbs mi M W3 V stop a b = true)
    {r : List Int} {ls : mLs} {st : List Value} {mem : mMem} {nc ns : Nat} (hp : zpo r a ls st mem nc ns) {P : mRes → Prop} (hin : ∀ o r' res, zX r r' → zbo W3 V o = true → zuo E r' o res → P res)
    (hst : ∀ t, b = some t → ∀ r' ls' st' mem' nc' ns', zX r r' → zpo r' t ls' st' mem' nc' ns' → mGd E P 200 mi t.1 ls' st' mem' nc' ns') : mGd E P 200 mi a.1 ls st mem nc ns := by
  unfold zbs at h
  split at h
  · rename_i L e
    have he : E = (zmt, zft_, E.2.2.1, zxn) := by rw [← hE1, ← hE2, ← hE4]
    unfold zEb at e
    rw [zgo_env (c' := E.2.2.1), ← he] at e
    obtain ⟨p1, p2, p3, p4, p5, p6⟩ := hp
    refine zgo_ok (dn := 100) (con := zcon4) (ro := fun _ => none) (zcon4_ok hE1 hE2 hE4) (fun mi M hM => zmt_sr hE1 mi M hM) _ _ _ _ _ _ _ _ _ _ _ _ _ e (by rw [hE1]; exact hM) ⟨[], rfl⟩ r ls st mem nc ns P (fun p t n b es e => (by cases e)) p3 p1 p2 p4 p5 p6 ?_ ?_
    · intro o ho r' res hx hu
      have k := List.all_eq_true.mp h _ ho
      exact hin o r' res hx k hu
    · intro s hs r' ls' st' mem' nc' ns' hx hp'
      have k := List.all_eq_true.mp h _ hs
      cases b with
      | none => cases k
      | some t =>
        obtain ⟨e1, e2⟩ := zpw_ok k
        rw [e1]
        exact hst t rfl r' ls' st' mem' nc' ns' hx (e2 hp')
  · cases h
/-- a burst from its start on -/
def zbR (mi ref : Nat) (W2 W3 : zT zC 7) (V : List Int) (pl ph sv : Int) : Prop := ∀ {E : mEnv}, E.1 = zmt → E.2.1 = zft_ → E.2.2.2 = zxn → ∀ {r : List Int} {ls : mLs} {st : List Value} {mem : mMem} {nc ns : Nat},
  zpo r (0, zarg 0 [(2, ref, 0), (1, 1, 0), (1, 2, 0), (1, 3, 0), (1, 4, 0)], [], zbF pl ph sv, (85, W2), 500000, 7000000) ls st mem nc ns → mGd E (fun res => ∃ r' o, zX r r' ∧ zbo W3 V o = true ∧ zuo E r' o res) 200 mi 0 ls st mem nc ns
theorem zRr_0_0 : zbR 232 75 zw2 zw3 zV0 0 0 0 := by
  intro E h1 h2 h4 r ls st mem nc ns hp
  refine zbs_ok h1 h2 h4 (M := zm_232) rfl ztr_0_0_0 hp (fun o r9 res hx a b => ⟨r9, o, hx, a, b⟩) (fun t ht r0 ls0 st0 mem0 nc0 ns0 hx0 hp0 => ?_)
  cases ht
  refine zbs_ok h1 h2 h4 (M := zm_232) rfl ztr_0_0_1 hp0 (fun o r9 res hx a b => ⟨r9, o, (hx0.tr hx), a, b⟩) (fun t ht r1 ls1 st1 mem1 nc1 ns1 hx1 hp1 => ?_)
  cases ht
  have hx1 := hx0.tr hx1
  refine zbs_ok h1 h2 h4 (M := zm_232) rfl ztr_0_0_2 hp1 (fun o r9 res hx a b => ⟨r9, o, (hx1.tr hx), a, b⟩) (fun t ht r2 ls2 st2 mem2 nc2 ns2 hx2 hp2 => ?_)
  cases ht
  have hx2 := hx1.tr hx2
  exact zbs_ok h1 h2 h4 (M := zm_232) rfl ztr_0_0_3 hp2 (fun o r9 res hx a b => ⟨r9, o, (hx2.tr hx), a, b⟩) (fun t ht => by cases ht)
theorem zRr_0_1 : zbR 232 75 zw2 zw3 zV0 0 0 1 := by
  intro E h1 h2 h4 r ls st mem nc ns hp
  refine zbs_ok h1 h2 h4 (M := zm_232) rfl ztr_0_1_0 hp (fun o r9 res hx a b => ⟨r9, o, hx, a, b⟩) (fun t ht r0 ls0 st0 mem0 nc0 ns0 hx0 hp0 => ?_)
  cases ht
  refine zbs_ok h1 h2 h4 (M := zm_232) rfl ztr_0_1_1 hp0 (fun o r9 res hx a b => ⟨r9, o, (hx0.tr hx), a, b⟩) (fun t ht r1 ls1 st1 mem1 nc1 ns1 hx1 hp1 => ?_)
  cases ht
  have hx1 := hx0.tr hx1
  refine zbs_ok h1 h2 h4 (M := zm_232) rfl ztr_0_1_2 hp1 (fun o r9 res hx a b => ⟨r9, o, (hx1.tr hx), a, b⟩) (fun t ht r2 ls2 st2 mem2 nc2 ns2 hx2 hp2 => ?_)
  cases ht
  have hx2 := hx1.tr hx2
  exact zbs_ok h1 h2 h4 (M := zm_232) rfl ztr_0_1_3 hp2 (fun o r9 res hx a b => ⟨r9, o, (hx2.tr hx), a, b⟩) (fun t ht => by cases ht)
theorem zRr_0_2 : zbR 232 75 zw2 zw3 zV0 0 0 2 := by
  intro E h1 h2 h4 r ls st mem nc ns hp
  refine zbs_ok h1 h2 h4 (M := zm_232) rfl ztr_0_2_0 hp (fun o r9 res hx a b => ⟨r9, o, hx, a, b⟩) (fun t ht r0 ls0 st0 mem0 nc0 ns0 hx0 hp0 => ?_)
  cases ht
  refine zbs_ok h1 h2 h4 (M := zm_232) rfl ztr_0_2_1 hp0 (fun o r9 res hx a b => ⟨r9, o, (hx0.tr hx), a, b⟩) (fun t ht r1 ls1 st1 mem1 nc1 ns1 hx1 hp1 => ?_)
  cases ht
  have hx1 := hx0.tr hx1
  refine zbs_ok h1 h2 h4 (M := zm_232) rfl ztr_0_2_2 hp1 (fun o r9 res hx a b => ⟨r9, o, (hx1.tr hx), a, b⟩) (fun t ht r2 ls2 st2 mem2 nc2 ns2 hx2 hp2 => ?_)
  cases ht
  have hx2 := hx1.tr hx2
  exact zbs_ok h1 h2 h4 (M := zm_232) rfl ztr_0_2_3 hp2 (fun o r9 res hx a b => ⟨r9, o, (hx2.tr hx), a, b⟩) (fun t ht => by cases ht)
theorem zRr_0_3 : zbR 232 75 zw2 zw3 zV0 0 0 3 := by
  intro E h1 h2 h4 r ls st mem nc ns hp
  refine zbs_ok h1 h2 h4 (M := zm_232) rfl ztr_0_3_0 hp (fun o r9 res hx a b => ⟨r9, o, hx, a, b⟩) (fun t ht r0 ls0 st0 mem0 nc0 ns0 hx0 hp0 => ?_)
  cases ht
  refine zbs_ok h1 h2 h4 (M := zm_232) rfl ztr_0_3_1 hp0 (fun o r9 res hx a b => ⟨r9, o, (hx0.tr hx), a, b⟩) (fun t ht r1 ls1 st1 mem1 nc1 ns1 hx1 hp1 => ?_)
  cases ht
  have hx1 := hx0.tr hx1
  refine zbs_ok h1 h2 h4 (M := zm_232) rfl ztr_0_3_2 hp1 (fun o r9 res hx a b => ⟨r9, o, (hx1.tr hx), a, b⟩) (fun t ht r2 ls2 st2 mem2 nc2 ns2 hx2 hp2 => ?_)
  cases ht
  have hx2 := hx1.tr hx2
  exact zbs_ok h1 h2 h4 (M := zm_232) rfl ztr_0_3_3 hp2 (fun o r9 res hx a b => ⟨r9, o, (hx2.tr hx), a, b⟩) (fun t ht => by cases ht)
theorem zRr_1_0 : zbR 232 75 zw2 zw3 zV1 1 3 0 := by
  intro E h1 h2 h4 r ls st mem nc ns hp
  refine zbs_ok h1 h2 h4 (M := zm_232) rfl ztr_1_0_0 hp (fun o r9 res hx a b => ⟨r9, o, hx, a, b⟩) (fun t ht r0 ls0 st0 mem0 nc0 ns0 hx0 hp0 => ?_)
  cases ht
  refine zbs_ok h1 h2 h4 (M := zm_232) rfl ztr_1_0_1 hp0 (fun o r9 res hx a b => ⟨r9, o, (hx0.tr hx), a, b⟩) (fun t ht r1 ls1 st1 mem1 nc1 ns1 hx1 hp1 => ?_)
  cases ht
  have hx1 := hx0.tr hx1
  refine zbs_ok h1 h2 h4 (M := zm_232) rfl ztr_1_0_2 hp1 (fun o r9 res hx a b => ⟨r9, o, (hx1.tr hx), a, b⟩) (fun t ht r2 ls2 st2 mem2 nc2 ns2 hx2 hp2 => ?_)
  cases ht
  have hx2 := hx1.tr hx2
  refine zbs_ok h1 h2 h4 (M := zm_232) rfl ztr_1_0_3 hp2 (fun o r9 res hx a b => ⟨r9, o, (hx2.tr hx), a, b⟩) (fun t ht r3 ls3 st3 mem3 nc3 ns3 hx3 hp3 => ?_)
  cases ht
  have hx3 := hx2.tr hx3
  exact zbs_ok h1 h2 h4 (M := zm_232) rfl ztr_1_0_4 hp3 (fun o r9 res hx a b => ⟨r9, o, (hx3.tr hx), a, b⟩) (fun t ht => by cases ht)
theorem zRr_1_1 : zbR 232 75 zw2 zw3 zV1 1 3 1 := by
  intro E h1 h2 h4 r ls st mem nc ns hp
  refine zbs_ok h1 h2 h4 (M := zm_232) rfl ztr_1_1_0 hp (fun o r9 res hx a b => ⟨r9, o, hx, a, b⟩) (fun t ht r0 ls0 st0 mem0 nc0 ns0 hx0 hp0 => ?_)
  cases ht
  refine zbs_ok h1 h2 h4 (M := zm_232) rfl ztr_1_1_1 hp0 (fun o r9 res hx a b => ⟨r9, o, (hx0.tr hx), a, b⟩) (fun t ht r1 ls1 st1 mem1 nc1 ns1 hx1 hp1 => ?_)
  cases ht
  have hx1 := hx0.tr hx1
  refine zbs_ok h1 h2 h4 (M := zm_232) rfl ztr_1_1_2 hp1 (fun o r9 res hx a b => ⟨r9, o, (hx1.tr hx), a, b⟩) (fun t ht r2 ls2 st2 mem2 nc2 ns2 hx2 hp2 => ?_)
  cases ht
  have hx2 := hx1.tr hx2
  refine zbs_ok h1 h2 h4 (M := zm_232) rfl ztr_1_1_3 hp2 (fun o r9 res hx a b => ⟨r9, o, (hx2.tr hx), a, b⟩) (fun t ht r3 ls3 st3 mem3 nc3 ns3 hx3 hp3 => ?_)
  cases ht
  have hx3 := hx2.tr hx3
  exact zbs_ok h1 h2 h4 (M := zm_232) rfl ztr_1_1_4 hp3 (fun o r9 res hx a b => ⟨r9, o, (hx3.tr hx), a, b⟩) (fun t ht => by cases ht)
theorem zRr_1_2 : zbR 232 75 zw2 zw3 zV1 1 3 2 := by
  intro E h1 h2 h4 r ls st mem nc ns hp
  refine zbs_ok h1 h2 h4 (M := zm_232) rfl ztr_1_2_0 hp (fun o r9 res hx a b => ⟨r9, o, hx, a, b⟩) (fun t ht r0 ls0 st0 mem0 nc0 ns0 hx0 hp0 => ?_)
  cases ht
  refine zbs_ok h1 h2 h4 (M := zm_232) rfl ztr_1_2_1 hp0 (fun o r9 res hx a b => ⟨r9, o, (hx0.tr hx), a, b⟩) (fun t ht r1 ls1 st1 mem1 nc1 ns1 hx1 hp1 => ?_)
  cases ht
  have hx1 := hx0.tr hx1
  refine zbs_ok h1 h2 h4 (M := zm_232) rfl ztr_1_2_2 hp1 (fun o r9 res hx a b => ⟨r9, o, (hx1.tr hx), a, b⟩) (fun t ht r2 ls2 st2 mem2 nc2 ns2 hx2 hp2 => ?_)
  cases ht
  have hx2 := hx1.tr hx2
  refine zbs_ok h1 h2 h4 (M := zm_232) rfl ztr_1_2_3 hp2 (fun o r9 res hx a b => ⟨r9, o, (hx2.tr hx), a, b⟩) (fun t ht r3 ls3 st3 mem3 nc3 ns3 hx3 hp3 => ?_)
  cases ht
  have hx3 := hx2.tr hx3
  exact zbs_ok h1 h2 h4 (M := zm_232) rfl ztr_1_2_4 hp3 (fun o r9 res hx a b => ⟨r9, o, (hx3.tr hx), a, b⟩) (fun t ht => by cases ht)
theorem zRr_1_3 : zbR 232 75 zw2 zw3 zV1 1 3 3 := by
  intro E h1 h2 h4 r ls st mem nc ns hp
  refine zbs_ok h1 h2 h4 (M := zm_232) rfl ztr_1_3_0 hp (fun o r9 res hx a b => ⟨r9, o, hx, a, b⟩) (fun t ht r0 ls0 st0 mem0 nc0 ns0 hx0 hp0 => ?_)
  cases ht
  refine zbs_ok h1 h2 h4 (M := zm_232) rfl ztr_1_3_1 hp0 (fun o r9 res hx a b => ⟨r9, o, (hx0.tr hx), a, b⟩) (fun t ht r1 ls1 st1 mem1 nc1 ns1 hx1 hp1 => ?_)
  cases ht
  have hx1 := hx0.tr hx1
  refine zbs_ok h1 h2 h4 (M := zm_232) rfl ztr_1_3_2 hp1 (fun o r9 res hx a b => ⟨r9, o, (hx1.tr hx), a, b⟩) (fun t ht r2 ls2 st2 mem2 nc2 ns2 hx2 hp2 => ?_)
  cases ht
  have hx2 := hx1.tr hx2
  refine zbs_ok h1 h2 h4 (M := zm_232) rfl ztr_1_3_3 hp2 (fun o r9 res hx a b => ⟨r9, o, (hx2.tr hx), a, b⟩) (fun t ht r3 ls3 st3 mem3 nc3 ns3 hx3 hp3 => ?_)
  cases ht
  have hx3 := hx2.tr hx3
  exact zbs_ok h1 h2 h4 (M := zm_232) rfl ztr_1_3_4 hp3 (fun o r9 res hx a b => ⟨r9, o, (hx3.tr hx), a, b⟩) (fun t ht => by cases ht)
theorem zRc_0_0 : zbR 133 0 zc2 zc3 zV0 0 0 0 := by
  intro E h1 h2 h4 r ls st mem nc ns hp
  refine zbs_ok h1 h2 h4 (M := zm_133) rfl ztc_0_0_0 hp (fun o r9 res hx a b => ⟨r9, o, hx, a, b⟩) (fun t ht r0 ls0 st0 mem0 nc0 ns0 hx0 hp0 => ?_)
  cases ht
  refine zbs_ok h1 h2 h4 (M := zm_133) rfl ztc_0_0_1 hp0 (fun o r9 res hx a b => ⟨r9, o, (hx0.tr hx), a, b⟩) (fun t ht r1 ls1 st1 mem1 nc1 ns1 hx1 hp1 => ?_)
  cases ht
  have hx1 := hx0.tr hx1
  exact zbs_ok h1 h2 h4 (M := zm_133) rfl ztc_0_0_2 hp1 (fun o r9 res hx a b => ⟨r9, o, (hx1.tr hx), a, b⟩) (fun t ht => by cases ht)
theorem zRc_0_1 : zbR 133 0 zc2 zc3 zV0 0 0 1 := by
  intro E h1 h2 h4 r ls st mem nc ns hp
  refine zbs_ok h1 h2 h4 (M := zm_133) rfl ztc_0_1_0 hp (fun o r9 res hx a b => ⟨r9, o, hx, a, b⟩) (fun t ht r0 ls0 st0 mem0 nc0 ns0 hx0 hp0 => ?_)
  cases ht
  refine zbs_ok h1 h2 h4 (M := zm_133) rfl ztc_0_1_1 hp0 (fun o r9 res hx a b => ⟨r9, o, (hx0.tr hx), a, b⟩) (fun t ht r1 ls1 st1 mem1 nc1 ns1 hx1 hp1 => ?_)
  cases ht
  have hx1 := hx0.tr hx1
  exact zbs_ok h1 h2 h4 (M := zm_133) rfl ztc_0_1_2 hp1 (fun o r9 res hx a b => ⟨r9, o, (hx1.tr hx), a, b⟩) (fun t ht => by cases ht)
theorem zRc_0_2 : zbR 133 0 zc2 zc3 zV0 0 0 2 := by
  intro E h1 h2 h4 r ls st mem nc ns hp
  refine zbs_ok h1 h2 h4 (M := zm_133) rfl ztc_0_2_0 hp (fun o r9 res hx a b => ⟨r9, o, hx, a, b⟩) (fun t ht r0 ls0 st0 mem0 nc0 ns0 hx0 hp0 => ?_)
  cases ht
  refine zbs_ok h1 h2 h4 (M := zm_133) rfl ztc_0_2_1 hp0 (fun o r9 res hx a b => ⟨r9, o, (hx0.tr hx), a, b⟩) (fun t ht r1 ls1 st1 mem1 nc1 ns1 hx1 hp1 => ?_)
  cases ht
  have hx1 := hx0.tr hx1
  exact zbs_ok h1 h2 h4 (M := zm_133) rfl ztc_0_2_2 hp1 (fun o r9 res hx a b => ⟨r9, o, (hx1.tr hx), a, b⟩) (fun t ht => by cases ht)
theorem zRc_0_3 : zbR 133 0 zc2 zc3 zV0 0 0 3 := by
  intro E h1 h2 h4 r ls st mem nc ns hp
  refine zbs_ok h1 h2 h4 (M := zm_133) rfl ztc_0_3_0 hp (fun o r9 res hx a b => ⟨r9, o, hx, a, b⟩) (fun t ht r0 ls0 st0 mem0 nc0 ns0 hx0 hp0 => ?_)
  cases ht
  refine zbs_ok h1 h2 h4 (M := zm_133) rfl ztc_0_3_1 hp0 (fun o r9 res hx a b => ⟨r9, o, (hx0.tr hx), a, b⟩) (fun t ht r1 ls1 st1 mem1 nc1 ns1 hx1 hp1 => ?_)
  cases ht
  have hx1 := hx0.tr hx1
  exact zbs_ok h1 h2 h4 (M := zm_133) rfl ztc_0_3_2 hp1 (fun o r9 res hx a b => ⟨r9, o, (hx1.tr hx), a, b⟩) (fun t ht => by cases ht)
theorem zRc_1_0 : zbR 133 0 zc2 zc3 zV1 1 3 0 := by
  intro E h1 h2 h4 r ls st mem nc ns hp
  refine zbs_ok h1 h2 h4 (M := zm_133) rfl ztc_1_0_0 hp (fun o r9 res hx a b => ⟨r9, o, hx, a, b⟩) (fun t ht r0 ls0 st0 mem0 nc0 ns0 hx0 hp0 => ?_)
  cases ht
  refine zbs_ok h1 h2 h4 (M := zm_133) rfl ztc_1_0_1 hp0 (fun o r9 res hx a b => ⟨r9, o, (hx0.tr hx), a, b⟩) (fun t ht r1 ls1 st1 mem1 nc1 ns1 hx1 hp1 => ?_)
  cases ht
  have hx1 := hx0.tr hx1
  refine zbs_ok h1 h2 h4 (M := zm_133) rfl ztc_1_0_2 hp1 (fun o r9 res hx a b => ⟨r9, o, (hx1.tr hx), a, b⟩) (fun t ht r2 ls2 st2 mem2 nc2 ns2 hx2 hp2 => ?_)
  cases ht
  have hx2 := hx1.tr hx2
  exact zbs_ok h1 h2 h4 (M := zm_133) rfl ztc_1_0_3 hp2 (fun o r9 res hx a b => ⟨r9, o, (hx2.tr hx), a, b⟩) (fun t ht => by cases ht)
theorem zRc_1_1 : zbR 133 0 zc2 zc3 zV1 1 3 1 := by
  intro E h1 h2 h4 r ls st mem nc ns hp
  refine zbs_ok h1 h2 h4 (M := zm_133) rfl ztc_1_1_0 hp (fun o r9 res hx a b => ⟨r9, o, hx, a, b⟩) (fun t ht r0 ls0 st0 mem0 nc0 ns0 hx0 hp0 => ?_)
  cases ht
  refine zbs_ok h1 h2 h4 (M := zm_133) rfl ztc_1_1_1 hp0 (fun o r9 res hx a b => ⟨r9, o, (hx0.tr hx), a, b⟩) (fun t ht r1 ls1 st1 mem1 nc1 ns1 hx1 hp1 => ?_)
  cases ht
  have hx1 := hx0.tr hx1
  refine zbs_ok h1 h2 h4 (M := zm_133) rfl ztc_1_1_2 hp1 (fun o r9 res hx a b => ⟨r9, o, (hx1.tr hx), a, b⟩) (fun t ht r2 ls2 st2 mem2 nc2 ns2 hx2 hp2 => ?_)
  cases ht
  have hx2 := hx1.tr hx2
  exact zbs_ok h1 h2 h4 (M := zm_133) rfl ztc_1_1_3 hp2 (fun o r9 res hx a b => ⟨r9, o, (hx2.tr hx), a, b⟩) (fun t ht => by cases ht)
theorem zRc_1_2 : zbR 133 0 zc2 zc3 zV1 1 3 2 := by
  intro E h1 h2 h4 r ls st mem nc ns hp
  refine zbs_ok h1 h2 h4 (M := zm_133) rfl ztc_1_2_0 hp (fun o r9 res hx a b => ⟨r9, o, hx, a, b⟩) (fun t ht r0 ls0 st0 mem0 nc0 ns0 hx0 hp0 => ?_)
  cases ht
  refine zbs_ok h1 h2 h4 (M := zm_133) rfl ztc_1_2_1 hp0 (fun o r9 res hx a b => ⟨r9, o, (hx0.tr hx), a, b⟩) (fun t ht r1 ls1 st1 mem1 nc1 ns1 hx1 hp1 => ?_)
  cases ht
  have hx1 := hx0.tr hx1
  refine zbs_ok h1 h2 h4 (M := zm_133) rfl ztc_1_2_2 hp1 (fun o r9 res hx a b => ⟨r9, o, (hx1.tr hx), a, b⟩) (fun t ht r2 ls2 st2 mem2 nc2 ns2 hx2 hp2 => ?_)
  cases ht
  have hx2 := hx1.tr hx2
  exact zbs_ok h1 h2 h4 (M := zm_133) rfl ztc_1_2_3 hp2 (fun o r9 res hx a b => ⟨r9, o, (hx2.tr hx), a, b⟩) (fun t ht => by cases ht)
theorem zRc_1_3 : zbR 133 0 zc2 zc3 zV1 1 3 3 := by
  intro E h1 h2 h4 r ls st mem nc ns hp
  refine zbs_ok h1 h2 h4 (M := zm_133) rfl ztc_1_3_0 hp (fun o r9 res hx a b => ⟨r9, o, hx, a, b⟩) (fun t ht r0 ls0 st0 mem0 nc0 ns0 hx0 hp0 => ?_)
  cases ht
  refine zbs_ok h1 h2 h4 (M := zm_133) rfl ztc_1_3_1 hp0 (fun o r9 res hx a b => ⟨r9, o, (hx0.tr hx), a, b⟩) (fun t ht r1 ls1 st1 mem1 nc1 ns1 hx1 hp1 => ?_)
  cases ht
  have hx1 := hx0.tr hx1
  refine zbs_ok h1 h2 h4 (M := zm_133) rfl ztc_1_3_2 hp1 (fun o r9 res hx a b => ⟨r9, o, (hx1.tr hx), a, b⟩) (fun t ht r2 ls2 st2 mem2 nc2 ns2 hx2 hp2 => ?_)
  cases ht
  have hx2 := hx1.tr hx2
  exact zbs_ok h1 h2 h4 (M := zm_133) rfl ztc_1_3_3 hp2 (fun o r9 res hx a b => ⟨r9, o, (hx2.tr hx), a, b⟩) (fun t ht => by cases ht)
