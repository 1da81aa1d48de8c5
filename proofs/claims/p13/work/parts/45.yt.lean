/-! one plain step over typed memory -/
abbrev yO : Type := Nat × zL × List zV × zF × List yE
def yro (E : mEnv) (r : List Int) (m0 : mMem) (pc : Nat) (ls : mLs) (st : List Value) (mem : mMem) (o : yO) : Prop := o.1 = pc ∧ zls r ls o.2.1 ∧ zlm r st o.2.2.1 ∧ zFok r o.2.2.2.1 ∧ ych E r m0 o.2.2.2.2 mem
def ySt (E : mEnv) (Y : zT yC 7) (K : List (Nat × yK)) (N : Nat) (mods : List (Nat × Nat × Nat)) (r : List Int) (m0 : mMem) (nL : Nat) (q : mIns) (pc : Nat) (ls : mLs) (st : List Value) (mem : mMem) (L : List yO) : Prop :=
  ∃ pc' ls' st' mem' r', mplain E nL q pc ls st mem = some (pc', ls', st', mem') ∧ zX r r' ∧ yTM Y K N mem' ∧ (∀ p j, ¬ yMi mods p j → yva mem' p j = yva mem p j) ∧ ∃ o ∈ L, yro E r' m0 pc' ls' st' mem' o
def yism (i : Instr) : Bool := match i with
  | .arraylength | .iaload | .laload | .baload | .iastore | .lastore | .bastore | .getfield _ | .putfield _ => true
  | _ => false
def yl1 (pc : Nat) (ls : zL) (t : Nat) (st : List zV) (F : zF) (es : List yE) (Y : zT yC 7) (K : List (Nat × yK)) (N : Nat) (ro : yQ) : Option (List yO) := match yld t st F es Y K N ro with
  | some (c, rr, F', es') => zfn (pc + 1) fun p => some [(p, ls, c :: rr, F', es')]
  | none => none
def yme (ft : Nat → List FieldType) (ro : yQ) (Y : zT yC 7) (K : List (Nat × yK)) (N : Nat) (mods : List (Nat × Nat × Nat)) (q : mIns) (pc : Nat) (ls : zL) (st : List zV) (F : zF) (es : List yE) : Option (List yO) := match q.2.1 with
  | .arraylength => (match st with
    | a :: rr => bif Nat.beq a.1 2 then (match yar Y K N ro a.2.1 with
      | some (t, nv, _, _) => bif Nat.ble (Nat.succ t) 3 then zfn (pc + 1) fun p => some [(p, ls, nv :: rr, F, es)] else none
      | none => none) else none
    | _ => none)
  | .iaload => yl1 pc ls 0 st F es Y K N ro
  | .laload => yl1 pc ls 1 st F es Y K N ro
  | .baload => yl1 pc ls 2 st F es Y K N ro
  | .iastore => (match st with
    | v :: i :: a :: rr => bif ysi 0 i a v F es Y K N mods then zfn (pc + 1) fun p => some [(p, ls, rr, F, (a.2.1, i, v, 1) :: es)] else none
    | _ => none)
  | .lastore => (match st with
    | v :: i :: a :: rr => bif ysi 1 i a v F es Y K N mods then zfn (pc + 1) fun p => some [(p, ls, rr, F, (a.2.1, i, v, 1) :: es)] else none
    | _ => none)
  | .bastore => (match st with
    | v :: i :: a :: rr => bif Nat.beq v.1 1 then (match zun F .i2b v with
      | some (c, F') => bif ysi 2 i a c F' es Y K N mods then zfn (pc + 1) fun p => some [(p, ls, rr, F', (a.2.1, i, c, 1) :: es)] else none
      | none => none) else none
    | _ => none)
  | .getfield _ => (match ygf q st F es Y K N with
    | some (c, rr, F', es') => zfn (pc + 3) fun p => some [(p, ls, c :: rr, F', es')]
    | none => none)
  | .putfield _ => (match ypf ft q st F es Y K N mods with
    | some (rr, es') => zfn (pc + 3) fun p => some [(p, ls, rr, F, es')]
    | none => none)
  | _ => none
theorem yme_ok {E : mEnv} {r : List Int} {ro : yQ} {nL pc : Nat} {q : mIns} {ls : mLs} {als : zL} {st : List Value} {ast : List zV} {mem m0 : mMem} {F : zF} {es : List yE} {Y : zT yC 7} {K : List (Nat × yK)} {N : Nat} {mods : List (Nat × Nat × Nat)} {L : List yO}
    (hr : yRo E r ro) (hF : zFok r F) (hl : zls r ls als) (hs : zlm r st ast) (hT : yTM Y K N mem) (hc : ych E r m0 es mem) (h : yme E.2.1 ro Y K N mods q pc als ast F es = some L) : ySt E Y K N mods r m0 nL q pc ls st mem L := by
  have same : ∀ p j, ¬ yMi mods p j → yva mem p j = yva mem p j := fun _ _ _ => rfl
  unfold ySt mplain
  unfold yme at h
  generalize hi : q.2.1 = i at h ⊢
  split at h
  · -- arraylength
    split at h
    · rename_i a rr
      obtain ⟨v, vs, rfl, hv, hvs⟩ := zlm_cons hs
      cases c1 : Nat.beq a.1 2 with
      | false => rw [c1] at h; cases h
      | true =>
        rw [c1] at h
        simp only [cond_true] at h
        have ev := zvm_r hv c1
        subst ev
        split at h
        · rename_i t nv k es0 ea
          obtain ⟨n, f, a1, a2, a3, a4, -⟩ := yar_ok hF hT hr ea
          cases c2 : Nat.ble (Nat.succ t) 3 with
          | false => rw [c2] at h; cases h
          | true =>
            rw [c2] at h
            simp only [cond_true, zfn_eq] at h
            cases h
            rw [Nat.ble_eq] at c2
            have en : (Int32.ofNat n).toInt = (n : Int) := Int32.toInt_ofNat_of_lt (by omega)
            refine ⟨pc + 1, ls, .int (Int32.ofNat n) :: vs, mem, r, ?_, zX.rf, hT, same, _, List.mem_cons_self, rfl, hl, ⟨zvm_int a3 (by rw [en]; exact a4), hvs⟩, hF, hc⟩
            simp only [a1]
            rw [if_pos (by omega)]
        · cases h
    · cases h
  · -- iaload
    unfold yl1 at h
    split at h
    · rename_i c rr F' es' e9
      simp only [zfn_eq] at h
      cases h
      obtain ⟨x, p, us, n, f, r', rfl, m1, k1, g1, g2, g3, g4, g5, g6⟩ := yld_ok hr hF hs hT hc e9
      obtain ⟨y, ey, hy⟩ := zvm_i g5 g6
      refine ⟨pc + 1, ls, .int y :: us, mem, r', ?_, g1, hT, same, _, List.mem_cons_self, rfl, hl.ex g1, ⟨by rw [← ey]; exact g5, g3⟩, g2, g4⟩
      simp only [m1, k1, if_true, ey]
    · cases h
  · -- laload
    unfold yl1 at h
    split at h
    · rename_i c rr F' es' e9
      simp only [zfn_eq] at h
      cases h
      obtain ⟨x, p, us, n, f, r', rfl, m1, k1, g1, g2, g3, g4, g5, g6⟩ := yld_ok hr hF hs hT hc e9
      obtain ⟨y, ey⟩ := zvm_l g5 g6
      refine ⟨pc + 1, ls, .long y :: us, mem, r', ?_, g1, hT, same, _, List.mem_cons_self, rfl, hl.ex g1, ⟨by rw [← ey]; exact g5, g3⟩, g2, g4⟩
      simp only [m1, k1, if_true, ey]
    · cases h
  · -- baload
    unfold yl1 at h
    split at h
    · rename_i c rr F' es' e9
      simp only [zfn_eq] at h
      cases h
      obtain ⟨x, p, us, n, f, r', rfl, m1, k1, g1, g2, g3, g4, g5, g6⟩ := yld_ok hr hF hs hT hc e9
      obtain ⟨y, ey, hy⟩ := zvm_i g5 g6
      refine ⟨pc + 1, ls, .int y :: us, mem, r', ?_, g1, hT, same, _, List.mem_cons_self, rfl, hl.ex g1, ⟨by rw [← ey]; exact g5, g3⟩, g2, g4⟩
      simp only [m1, k1, if_true, ey]
    · cases h
  · -- iastore
    split at h
    · rename_i v i9 a rr
      obtain ⟨w, ws, rfl, hw, hws⟩ := zlm_cons hs
      obtain ⟨y, ys, rfl, hy, hys⟩ := zlm_cons hws
      obtain ⟨u, us, rfl, hu, hus⟩ := zlm_cons hys
      rw [Bool.cond_eq_ite] at h
      split at h
      · rename_i c
        simp only [zfn_eq] at h
        cases h
        have c0 := c
        unfold ysi at c0
        simp only [Bool.and_eq_true] at c0
        obtain ⟨x, rfl, hx⟩ := zvm_i hy c0.1.1.1.1.1.1.1.1.1
        obtain ⟨z, rfl, hz⟩ := zvm_i hw (show Nat.beq v.1 1 = true from c0.1.1.1.1.1.1.2)
        obtain ⟨n, f, e1, e2, e3, e4, e5, e6⟩ := ysi_ok hF hT hc hx hu hw c
        subst e1
        refine ⟨pc + 1, ls, us, _, r, ?_, zX.rf, e5, e6, _, List.mem_cons_self, rfl, hl, hus, hF, e4⟩
        simp only [e2, e3, if_true]
      · cases h
    · cases h
  · -- lastore
    split at h
    · rename_i v i9 a rr
      obtain ⟨w, ws, rfl, hw, hws⟩ := zlm_cons hs
      obtain ⟨y, ys, rfl, hy, hys⟩ := zlm_cons hws
      obtain ⟨u, us, rfl, hu, hus⟩ := zlm_cons hys
      rw [Bool.cond_eq_ite] at h
      split at h
      · rename_i c
        simp only [zfn_eq] at h
        cases h
        have c0 := c
        unfold ysi at c0
        simp only [Bool.and_eq_true] at c0
        obtain ⟨x, rfl, hx⟩ := zvm_i hy c0.1.1.1.1.1.1.1.1.1
        obtain ⟨z, rfl⟩ := zvm_l hw (show Nat.ble 3 v.1 = true from c0.1.1.1.1.1.1.2)
        obtain ⟨n, f, e1, e2, e3, e4, e5, e6⟩ := ysi_ok hF hT hc hx hu hw c
        subst e1
        refine ⟨pc + 1, ls, us, _, r, ?_, zX.rf, e5, e6, _, List.mem_cons_self, rfl, hl, hus, hF, e4⟩
        simp only [e2, e3, if_true]
      · cases h
    · cases h
  · -- bastore
    split at h
    · rename_i v i9 a rr
      obtain ⟨w, ws, rfl, hw, hws⟩ := zlm_cons hs
      obtain ⟨y, ys, rfl, hy, hys⟩ := zlm_cons hws
      obtain ⟨u, us, rfl, hu, hus⟩ := zlm_cons hys
      cases cv : Nat.beq v.1 1 with
      | false => rw [cv] at h; cases h
      | true =>
        rw [cv] at h
        simp only [cond_true] at h
        obtain ⟨b, rfl, hb⟩ := zvm_i hw cv
        split at h
        · rename_i c9 F' eu
          obtain ⟨z, r', z1, z2, z3, z4, z5⟩ := zun_ok hF (zbe.mp cv) hb eu
          rw [Bool.cond_eq_ite] at h
          split at h
          · rename_i c
            simp only [zfn_eq] at h
            cases h
            have c0 := c
            unfold ysi at c0
            simp only [Bool.and_eq_true] at c0
            obtain ⟨x, rfl, hx⟩ := zvm_i hy c0.1.1.1.1.1.1.1.1.1
            obtain ⟨n, f, e1, e2, e3, e4, e5, e6⟩ := ysi_ok (w := .int z) z3 hT (hc.ex z2) (z2.den hx) (hu.ex z2) (zvm_int z5 z4) c
            subst e1
            cases z1
            refine ⟨pc + 1, ls, us, _, r', ?_, z2, e5, e6, _, List.mem_cons_self, rfl, hl.ex z2, hus.ex z2, z3, e4⟩
            simp only [e2, e3, if_true]
          · cases h
        · cases h
    · cases h
  · -- getfield
    split at h
    · rename_i c rr F' es' e9
      simp only [zfn_eq] at h
      cases h
      obtain ⟨p, us, fs, v, r', rfl, m1, m2, m3, g1, g2, g3, g4, g5⟩ := ygf_ok hF hs hT hc e9
      refine ⟨pc + 3, ls, v :: us, mem, r', ?_, g1, hT, same, _, List.mem_cons_self, rfl, hl.ex g1, ⟨g5, g3⟩, g2, g4⟩
      simp only [m1, m2, m3, if_true]
    · cases h
  · -- putfield
    split at h
    · rename_i rr es' e9
      simp only [zfn_eq] at h
      cases h
      obtain ⟨v, p, us, fs, ty, rfl, m1, m2, m3, m4, m5, g1, g2, g3, g4⟩ := ypf_ok hF hs hT hc e9
      refine ⟨pc + 3, ls, us, _, r, ?_, zX.rf, g3, g4, _, List.mem_cons_self, rfl, hl, g1, hF, g2⟩
      simp only [m1, m2, m3, m4, m5, if_true, decide_true, Bool.and_self]
    · cases h
  · cases h
/-- conditions, computing, switches over told numbers -/
def yo2 (p : Option zF × Option zF) (t e : Nat) (ls : zL) (st : List zV) (es : List yE) : List yO :=
  match p.1, p.2 with
  | some F1, some F2 => [(t, ls, st, F1, es), (e, ls, st, F2, es)]
  | some F1, none => [(t, ls, st, F1, es)]
  | none, some F2 => [(e, ls, st, F2, es)]
  | none, none => []
theorem yo2_l {p : Option zF × Option zF} {t e : Nat} {ls : zL} {st : List zV} {es : List yE} {F : zF} (h : p.1 = some F) : (t, ls, st, F, es) ∈ yo2 p t e ls st es := by
  obtain ⟨a, b⟩ := p
  cases h
  cases b <;> exact List.mem_cons_self
theorem yo2_r {p : Option zF × Option zF} {t e : Nat} {ls : zL} {st : List zV} {es : List yE} {F : zF} (h : p.2 = some F) : (e, ls, st, F, es) ∈ yo2 p t e ls st es := by
  obtain ⟨a, b⟩ := p
  cases h
  cases a
  · exact List.mem_cons_self
  · exact List.mem_cons_of_mem _ List.mem_cons_self
def ylk (pc : Nat) (ls : zL) (st : List zV) (F : zF) (es : List yE) : List Int → Option (List yO)
  | [] => some []
  | o :: l => match mtgt pc o, ylk pc ls st F es l with
    | some t, some L => zfn t fun t => some ((t, ls, st, F, es) :: L)
    | _, _ => none
theorem ylk_ok {pc : Nat} {ls : zL} {st : List zV} {F : zF} {es : List yE} : ∀ {l : List Int} {L : List yO} {o : Int}, ylk pc ls st F es l = some L → o ∈ l → ∃ t, mtgt pc o = some t ∧ (t, ls, st, F, es) ∈ L
  | [], _, _, _, ho => by cases ho
  | o9 :: l, L, o, h, ho => by
    unfold ylk at h
    split at h
    · rename_i t L' e1 e2
      simp only [zfn_eq] at h
      cases h
      rcases List.mem_cons.mp ho with rfl | ho
      · exact ⟨t, e1, List.mem_cons_self⟩
      · obtain ⟨t', g1, g2⟩ := ylk_ok e2 ho
        exact ⟨t', g1, List.mem_cons_of_mem _ g2⟩
    · cases h
theorem ylk_off {d k : Int} : ∀ {l : List (Int × Int)}, Op.lookupswitch.offset l d k ∈ d :: l.map (·.2)
  | [] => List.mem_cons_self
  | (a, o) :: r => by
    rw [Op.lookupswitch.offset_cons]
    split
    · simp
    · rcases List.mem_cons.mp (ylk_off (d := d) (k := k) (l := r)) with h | h
      · rw [h]; exact List.mem_cons_self
      · simp only [List.map_cons, List.mem_cons]
        exact Or.inr (Or.inr h)
def ycn (k0 : Nat) (q : mIns) (pc : Nat) (ls : zL) (st : List zV) (F : zF) (es : List yE) : Option (List yO) := match q.2.1 with
  | .ifCond c off => (match st with
    | a :: rr => bif Nat.beq a.1 1 then (match mtgt pc off with
      | some t => zfn t fun t => zfn (pc + 3) fun e => some (yo2 (ycnd k0 F c a (zk 0)) t e ls rr es)
      | none => none) else none
    | _ => none)
  | .if_icmp c off => (match st with
    | b :: a :: rr => bif Nat.beq a.1 1 && Nat.beq b.1 1 then (match mtgt pc off with
      | some t => zfn t fun t => zfn (pc + 3) fun e => some (yo2 (ycnd k0 F c a b) t e ls rr es)
      | none => none) else none
    | _ => none)
  | .lookupswitch d ps => (match st with
    | a :: rr => bif Nat.beq a.1 1 && (ps.toList.zip (ps.toList.drop 1)).all (fun (a, next) => a.1 < next.1) then ylk pc ls rr F es (d :: ps.toList.map (·.2)) else none
    | _ => none)
  | _ => none
theorem ycn_ok {E : mEnv} {r : List Int} {k0 nL pc : Nat} {q : mIns} {ls : mLs} {als : zL} {st : List Value} {ast : List zV} {mem m0 : mMem} {F : zF} {es : List yE} {Y : zT yC 7} {K : List (Nat × yK)} {N : Nat} {mods : List (Nat × Nat × Nat)} {L : List yO}
    (hF : zFok r F) (hl : zls r ls als) (hs : zlm r st ast) (hT : yTM Y K N mem) (hc : ych E r m0 es mem) (h : ycn k0 q pc als ast F es = some L) : ySt E Y K N mods r m0 nL q pc ls st mem L := by
  have same : ∀ p j, ¬ yMi mods p j → yva mem p j = yva mem p j := fun _ _ _ => rfl
  unfold ySt mplain
  unfold ycn at h
  generalize hi : q.2.1 = i at h ⊢
  split at h
  · rename_i c off
    split at h
    · rename_i a rr
      obtain ⟨v, vs, rfl, hv, hvs⟩ := zlm_cons hs
      cases c1 : Nat.beq a.1 1 with
      | false => rw [c1] at h; cases h
      | true =>
        rw [c1] at h
        simp only [cond_true] at h
        obtain ⟨x, rfl, hx⟩ := zvm_i hv c1
        split at h
        · rename_i t et
          simp only [zfn_eq] at h
          cases h
          have hz : zd r (zk 0) = some (0 : Int32).toInt := zk_d hF 0
          obtain ⟨g1, g2⟩ := ycnd_ok (k0 := k0) (c := c) hF hx hz
          cases hm : mcond c x 0 with
          | true =>
            obtain ⟨F', e1, e2⟩ := g1 hm
            refine ⟨t, ls, vs, mem, r, ?_, zX.rf, hT, same, _, yo2_l e1, rfl, hl, hvs, e2, hc⟩
            simp only [et, hm, if_true]
          | false =>
            obtain ⟨F', e1, e2⟩ := g2 hm
            refine ⟨pc + 3, ls, vs, mem, r, ?_, zX.rf, hT, same, _, yo2_r e1, rfl, hl, hvs, e2, hc⟩
            simp [et, hm]
        · cases h
    · cases h
  · rename_i c off
    split at h
    · rename_i b a rr
      obtain ⟨v, vs, rfl, hv, hvs⟩ := zlm_cons hs
      obtain ⟨u, us, rfl, hu, hus⟩ := zlm_cons hvs
      cases c1 : (Nat.beq a.1 1 && Nat.beq b.1 1) with
      | false => rw [c1] at h; cases h
      | true =>
        rw [c1] at h
        simp only [cond_true] at h
        simp only [Bool.and_eq_true] at c1
        obtain ⟨y, rfl, hy⟩ := zvm_i hv c1.2
        obtain ⟨x, rfl, hx⟩ := zvm_i hu c1.1
        split at h
        · rename_i t et
          simp only [zfn_eq] at h
          cases h
          obtain ⟨g1, g2⟩ := ycnd_ok (k0 := k0) (c := c) hF hx hy
          cases hm : mcond c x y with
          | true =>
            obtain ⟨F', e1, e2⟩ := g1 hm
            refine ⟨t, ls, us, mem, r, ?_, zX.rf, hT, same, _, yo2_l e1, rfl, hl, hus, e2, hc⟩
            simp only [et, hm, if_true]
          | false =>
            obtain ⟨F', e1, e2⟩ := g2 hm
            refine ⟨pc + 3, ls, us, mem, r, ?_, zX.rf, hT, same, _, yo2_r e1, rfl, hl, hus, e2, hc⟩
            simp [et, hm]
        · cases h
    · cases h
  · rename_i d ps
    split at h
    · rename_i a rr
      obtain ⟨v, vs, rfl, hv, hvs⟩ := zlm_cons hs
      rw [Bool.cond_eq_ite] at h
      split at h
      · rename_i c1
        simp only [Bool.and_eq_true] at c1
        obtain ⟨x, rfl, hx⟩ := zvm_i hv c1.1
        obtain ⟨t, e1, e2⟩ := ylk_ok h (ylk_off (k := x.toInt))
        refine ⟨t, ls, vs, mem, r, ?_, zX.rf, hT, same, _, e2, rfl, hl, hvs, hF, hc⟩
        simp only [c1.2, if_true, e1, Option.map_some]
      · cases h
    · cases h
  · cases h
def yac (k0 : Nat) (q : mIns) (pc : Nat) (ls : zL) (st : List zV) (F : zF) (es : List yE) : Option (List yO) := match st with
  | b :: a :: rr => bif Nat.beq a.1 1 && Nat.beq b.1 1 then (match ybi k0 F (zon q.2.1) a b with
    | some (c, F') => zfn (pc + 1) fun p => some [(p, ls, c :: rr, F', es)]
    | none => none) else none
  | _ => none
theorem yac_ok {E : mEnv} {r : List Int} {k0 nL pc : Nat} {q : mIns} {ls : mLs} {als : zL} {st : List Value} {ast : List zV} {mem m0 : mMem} {F : zF} {es : List yE} {Y : zT yC 7} {K : List (Nat × yK)} {N : Nat} {mods : List (Nat × Nat × Nat)} {L : List yO}
    (h0 : Nat.beq (zon q.2.1) 0 = false) (hF : zFok r F) (hl : zls r ls als) (hs : zlm r st ast) (hT : yTM Y K N mem) (hc : ych E r m0 es mem) (h : yac k0 q pc als ast F es = some L) : ySt E Y K N mods r m0 nL q pc ls st mem L := by
  have same : ∀ p j, ¬ yMi mods p j → yva mem p j = yva mem p j := fun _ _ _ => rfl
  unfold yac at h
  split at h
  · rename_i b a rr
    obtain ⟨v, vs, rfl, hv, hvs⟩ := zlm_cons hs
    obtain ⟨u, us, rfl, hu, hus⟩ := zlm_cons hvs
    cases c1 : (Nat.beq a.1 1 && Nat.beq b.1 1) with
    | false => rw [c1] at h; cases h
    | true =>
      rw [c1] at h
      simp only [cond_true] at h
      simp only [Bool.and_eq_true] at c1
      obtain ⟨y, rfl, hy⟩ := zvm_i hv c1.2
      obtain ⟨x, rfl, hx⟩ := zvm_i hu c1.1
      split at h
      · rename_i c F' e
        simp only [zfn_eq] at h
        cases h
        obtain ⟨z, r', z1, z2, z3, z4, z5⟩ := ybi_ok hF hx hy e
        refine ⟨pc + 1, ls, .int z :: us, mem, r', ?_, z2, hT, same, _, List.mem_cons_self, rfl, hl.ex z2, ⟨zvm_int z5 z4, hus.ex z2⟩, z3, hc.ex z2⟩
        have hd : zisd q.2.1 = true := by
          revert h0
          generalize q.2.1 = i
          cases i <;> intro h0 <;> first | rfl | (cases h0)
        rw [zisd_ok hd]
        rw [← zop_eq] at z1
        unfold mdef
        have p1 : mpush q = none := by
          unfold mpush
          revert h0
          generalize q.2.1 = i
          cases i <;> intro h0 <;> first | rfl | (cases h0)
        have p2 : mload q.2.1 = none := by
          revert h0
          generalize q.2.1 = i
          cases i <;> intro h0 <;> first | rfl | (cases h0)
        have p3 : mstore q.2.1 = none := by
          revert h0
          generalize q.2.1 = i
          cases i <;> intro h0 <;> first | rfl | (cases h0)
        rw [p1, p2, p3]
        simp only [z1]
      · cases h
  · cases h
