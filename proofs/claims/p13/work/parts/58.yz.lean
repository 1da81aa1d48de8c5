/-! what is done at once: pop, the length and a letter of the words, a copy of a whole array -/
section
variable {gh : yGh}
def yp1 (st : List zV) (F : zF) (es : List yE) (P : yP) : Option (List zV × zF × List yE × yP) := match st with
  | a :: r => bif Nat.beq a.1 2 then some (r, F, es, P) else none
  | [] => none
def yp2 (ro : yQ) (st : List zV) (F : zF) (es : List yE) (P : yP) : Option (List zV × zF × List yE × yP) := match st with
  | a :: r => bif Nat.beq a.1 2 then (match ro a.2.1 with
    | some (t, nv, _, _) => bif Nat.beq t 3 then some (nv :: r, F, es, P) else none
    | none => none) else none
  | [] => none
/-- a letter: as an array is read -/
def yl3 (ro : yQ) (Y : zT yC 7) (K : List (Nat × yK)) (N : Nat) (i a : zV) (F : zF) (es : List yE) : Option (zV × zF × List yE) := match yar Y K N ro a.2.1 with
  | some (t', nv, k, es0) => bif Nat.beq t' 3 && yge 2 F i 0 && yle 2 F (zsh i 1) nv then yrp F es es0 k nv a.2.1 i else none
  | none => none
theorem yl3_ok {E : mEnv} {r : List Int} {ro : yQ} {mem m0 : mMem} {F F' : zF} {es es' : List yE} {Y : zT yC 7} {K : List (Nat × yK)} {N : Nat} {i a c : zV} {x : Int32}
    (hr : yRo E r ro) (hF : zFok r F) (hT : yTM Y K N mem) (hc : ych E r m0 es mem) (hx : zd r i = some x.toInt) (h : yl3 ro Y K N i a F es = some (c, F', es')) :
    ∃ (n : Nat) (f : Nat → Value) (r' : List Int), marr E mem a.2.1 = some (3, n, f) ∧ mIn x n = true ∧ zX r r' ∧ zFok r' F' ∧ ych E r' m0 es' mem ∧ zvm r' (f x.toNatClampNeg) c := by
  unfold yl3 at h
  split at h
  · rename_i t' nv k es0 ea
    obtain ⟨n, f, a1, a2, a3, a4, a5, a6, a7, -⟩ := yar_ok hF hT hr ea
    cases c2 : (Nat.beq t' 3 && yge 2 F i 0 && yle 2 F (zsh i 1) nv) with
    | false => rw [c2] at h; cases h
    | true =>
      rw [c2] at h
      simp only [cond_true] at h
      simp only [Bool.and_eq_true] at c2
      obtain rfl := zbe.mp c2.1.1
      have i0 := yge_ok hF 2 hx c2.1.2
      have i1 := yle_ok hF 2 (zsh_d hx) a4 c2.2
      obtain ⟨k1, k2, k3⟩ := yix hx i0 (n := n) (by omega)
      obtain ⟨r', g1, g2, g3, g4⟩ := yrp_ok hF hc (a7 mem) k2 (a5 _ k3) (a6 _ k3) a4 k3 h
      exact ⟨n, f, r', a1, k1, g1, g2, g3, g4⟩
  · cases h
def yp3 (ro : yQ) (Y : zT yC 7) (K : List (Nat × yK)) (N : Nat) (st : List zV) (F : zF) (es : List yE) (P : yP) : Option (List zV × zF × List yE × yP) := match st with
  | i :: a :: r => bif Nat.ble 1000 a.2.1 && Nat.beq i.1 1 && Nat.beq a.1 2 then (match yl3 ro Y K N i a F es with
    | some (c, F', es') => bif Nat.beq c.1 1 then some (c :: r, F', es', P) else none
    | none => none) else none
  | _ => none
def yp4a (Y : zT yC 7) (N d a : Nat) : Bool := Nat.ble (Nat.succ d) N && Nat.ble (Nat.succ a) N && !(Nat.beq a d) && Nat.beq (ztg 7 Y d).1 1 && Nat.beq (ztg 7 Y a).1 1 && Nat.beq (ztg 7 Y a).2.1 (ztg 7 Y d).2.1 && Nat.ble (ztg 7 Y a).2.1 1 && Nat.beq (ztg 7 Y a).2.2.1 (ztg 7 Y d).2.2.1 && Nat.beq (ztg 7 Y a).2.2.2 (ztg 7 Y d).2.2.2
def yp4 (Y : zT yC 7) (N : Nat) (mods : List (Nat × Nat × Nat)) (st : List zV) (F : zF) (es : List yE) (P : yP) : Option (List zV × zF × List yE × yP) := match st with
  | n :: dp :: d :: sp :: a :: r => bif zve n (zk (.ofNat (ztg 7 Y d.2.1).2.2.1)) && Nat.beq n.1 1 && zk0 dp && zk0 sp && Nat.beq d.1 2 && Nat.beq a.1 2 && yp4a Y N d.2.1 a.2.1 && (mods.any fun q => Nat.beq q.1 d.2.1 && Nat.beq q.2.1 0 && Nat.ble (ztg 7 Y d.2.1).2.2.1 q.2.2) then
      (match ysy Y N F es P with
      | (es1, P1) => some (r, F, ykf F [(d.2.1, 0, (ztg 7 Y d.2.1).2.2.1)] es1, (8, d.2.1, a.2.1, zk 0) :: (P1.filter fun t => yfd t [(d.2.1, 0, (ztg 7 Y d.2.1).2.2.1)]))) else none
  | _ => none
def yprm (ro : yQ) (Y : zT yC 7) (K : List (Nat × yK)) (N : Nat) (mods : List (Nat × Nat × Nat)) : yPm := fun k st F es P => match k with
  | 1 => yp1 st F es P
  | 2 => yp2 ro st F es P
  | 3 => yp3 ro Y K N st F es P
  | 4 => yp4 Y N mods st F es P
  | _ => none
section
variable {E : mEnv} {ro : yQ} {Y : zT yC 7} {K : List (Nat × yK)} {N : Nat} {mods : List (Nat × Nat × Nat)} {r : List Int} {m0 mem : mMem} {F F' : zF} {es es' : List yE} {P P' : yP} {st : List Value} {ast ast' : List zV}
theorem yp1_ok (hok : yOk E Y K N (yPH gh) r m0 mem F es P) (hs : zlm r st ast) (h : yp1 ast F es P = some (ast', F', es', P')) :
    ∃ st' mem' r' m1, mprim E 1 st mem = some (st', mem') ∧ yFr mods mem mem' ∧ zX r r' ∧ zlm r' st' ast' ∧ yOk E Y K N (yPH gh) r' m1 mem' F' es' P' := by
  unfold yp1 at h
  split at h
  · rename_i a rr
    obtain ⟨v, vs, rfl, hv, hvs⟩ := zlm_cons hs
    cases c : Nat.beq a.1 2 with
    | false => rw [c] at h; cases h
    | true =>
      rw [c] at h
      cases h
      have := zvm_r hv c
      subst this
      exact ⟨vs, mem, r, m0, rfl, yFr.rf, zX.rf, hvs, hok⟩
  · cases h
theorem yp2_ok (hr : yRo E r ro) (hok : yOk E Y K N (yPH gh) r m0 mem F es P) (hs : zlm r st ast) (h : yp2 ro ast F es P = some (ast', F', es', P')) :
    ∃ st' mem' r' m1, mprim E 2 st mem = some (st', mem') ∧ yFr mods mem mem' ∧ zX r r' ∧ zlm r' st' ast' ∧ yOk E Y K N (yPH gh) r' m1 mem' F' es' P' := by
  unfold yp2 at h
  split at h
  · rename_i a rr
    obtain ⟨v, vs, rfl, hv, hvs⟩ := zlm_cons hs
    cases c : Nat.beq a.1 2 with
    | false => rw [c] at h; cases h
    | true =>
      rw [c] at h
      simp only [cond_true] at h
      have := zvm_r hv c
      subst this
      split at h
      · rename_i t nv k es0 e
        cases c3 : Nat.beq t 3 with
        | false => rw [c3] at h; cases h
        | true =>
          rw [c3] at h
          cases h
          obtain rfl := zbe.mp c3
          obtain ⟨a1, n, f, a2, a3, a4, a5, a6, a7, a8⟩ := hr _ _ _ _ _ e
          have en : (Int32.ofNat n).toInt = (n : Int) := Int32.toInt_ofNat_of_lt (by omega)
          refine ⟨.int (Int32.ofNat n) :: vs, mem, r, m0, ?_, yFr.rf, zX.rf, ⟨zvm_int a5 (by rw [en]; exact a6), hvs⟩, hok⟩
          simp only [mprim]
          have a1' : ¬ a.2.1 < 1000 := by omega
          simp only [a1', if_false, a2]
      · cases h
  · cases h
theorem yp3_ok (hr : yRo E r ro) (hok : yOk E Y K N (yPH gh) r m0 mem F es P) (hs : zlm r st ast) (h : yp3 ro Y K N ast F es P = some (ast', F', es', P')) :
    ∃ st' mem' r' m1, mprim E 3 st mem = some (st', mem') ∧ yFr mods mem mem' ∧ zX r r' ∧ zlm r' st' ast' ∧ yOk E Y K N (yPH gh) r' m1 mem' F' es' P' := by
  obtain ⟨hF, hc, hT, hP⟩ := hok
  unfold yp3 at h
  split at h
  · rename_i i a rr
    obtain ⟨v, vs, rfl, hv, hvs⟩ := zlm_cons hs
    obtain ⟨u, us, rfl, hu, hus⟩ := zlm_cons hvs
    cases c : (Nat.ble 1000 a.2.1 && Nat.beq i.1 1 && Nat.beq a.1 2) with
    | false => rw [c] at h; cases h
    | true =>
      rw [c] at h
      simp only [cond_true] at h
      simp only [Bool.and_eq_true, Nat.ble_eq] at c
      obtain ⟨⟨c1, c2⟩, c4⟩ := c
      obtain ⟨x, rfl, hx⟩ := zvm_i hv c2
      have eu := zvm_r hu c4
      subst eu
      split at h
      · rename_i cc F1 es1 e
        cases c3 : Nat.beq cc.1 1 with
        | false => rw [c3] at h; cases h
        | true =>
          rw [c3] at h
          cases h
          obtain ⟨n, f, r', b1, b2, b3, b4, b6, b7⟩ := yl3_ok hr hF hT hc hx e
          have b9 : ¬ a.2.1 < 1000 := by omega
          unfold marr at b1
          rw [if_neg b9] at b1
          obtain ⟨y, y1, y2⟩ := zvm_i b7 c3
          refine ⟨.int y :: us, mem, r', m0, ?_, yFr.rf, b3, ⟨zvm_int (zbe.mp c3) y2, hus.ex b3⟩, b4, b6, hT, fun t ht => yPH_X b3 (hP t ht)⟩
          simp only [mprim]
          simp only [b9, if_false, b1, b2, if_true, y1]
      · cases h
  · cases h
theorem yp4_ok (hok : yOk E Y K N (yPH gh) r m0 mem F es P) (hs : zlm r st ast) (h : yp4 Y N mods ast F es P = some (ast', F', es', P')) :
    ∃ st' mem' r' m1, mprim E 4 st mem = some (st', mem') ∧ yFr mods mem mem' ∧ zX r r' ∧ zlm r' st' ast' ∧ yOk E Y K N (yPH gh) r' m1 mem' F' es' P' := by
  have hF := hok.1
  have hT := hok.2.2.1
  unfold yp4 at h
  split at h
  · rename_i n dp d sp a rr
    obtain ⟨v1, vs1, rfl, hv1, hvs1⟩ := zlm_cons hs
    obtain ⟨v2, vs2, rfl, hv2, hvs2⟩ := zlm_cons hvs1
    obtain ⟨v3, vs3, rfl, hv3, hvs3⟩ := zlm_cons hvs2
    obtain ⟨v4, vs4, rfl, hv4, hvs4⟩ := zlm_cons hvs3
    obtain ⟨v5, vs5, rfl, hv5, hvs5⟩ := zlm_cons hvs4
    cases c : (zve n (zk (.ofNat (ztg 7 Y d.2.1).2.2.1)) && Nat.beq n.1 1 && zk0 dp && zk0 sp && Nat.beq d.1 2 && Nat.beq a.1 2 && yp4a Y N d.2.1 a.2.1 && (mods.any fun q => Nat.beq q.1 d.2.1 && Nat.beq q.2.1 0 && Nat.ble (ztg 7 Y d.2.1).2.2.1 q.2.2)) with
    | false => rw [c] at h; cases h
    | true =>
      rw [c] at h
      simp only [cond_true] at h
      simp only [Bool.and_eq_true] at c
      obtain ⟨⟨⟨⟨⟨⟨⟨k1, k2⟩, k3⟩, k4⟩, k5⟩, k6⟩, k7⟩, k8⟩ := c
      unfold yp4a at k7
      simp only [Bool.and_eq_true, Nat.ble_eq, zbe, Bool.not_eq_true'] at k7
      obtain ⟨⟨⟨⟨⟨⟨⟨⟨j1, j2⟩, j3⟩, j4⟩, j5⟩, j6⟩, j7⟩, j8⟩, j9⟩ := k7
      obtain ⟨x, rfl, hx⟩ := zvm_i hv1 k2
      rw [zve_d k1, zk_d hF] at hx
      have e2 := zk0_ok hF hv2 k3
      have e3 := zvm_r hv3 k5
      have e4 := zk0_ok hF hv4 k4
      have e5 := zvm_r hv5 k6
      subst e2 e3 e4 e5
      generalize hd9 : d.2.1 = dd at *
      generalize ha9 : a.2.1 = aa at *
      have hlt : dd < mem.length := by rw [hT.1]; omega
      have hla : aa < mem.length := by rw [hT.1]; omega
      obtain ⟨s1, s2⟩ := hT.2.2 dd mem[dd] (List.getElem?_eq_getElem hlt)
      obtain ⟨t1, t2⟩ := hT.2.2 aa mem[aa] (List.getElem?_eq_getElem hla)
      cases hd : mem[dd] with
      | inr q =>
        rw [hd] at s1
        obtain ⟨ci, fs⟩ := q
        have := s1.1
        omega
      | inl q =>
        obtain ⟨t, n9, g⟩ := q
        cases ha : mem[aa] with
        | inr q =>
          rw [ha] at t1
          obtain ⟨ci, fs⟩ := q
          have := t1.1
          omega
        | inl q =>
          obtain ⟨t', n8, f⟩ := q
          rw [hd] at s1 s2
          rw [ha] at t1 t2
          obtain ⟨-, f1, f2⟩ := s1
          obtain ⟨-, f3, f4⟩ := t1
          have ett : t' = t := by omega
          have enn : n8 = n9 := by omega
          subst ett enn
          have hn : x.toInt = (n8 : Int) := by
            have := Option.some.inj hx
            rw [← this, f2]
            rfl
          have en : x.toNatClampNeg = n8 := by
            have : x.toNatClampNeg = x.toInt.toNat := rfl
            rw [this, hn]; simp
          have e0 : (0 : Int32).toNatClampNeg = 0 := rfl
          have hx0 : ¬ x < 0 := by
            rw [Int32.lt_iff_toInt_lt]
            have : (0 : Int32).toInt = 0 := rfl
            rw [this, hn]; omega
          have h00 : ¬ ((0 : Int32) < 0) := by decide
          have had : ¬ aa = dd := fun e => by rw [zbe.mpr e] at j3; cases j3
          have hcp : ∀ j, j < n8 → va_cpy f g 0 0 n8 j = f j := by
            intro j hj
            unfold va_cpy
            rw [if_pos ⟨Nat.zero_le _, by omega⟩]
            simp
          let mem' : mMem := mem.set dd (.inl (t', n8, va_cpy f g 0 0 n8))
          have vd : ∀ j, yva mem' dd j = yva mem aa j := by
            intro j
            unfold yva
            rw [List.getElem?_set_self hlt, List.getElem?_eq_getElem hla, ha]
            simp only [yv1]
            by_cases hj : j < n8
            · rw [if_pos hj, if_pos hj, hcp j hj]
            · rw [if_neg hj, if_neg hj]
          have vn : ∀ p j, p ≠ dd → yva mem' p j = yva mem p j := by
            intro p j hp
            unfold yva
            rw [List.getElem?_set_ne (fun e => hp e.symm)]
          have hfr : yFr [(dd, 0, n8)] mem mem' := by
            intro p j hn9
            by_cases hp : p = dd
            · subst hp
              have hj : ¬ j < n8 := fun hj => hn9 ⟨_, List.mem_singleton.mpr rfl, rfl, Nat.zero_le _, hj⟩
              rw [vd]
              unfold yva
              rw [List.getElem?_eq_getElem hlt, List.getElem?_eq_getElem hla, ha, hd]
              simp only [yv1]
              rw [if_neg hj, if_neg hj]
            · exact vn p j hp
          have hfr' : yFr mods mem mem' := by
            intro p j hn9
            refine hfr p j fun ⟨q, hq, q1, q2, q3⟩ => hn9 ?_
            rw [List.any_eq_true] at k8
            obtain ⟨w, w1, w2⟩ := k8
            simp only [Bool.and_eq_true, Nat.ble_eq, zbe] at w2
            rw [List.mem_singleton] at hq
            subst hq
            dsimp only at q1 q3
            exact ⟨w, w1, by omega, by omega, by omega⟩
          have hT' : yTM Y K N mem' := by
            refine ⟨by simp only [mem', List.length_set]; exact hT.1, hT.2.1, fun p c hc => ?_⟩
            by_cases hp : p = dd
            · subst hp
              rw [List.getElem?_set_self hlt] at hc
              cases hc
              refine ⟨⟨by omega, by omega, by omega⟩, fun j v hv => ?_⟩
              simp only [yv1] at hv
              by_cases hj : j < n8
              · rw [if_pos hj] at hv
                cases hv
                rw [hcp j hj, ← j9]
                exact t2 j (f j) (by simp only [yv1, hj, if_true])
              · rw [if_neg hj] at hv; cases hv
            · rw [List.getElem?_set_ne (fun e => hp e.symm)] at hc
              exact hT.2.2 p c hc
          obtain ⟨g1, g2⟩ := ysy_ok r m0 mem F es P hok
          cases h
          rw [f2]
          refine ⟨vs5, mem', r, mem', ?_, hfr', zX.rf, hvs5, hF, (ykf_ok hF g1 hfr).ch, hT', fun t ht => ?_⟩
          · simp only [mprim, List.getElem?_eq_getElem hlt, List.getElem?_eq_getElem hla, hd, ha, en, e0]
            rw [if_pos ⟨trivial, by omega, had, hx0, h00, h00, by omega, by omega⟩]
          · rcases List.mem_cons.mp ht with rfl | ht
            · intro j
              show yva mem' dd j = yva mem' aa j
              rw [vd, vn aa j had]
            · obtain ⟨q1, q2⟩ := List.mem_filter.mp ht
              exact yfd_ok q2 hfr (g2 t q1)
  · cases h
end
theorem yprm_ok {E : mEnv} {ro : yQ} {Y : zT yC 7} {K : List (Nat × yK)} {N : Nat} {RI : List Int → Prop} (hRI : ∀ r, RI r → yRo E r ro) (mods : List (Nat × Nat × Nat)) : yPok E Y K N (yPH gh) RI mods (yprm ro Y K N mods) := by
  intro k ast F es P ast' F' es' P' h r st m0 mem hr hok hs
  unfold yprm at h
  split at h
  · exact yp1_ok hok hs h
  · exact yp2_ok (hRI r hr) hok hs h
  · exact yp3_ok (hRI r hr) hok hs h
  · exact yp4_ok hok hs h
  · cases h
end
