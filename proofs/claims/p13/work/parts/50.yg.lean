/-! a state fits what is told of an end, or of a cut point -/
/-- where a symbol's value comes from: 0 a local; 1 a place of a cell; 2 a place that is told by a symbol; else the value returned -/
abbrev ySr : Type := Nat × Nat × Nat
def yb0 : Nat → Nat → List zV
  | 0, _ => []
  | n + 1, k => (1, k, 0) :: yb0 n (Nat.succ k)
theorem yb0_get : ∀ (n k i : Nat), i < n → (yb0 n k)[i]? = some (1, k + i, 0)
  | 0, _, _, h => by omega
  | n + 1, k, 0, _ => rfl
  | n + 1, k, i + 1, h => by
    show ((1, k, 0) :: yb0 n (Nat.succ k))[i + 1]? = _
    rw [List.getElem?_cons_succ, yb0_get n (Nat.succ k) i (by omega)]
    congr 3
    omega
theorem yb0_len : ∀ (n k : Nat), (yb0 n k).length = n
  | 0, _ => rfl
  | n + 1, k => by show (yb0 n (Nat.succ k)).length + 1 = n + 1; rw [yb0_len]
def ysr (Y : zT yC 7) (K : List (Nat × yK)) (N : Nat) (ls : zL) (rv : zV) : List ySr → List zV → zF → List yE → Option (List zV × zF × List yE)
  | [], th, F, es => some (th, F, es)
  | q :: qs, th, F, es => match q.1 with
    | 0 => (match zld ls q.2.1 with
      | some b => bif Nat.beq b.1 1 then ysr Y K N ls rv qs (th ++ [b]) F es else none
      | none => none)
    | 1 => (match yrc F es Y K N q.2.1 q.2.2 with
      | some (b, F1, es1) => bif Nat.beq b.1 1 then ysr Y K N ls rv qs (th ++ [b]) F1 es1 else none
      | none => none)
    | 2 => (match ynt th q.2.2 with
      | some a => (match yfi F q.2.1 a es with
        | (0, b) => bif Nat.beq b.1 1 && Nat.ble (Nat.succ q.2.1) N && yin F a 0 (.ofNat (ztg 7 Y q.2.1).2.2.1 - 1) then ysr Y K N ls rv qs (th ++ [b]) F es else none
        | _ => none)
      | none => none)
    | _ => bif Nat.beq rv.1 1 then ysr Y K N ls rv qs (th ++ [rv]) F es else none
def yAl (r : List Int) (th : List zV) : Prop := ∀ a ∈ th, ∃ x, zd r a = some x
theorem ysr_ok {E : mEnv} {Y : zT yC 7} {K : List (Nat × yK)} {N : Nat} {ls : mLs} {als : zL} {rv : zV} {v : Value} {m0 m : mMem} (hT : yTM Y K N m) : ∀ {qs : List ySr} {r : List Int} {th th' : List zV} {F F' : zF} {es es' : List yE}, zFok r F → ych E r m0 es m → zls r ls als → zvm r v rv → yAl r th →
    ysr Y K N als rv qs th F es = some (th', F', es') → ∃ r', zX r r' ∧ zFok r' F' ∧ ych E r' m0 es' m ∧ yAl r' th' ∧ ∃ t, th' = th ++ t
  | [], r, th, th', F, F', es, es', hF, hc, hl, hv, ha, h => by
    cases h
    exact ⟨r, zX.rf, hF, hc, ha, [], (List.append_nil _).symm⟩
  | q :: qs, r, th, th', F, F', es, es', hF, hc, hl, hv, ha, h => by
    unfold ysr at h
    have step : ∀ {r1 : List Int} {b : zV} {F1 : zF} {es1 : List yE}, zX r r1 → zFok r1 F1 → ych E r1 m0 es1 m → (∃ x, zd r1 b = some x) → ysr Y K N als rv qs (th ++ [b]) F1 es1 = some (th', F', es') → ∃ r', zX r r' ∧ zFok r' F' ∧ ych E r' m0 es' m ∧ yAl r' th' ∧ ∃ t, th' = th ++ t := by
      intro r1 b F1 es1 hx hF1 hc1 hb h1
      have ha1 : yAl r1 (th ++ [b]) := by
        intro a h9
        rcases List.mem_append.mp h9 with h9 | h9
        · obtain ⟨x, e⟩ := ha a h9; exact ⟨x, hx.den e⟩
        · rcases List.mem_singleton.mp h9 with rfl
          exact hb
      obtain ⟨r2, g1, g2, g3, g4, t, g5⟩ := ysr_ok hT hF1 hc1 (hl.ex hx) (hv.ex hx) ha1 h1
      exact ⟨r2, hx.tr g1, g2, g3, g4, b :: t, by rw [g5, List.append_assoc]; rfl⟩
    split at h
    · split at h
      · rename_i b eb
        cases c : Nat.beq b.1 1 with
        | false => rw [c] at h; cases h
        | true =>
          rw [c] at h
          obtain ⟨w, -, hw⟩ := hl _ _ eb
          obtain ⟨x, -, hx⟩ := zvm_i hw c
          exact step zX.rf hF hc ⟨_, hx⟩ h
      · cases h
    · split at h
      · rename_i b F1 es1 eb
        cases c : Nat.beq b.1 1 with
        | false => rw [c] at h; cases h
        | true =>
          rw [c] at h
          obtain ⟨w, r1, -, -, k1, k2, k3, k4⟩ := yrc_ok hF hT hc eb
          obtain ⟨x, -, hx⟩ := zvm_i k4 c
          exact step k1 k2 k3 ⟨_, hx⟩ h
      · cases h
    · split at h
      · rename_i a ea
        split at h
        · rename_i b eb
          cases c : (Nat.beq b.1 1 && Nat.ble (Nat.succ q.2.1) N && yin F a 0 (.ofNat (ztg 7 Y q.2.1).2.2.1 - 1)) with
          | false => rw [c] at h; cases h
          | true =>
            rw [c] at h
            simp only [Bool.and_eq_true, Nat.ble_eq] at c
            rw [ynt_eq] at ea
            obtain ⟨y, hy⟩ := ha a (List.mem_of_getElem? ea)
            obtain ⟨b1, b2⟩ := yin_ok hF hy c.2
            simp only [Int.ofNat_eq_natCast] at b2
            have hyn : zd r a = some ((y.toNat : Nat) : Int) := by rw [hy]; congr 1; omega
            have hp : q.2.1 < N := by omega
            obtain ⟨w, w1, -⟩ := yva_ex (j := y.toNat) hT hp (by omega)
            have hz := yfi_ok hF hyn hc (by rw [yvx_va hT hp]; exact w1) eb
            obtain ⟨x, -, hx⟩ := zvm_i hz c.1.1
            exact step zX.rf hF hc ⟨_, hx⟩ h
        · cases h
      · cases h
    · cases c : Nat.beq rv.1 1 with
      | false => rw [c] at h; cases h
      | true =>
        rw [c] at h
        obtain ⟨x, -, hx⟩ := zvm_i hv c
        exact step zX.rf hF hc ⟨_, hx⟩ h
def ypm (F : zF) (f : zV → zV) (P W : yP) : Bool := W.all fun t => P.any fun u => yqe t u && (ycq t || (Nat.beq u.2.2.2.1 1 && Nat.beq t.2.2.2.1 1 && yle 2 F u.2.2.2 (f t.2.2.2) && yle 2 F (f t.2.2.2) u.2.2.2))
def yfm (F : zF) (es : List yE) (Y : zT yC 7) (N : Nat) (f : zV → zV) (W : List yE) : Bool := W.all fun e => Nat.beq e.2.2.2 0 && Nat.beq e.2.1.1 1 && Nat.ble (Nat.succ e.1) N && yin F (f e.2.1) 0 (.ofNat (ztg 7 Y e.1).2.2.1 - 1) && (match yfi F e.1 (f e.2.1) es with
  | (0, b) => Nat.beq b.1 e.2.2.1.1 && (bif Nat.beq b.1 1 then zve b (f e.2.2.1) else Nat.beq b.1 2 && Nat.beq b.2.1 e.2.2.1.2.1)
  | _ => false)
def yg2 (F : zF) (Y : zT yC 7) (N : Nat) (f : zV → zV) (eo : List yE) (Po : yP) (S : List yE × yP) : Bool := match S with
  | (es, P) => yfm F es Y N f eo && ypm F f P Po
def ygm (Y : zT yC 7) (K : List (Nat × yK)) (N : Nat) (sy : ySyn) (np : Nat) (ls : zL) (rv : zV) (F : zF) (es : List yE) (P : yP) (src : List ySr) (Fo : zF) (eo : List yE) (Po : yP) : Option (List zV × zF) :=
  match ysr Y K N ls rv src (zk 0 :: yb0 (np - 1) 1) F es with
  | none => none
  | some (th, F1, es1) =>
    bif Nat.beq th.length Fo.1 && Nat.ble np F1.1 && Nat.ble 1 np && Fo.2.2.2.isEmpty && (Fo.2.1.all fun e => Nat.ble (Nat.succ e.1) Fo.1 && yin F1 (ymv 0 Fo.1 th (1, e.1, 0)) e.2.1 e.2.2) &&
      (Fo.2.2.1.all fun e => Nat.ble (Nat.succ e.1) Fo.1 && Nat.ble (Nat.succ e.2.1) Fo.1 && (yle 2 F1 (zsh (ymv 0 Fo.1 th (1, e.1, 0)) e.2.2) (ymv 0 Fo.1 th (1, e.2.1, 0)) || (Nat.beq e.1 0 && yge 2 F1 (ymv 0 Fo.1 th (1, e.2.1, 0)) e.2.2))) &&
      yg2 F1 Y N (ymv 0 Fo.1 th) eo Po (sy F1 es1 P) && (eo.all fun e => Nat.ble (Nat.succ e.2.1.2.1) Fo.1 && (Nat.beq e.2.2.1.1 2 || Nat.ble (Nat.succ e.2.2.1.2.1) Fo.1)) && (Po.all fun t => Nat.ble (Nat.succ t.2.2.2.2.1) Fo.1) then some (th, F1) else none
theorem ygm_ok {E : mEnv} {Y : zT yC 7} {K : List (Nat × yK)} {N np : Nat} {PH : List Int → mMem → yQp → Prop} {sy : ySyn} {ls : mLs} {als : zL} {rv : zV} {v : Value} {F Fo F1 : zF} {es eo : List yE} {P Po : yP} {src : List ySr} {th : List zV} {r θ0 : List Int} {m0 m : mMem}
    (hPX : ∀ r r' m t, zX r r' → PH r m t → PH r' m t) (hPq : ∀ r r' m t u, ycq t = true → yqe t u = true → PH r m u → PH r' m t)
    (hPv : ∀ r r' m t u, yqe t u = true → (∀ x, zd r u.2.2.2 = some x → zd r' t.2.2.2 = some x) → PH r m u → PH r' m t) (hsy : ySy E Y K N PH sy)
    (hok : yOk E Y K N PH r m0 m F es P) (hl : zls r ls als) (hv : zvm r v rv) (hθ0 : zX θ0 r) (hnp : θ0.length = np) (h : ygm Y K N sy np als rv F es P src Fo eo Po = some (th, F1)) :
    ∃ r1 θ : List Int, zX r r1 ∧ zFok r1 F1 ∧ zX θ0 θ ∧ zFok θ Fo ∧ yFa E θ m eo ∧ (∀ t ∈ Po, PH θ m t) ∧ th.length = Fo.1 ∧ ∀ (k : Nat) (a : zV), th[k]? = some a → ∃ x, zd r1 a = some x ∧ θ[k]? = some x := by
  obtain ⟨hF, hc, hT, hP⟩ := hok
  unfold ygm at h
  split at h
  · cases h
  · rename_i th' F1' es1 e1
    rw [Bool.cond_eq_ite] at h
    split at h
    · rename_i hcc
      cases h
      simp only [Bool.and_eq_true, Nat.ble_eq, List.isEmpty_iff] at hcc
      obtain ⟨⟨⟨⟨⟨⟨⟨⟨c1, c2⟩, c3⟩, c4⟩, c5⟩, c6⟩, c7⟩, c8⟩, c9⟩ := hcc
      have c1 := zbe.mp c1
      obtain ⟨t0, ht0⟩ := hθ0
      have hr0 : ∀ k, k < np → ∃ x, r[k]? = some x ∧ θ0[k]? = some x := fun k hk => by
        have hk' : k < θ0.length := by omega
        exact ⟨θ0[k], by rw [ht0, List.getElem?_append_left hk']; exact List.getElem?_eq_getElem hk', List.getElem?_eq_getElem hk'⟩
      have ha0 : yAl r (zk 0 :: yb0 (np - 1) 1) := by
        intro a ha
        rcases List.mem_cons.mp ha with rfl | ha
        · exact ⟨0, zk_d hF 0⟩
        · obtain ⟨k, hk⟩ := List.getElem?_of_mem ha
          have hlt := (List.getElem?_eq_some_iff.mp hk).1
          rw [yb0_len] at hlt
          rw [yb0_get _ _ _ hlt] at hk
          cases hk
          obtain ⟨x, x1, -⟩ := hr0 (1 + k) (by omega)
          exact ⟨x, zd_some.mpr ⟨x, x1, by simp⟩⟩
      obtain ⟨r1, k1, k2, k3, k4, t, k5⟩ := ysr_ok hT hF hc hl hv ha0 e1
      obtain ⟨θ, hθ⟩ : ∃ θ : List Int, θ = th.map fun a => (zd r1 a).getD 0 := ⟨_, rfl⟩
      have hget : ∀ (k : Nat) (a : zV), th[k]? = some a → ∃ x, zd r1 a = some x ∧ θ[k]? = some x := fun k a ha => by
        obtain ⟨x, hx⟩ := k4 a (List.mem_of_getElem? ha)
        exact ⟨x, hx, by rw [hθ, List.getElem?_map, ha]; simp [hx]⟩
      have hlen : θ.length = Fo.1 := by rw [hθ, List.length_map]; exact c1
      have hM : yMv r1 θ 0 Fo.1 th := by
        refine ⟨fun k b _ hb => hget k b hb, c1, fun k x hk hx => ?_⟩
        have := (List.getElem?_eq_some_iff.mp hx).1
        omega
      have hat : ∀ a : zV, a.1 = 1 ∨ a.1 = 3 → a.2.1 < Fo.1 → ∃ y, zd θ a = some y ∧ zd r1 (ymv 0 Fo.1 th a) = some y := fun a h1 h2 => by
        have hlt : a.2.1 < θ.length := by omega
        have hz : zd θ a = some (θ[a.2.1] + a.2.2) := zd_some.mpr ⟨_, List.getElem?_eq_getElem hlt, rfl⟩
        exact ⟨_, hz, (ymv_d hM h1 hz).1⟩
      have h0 : θ[0]? = some 0 := by
        obtain ⟨x, x1, x2⟩ := hget 0 (zk 0) (by rw [k5]; rfl)
        rw [zk_d k2 0] at x1
        cases x1
        exact x2
      have hX : zX θ0 θ := by
        refine ⟨t.map fun a => (zd r1 a).getD 0, ?_⟩
        rw [hθ, k5, List.map_append]
        congr 1
        refine List.ext_getElem? fun k => ?_
        rw [List.getElem?_map]
        by_cases hk : k < np
        · obtain ⟨x, x1, x2⟩ := hr0 k hk
          rw [x2]
          cases k with
          | zero =>
            rw [hF.2.1] at x1
            cases x1
            show Option.map _ (some (zk 0)) = _
            simp [zk_d k2 0]
          | succ k =>
            rw [List.getElem?_cons_succ, yb0_get _ _ _ (by omega)]
            have : zd r1 (1, 1 + k, 0) = some x := zd_some.mpr ⟨x, k1.get (by rw [Nat.add_comm]; exact x1), by simp⟩
            simp [this]
        · rw [List.getElem?_eq_none (by rw [List.length_cons, yb0_len]; omega), List.getElem?_eq_none (by omega)]
          rfl
      have hFθ : zFok θ Fo := by
        refine ⟨hlen, h0, fun e he => ?_, fun e he => ?_, fun e he => by rw [c4] at he; cases he⟩
        · have := List.all_eq_true.mp c5 e he
          simp only [Bool.and_eq_true, Nat.ble_eq] at this
          obtain ⟨y, y1, y2⟩ := hat (1, e.1, 0) (Or.inl rfl) (by dsimp only; omega)
          obtain ⟨b1, b2⟩ := yin_ok k2 y2 this.2
          obtain ⟨w, w1, w2⟩ := zd_some.mp y1
          dsimp only at w1 w2
          exact ⟨w, w1, by omega, by omega⟩
        · have := List.all_eq_true.mp c6 e he
          simp only [Bool.and_eq_true, Nat.ble_eq, Bool.or_eq_true] at this
          obtain ⟨y, y1, y2⟩ := hat (1, e.1, 0) (Or.inl rfl) (by dsimp only; omega)
          obtain ⟨z, z1, z2⟩ := hat (1, e.2.1, 0) (Or.inl rfl) (by dsimp only; omega)
          have hle : y + e.2.2 ≤ z := by
            rcases this.2 with h | ⟨g1, g2⟩
            · exact yle_ok k2 2 (zsh_d y2) z2 h
            · have g3 := yge_ok k2 2 z2 g2
              obtain ⟨w, w1, w2⟩ := zd_some.mp y1
              dsimp only at w1 w2
              rw [zbe.mp g1, h0] at w1
              cases w1
              omega
          obtain ⟨w, w1, w2⟩ := zd_some.mp y1
          obtain ⟨u, u1, u2⟩ := zd_some.mp z1
          dsimp only at w1 w2 u1 u2
          exact ⟨w, u, w1, u1, by omega⟩
      have hsyn := hsy r1 m0 m F1 es1 P ⟨k2, k3, hT, fun t ht => hPX _ _ _ _ k1 (hP t ht)⟩
      have c7' : yfm F1 (sy F1 es1 P).1 Y N (ymv 0 Fo.1 th) eo = true ∧ ypm F1 (ymv 0 Fo.1 th) (sy F1 es1 P).2 Po = true := by
        have := c7
        unfold yg2 at this
        simp only [Bool.and_eq_true] at this
        exact this
      refine ⟨r1, θ, k1, k2, hX, hFθ, ?_, ?_, c1, hget⟩
      · intro e he
        have h1 := List.all_eq_true.mp c7'.1 e he
        have h2 := List.all_eq_true.mp c8 e he
        simp only [Bool.and_eq_true, Nat.ble_eq, Bool.or_eq_true, zbe] at h1 h2
        obtain ⟨⟨⟨⟨d1, d2⟩, d3⟩, d4⟩, d5⟩ := h1
        obtain ⟨y, y1, y2⟩ := hat e.2.1 (Or.inl d2) (by omega)
        obtain ⟨b1, b2⟩ := yin_ok k2 y2 d4
        simp only [Int.ofNat_eq_natCast] at b2
        have hyn : ∀ (rr : List Int) (a : zV), zd rr a = some y → zd rr a = some ((y.toNat : Nat) : Int) := fun rr a h => by rw [h]; congr 1; omega
        have hp : e.1 < N := by omega
        obtain ⟨w, w1, -⟩ := yva_ex (j := y.toNat) hT hp (by omega)
        split at d5
        · rename_i b eb
          have hz := yfi_ok k2 (hyn _ _ y2) hsyn.1.ch (by rw [yvx_va hT hp]; exact w1) eb
          simp only [Bool.and_eq_true, zbe] at d5
          refine ⟨d1, y.toNat, w, hyn _ _ y1, by rw [yvx_va hT hp]; exact w1, ?_⟩
          obtain ⟨f1, f2⟩ := d5
          cases c : Nat.beq b.1 1 with
          | true =>
            rw [c] at f2
            simp only [cond_true] at f2
            obtain ⟨x, rfl, hx⟩ := zvm_i hz c
            have t1 : e.2.2.1.1 = 1 := by rw [← f1]; exact zbe.mp c
            obtain ⟨z, z1, z2⟩ := hat e.2.2.1 (Or.inl t1) (by rcases h2.2 with g | g <;> omega)
            rw [zve_d f2, z2] at hx
            cases hx
            exact zvm_int t1 z1
          | false =>
            rw [c] at f2
            simp only [cond_false, Bool.and_eq_true, zbe] at f2
            have := zvm_r hz (zbe.mpr f2.1)
            rw [this, f2.2]
            unfold zvm
            rw [← f1, f2.1]
            rfl
        · cases d5
      · intro t ht
        have h1 := List.all_eq_true.mp c7'.2 t ht
        have h2 := List.all_eq_true.mp c9 t ht
        simp only [List.any_eq_true, Bool.and_eq_true, Bool.or_eq_true, Nat.ble_eq, zbe] at h1 h2
        obtain ⟨u, hu, q1, q2⟩ := h1
        rcases q2 with q2 | ⟨⟨⟨q2, q3⟩, q4⟩, q5⟩
        · exact hPq r1 θ m t u q2 q1 (hsyn.2 u hu)
        · refine hPv r1 θ m t u q1 (fun x hx => ?_) (hsyn.2 u hu)
          obtain ⟨y, y1, y2⟩ := hat t.2.2.2 (Or.inl q3) (by omega)
          have i1 := yle_ok k2 2 hx y2 q4
          have i2 := yle_ok k2 2 y2 hx q5
          rw [y1]
          congr 1
          omega
    · cases h
