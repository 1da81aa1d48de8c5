/-! CONTRACTS over typed memory: what they say, how they are used at a call. -/
/-- an argument: 1 an int, within; 2 this reference; else a long -/
abbrev yKa : Type := Nat × Nat × Int × Int
/-- a place that is told: cell, place, 1 an int, within, else this reference -/
abbrev yKc : Type := Nat × Nat × Nat × Int × Int
/-- arguments, places told, preds wanted, places that may change, ends, how many first symbols, how deep -/
abbrev yKt : Type := List yKa × List yKc × yP × List (Nat × Nat × Nat) × List yU × Nat × Nat
def yka : List yKa → Nat → List zV
  | [], _ => []
  | q :: l, n => match q.1 with
    | 1 => (1, n, 0) :: yka l (Nat.succ n)
    | 2 => (2, q.2.1, 0) :: yka l n
    | _ => (4, 0, 0) :: yka l n
def ykn : List yKa → Nat → Nat
  | [], n => n
  | q :: l, n => match q.1 with
    | 1 => ykn l (Nat.succ n)
    | _ => ykn l n
def ykb : List yKa → Nat → zB
  | [], _ => []
  | q :: l, n => match q.1 with
    | 1 => (n, q.2.2.1, q.2.2.2) :: ykb l (Nat.succ n)
    | _ => ykb l n
def yke : List yKc → Nat → List yE
  | [], _ => []
  | q :: l, n => match q.2.2.1 with
    | 1 => (q.1, zk (.ofNat q.2.1), (1, n, 0), 0) :: yke l (Nat.succ n)
    | _ => (q.1, zk (.ofNat q.2.1), (2, q.2.2.2.1.toNat, 0), 0) :: yke l n
def ykm : List yKc → Nat → Nat
  | [], n => n
  | q :: l, n => match q.2.2.1 with
    | 1 => ykm l (Nat.succ n)
    | _ => ykm l n
def ykd : List yKc → Nat → zB
  | [], _ => []
  | q :: l, n => match q.2.2.1 with
    | 1 => (n, q.2.2.2.1, q.2.2.2.2) :: ykd l (Nat.succ n)
    | _ => ykd l n
/-- the first symbols -/
def ykF (c : yKt) : zF := (ykm c.2.1 (ykn c.1 1), ykd c.2.1 (ykn c.1 1) ++ ykb c.1 1, [], [])
def ykE (c : yKt) : List yE := yke c.2.1 (ykn c.1 1)
/-- a contract holds, where so many calls may nest -/
def yCt (E : mEnv) (Y : zT yC 7) (K : List (Nat × yK)) (N : Nat) (PH : List Int → mMem → yQp → Prop) (Q : List Int → Prop) (d mi : Nat) (c : yKt) : Prop :=
  ∀ (θ : List Int) (vs : List Value) (mem : mMem) (nc ns : Nat), Q θ → zFok θ (ykF c) → zlm θ vs (yka c.1 1) → ych E θ mem (ykE c) mem → yTM Y K N mem → (∀ t ∈ c.2.2.1, PH θ mem t) →
    ∃ n res, mrun E n d mi 0 (lv_args 0 vs) [] mem nc ns = some res ∧ yFr c.2.2.2.1 mem res.2.1 ∧ ∃ o ∈ c.2.2.2.2.1, ∃ θ', zX θ θ' ∧ yuo E Y K N PH nc ns θ' res.2.1 o res
/-- the arguments fit: what stands for the symbols -/
def yma (F : zF) : List zV → List yKa → Option (List zV)
  | [], [] => some []
  | a :: as, q :: qs => (match q.1 with
    | 1 => bif Nat.beq a.1 1 && yin F a q.2.2.1 q.2.2.2 then (match yma F as qs with
      | some t => some (a :: t)
      | none => none) else none
    | 2 => bif Nat.beq a.1 2 && Nat.beq a.2.1 q.2.1 then yma F as qs else none
    | _ => bif Nat.ble 3 a.1 then yma F as qs else none)
  | _, _ => none
def yDn (r : List Int) (θ : List Int) (n : Nat) (th : List zV) : Prop := ∀ (k : Nat) (a : zV), th[k]? = some a → ∃ x, zd r a = some x ∧ θ[n + k]? = some x
theorem yDn.tl {r θ : List Int} {n : Nat} {a : zV} {th : List zV} (h : yDn r θ n (a :: th)) : (∃ x, zd r a = some x ∧ θ[n]? = some x) ∧ yDn r θ (Nat.succ n) th := by
  refine ⟨by simpa using h 0 a rfl, fun k b hb => ?_⟩
  obtain ⟨x, h1, h2⟩ := h (k + 1) b (by simpa using hb)
  exact ⟨x, h1, by rw [← h2]; congr 1; omega⟩
theorem yma_n {F : zF} : ∀ {as : List zV} {qs : List yKa} {th : List zV} {n : Nat}, yma F as qs = some th → ykn qs n = n + th.length
  | [], [], th, n, h => by cases h; rfl
  | [], q :: qs, th, n, h => by cases h
  | a :: as, [], th, n, h => by cases h
  | a :: as, q :: qs, th, n, h => by
    unfold yma at h
    unfold ykn
    split at h
    · rename_i e
      rw [e]
      cases c : (Nat.beq a.1 1 && yin F a q.2.2.1 q.2.2.2) with
      | false => rw [c] at h; cases h
      | true =>
        rw [c] at h
        simp only [cond_true] at h
        split at h
        · rename_i t e2
          cases h
          have := yma_n (n := Nat.succ n) e2
          simp only [List.length_cons]
          omega
        · cases h
    · rename_i e
      rw [e]
      cases c : (Nat.beq a.1 2 && Nat.beq a.2.1 q.2.1) with
      | false => rw [c] at h; cases h
      | true => rw [c] at h; exact yma_n h
    · rename_i n1 n2
      cases c : Nat.ble 3 a.1 with
      | false => rw [c] at h; cases h
      | true =>
        rw [c] at h
        split
        · rename_i e; exact absurd e n1
        · exact yma_n h
theorem yma_ok {r θ : List Int} {F : zF} (hF : zFok r F) : ∀ {as : List zV} {vs : List Value} {qs : List yKa} {th : List zV} {n : Nat}, yma F as qs = some th → zlm r vs as → yDn r θ n th →
    zlm θ vs (yka qs n) ∧ ∀ e ∈ ykb qs n, ∃ v, θ[e.1]? = some v ∧ e.2.1 ≤ v ∧ v ≤ e.2.2
  | [], [], [], th, n, h, hs, hd => ⟨trivial, fun e he => (by cases he)⟩
  | [], _ :: _, _, th, n, h, hs, hd => hs.elim
  | [], [], q :: qs, th, n, h, hs, hd => by cases h
  | a :: as, [], _, th, n, h, hs, hd => hs.elim
  | a :: as, v :: vs, [], th, n, h, hs, hd => by cases h
  | a :: as, v :: vs, q :: qs, th, n, h, hs, hd => by
    unfold yma at h
    split at h
    · rename_i e
      unfold yka ykb
      rw [e]
      cases c : (Nat.beq a.1 1 && yin F a q.2.2.1 q.2.2.2) with
      | false => rw [c] at h; cases h
      | true =>
        rw [c] at h
        simp only [cond_true] at h
        simp only [Bool.and_eq_true] at c
        split at h
        · rename_i t e2
          cases h
          obtain ⟨⟨x, h1, h2⟩, h3⟩ := hd.tl
          obtain ⟨g1, g2⟩ := yma_ok hF e2 hs.2 h3
          obtain ⟨y, rfl, hy⟩ := zvm_i hs.1 c.1
          rw [hy] at h1
          cases h1
          refine ⟨⟨zvm_int rfl (zd_some.mpr ⟨_, h2, by simp⟩), g1⟩, fun e he => ?_⟩
          rcases List.mem_cons.mp he with rfl | he
          · obtain ⟨b1, b2⟩ := yin_ok hF hy c.2
            exact ⟨_, h2, b1, b2⟩
          · exact g2 e he
        · cases h
    · rename_i e
      unfold yka ykb
      rw [e]
      cases c : (Nat.beq a.1 2 && Nat.beq a.2.1 q.2.1) with
      | false => rw [c] at h; cases h
      | true =>
        rw [c] at h
        simp only [Bool.and_eq_true] at c
        obtain ⟨g1, g2⟩ := yma_ok hF h hs.2 hd
        refine ⟨⟨?_, g1⟩, g2⟩
        show v = .ref q.2.1
        rw [zvm_r hs.1 c.1, zbe.mp c.2]
    · rename_i n1 n2
      cases c : Nat.ble 3 a.1 with
      | false => rw [c] at h; cases h
      | true =>
        rw [c] at h
        obtain ⟨g1, g2⟩ := yma_ok hF h hs.2 hd
        have ea : yka (q :: qs) n = (4, 0, 0) :: yka qs n := by
          conv => lhs; unfold yka
          split
          · rename_i e; exact absurd e n1
          · rename_i e; exact absurd e n2
          · rfl
        have eb : ykb (q :: qs) n = ykb qs n := by
          conv => lhs; unfold ykb
          split
          · rename_i e; exact absurd e n1
          · rfl
        rw [ea, eb]
        exact ⟨⟨zvm_l hs.1 c, g1⟩, g2⟩
/-- a place of a cell, read -/
def yrc (F : zF) (es : List yE) (Y : zT yC 7) (K : List (Nat × yK)) (N p j : Nat) : Option (zV × zF × List yE) :=
  bif Nat.ble (Nat.succ p) N && Nat.ble (Nat.succ j) (ztg 7 Y p).2.2.1 then yrp F es [] (ykk K (ztg 7 Y p).2.2.2) (zk (.ofNat (ztg 7 Y p).2.2.1)) p (zk (.ofNat j)) else none
theorem yva_ex {Y : zT yC 7} {K : List (Nat × yK)} {N p j : Nat} {mem : mMem} (hT : yTM Y K N mem) (hp : p < N) (hj : j < (ztg 7 Y p).2.2.1) : ∃ v, yva mem p j = some v ∧ yok (ykk K (ztg 7 Y p).2.2.2) j v := by
  have hlt : p < mem.length := by rw [hT.1]; exact hp
  obtain ⟨s1, s2⟩ := hT.2.2 p mem[p] (List.getElem?_eq_getElem hlt)
  cases hm : mem[p] with
  | inl q =>
    obtain ⟨t, n, f⟩ := q
    rw [hm] at s1 s2
    obtain ⟨-, -, e2⟩ := s1
    have hv : yv1 (.inl (t, n, f)) j = some (f j) := by simp only [yv1]; rw [if_pos (by omega)]
    refine ⟨f j, ?_, s2 j _ hv⟩
    unfold yva
    rw [List.getElem?_eq_getElem hlt, hm]
    exact hv
  | inr q =>
    obtain ⟨ci, fs⟩ := q
    rw [hm] at s1 s2
    obtain ⟨-, -, e2⟩ := s1
    have hl : j < fs.length := by omega
    have hv : yv1 (.inr (ci, fs)) j = some fs[j] := List.getElem?_eq_getElem hl
    refine ⟨fs[j], ?_, s2 j _ hv⟩
    unfold yva
    rw [List.getElem?_eq_getElem hlt, hm]
    exact hv
theorem yvx_va {E : mEnv} {Y : zT yC 7} {K : List (Nat × yK)} {N p j : Nat} {mem : mMem} (hT : yTM Y K N mem) (hp : p < N) : yvx E mem p j = yva mem p j := by
  have := hT.2.1
  unfold yvx
  rw [if_pos (by omega)]
theorem yrc_ok {E : mEnv} {r : List Int} {F F' : zF} {es es' : List yE} {Y : zT yC 7} {K : List (Nat × yK)} {N p j : Nat} {a : zV} {m0 m : mMem} (hF : zFok r F) (hT : yTM Y K N m) (hc : ych E r m0 es m) (h : yrc F es Y K N p j = some (a, F', es')) :
    ∃ v r', p < N ∧ yva m p j = some v ∧ zX r r' ∧ zFok r' F' ∧ ych E r' m0 es' m ∧ zvm r' v a := by
  unfold yrc at h
  cases c : (Nat.ble (Nat.succ p) N && Nat.ble (Nat.succ j) (ztg 7 Y p).2.2.1) with
  | false => rw [c] at h; cases h
  | true =>
    rw [c] at h
    simp only [cond_true] at h
    simp only [Bool.and_eq_true, Nat.ble_eq] at c
    have hp : p < N := by omega
    have hj : j < (ztg 7 Y p).2.2.1 := by omega
    obtain ⟨v, v1, v2⟩ := yva_ex hT hp hj
    obtain ⟨r', g1, g2, g3, g4⟩ := yrp_ok (n := (ztg 7 Y p).2.2.1) (es0 := []) hF hc (m1 := m) rfl (zk_d hF _) (by rw [yvx_va hT hp]; exact v1) v2 (zk_d hF _) hj h
    exact ⟨v, r', hp, v1, g1, g2, g3, g4⟩
/-- the places told fit -/
def ymc (Y : zT yC 7) (K : List (Nat × yK)) (N : Nat) : List yKc → zF → List yE → Option (List zV × zF × List yE)
  | [], F, es => some ([], F, es)
  | q :: qs, F, es => match yrc F es Y K N q.1 q.2.1 with
    | none => none
    | some (a, F1, es1) => (match q.2.2.1 with
      | 1 => bif Nat.beq a.1 1 then (match ymc Y K N qs F1 es1 with
        | some (t, F2, es2) => bif yin F2 a q.2.2.2.1 q.2.2.2.2 then some (a :: t, F2, es2) else none
        | none => none) else none
      | _ => bif Nat.beq a.1 2 && Nat.beq a.2.1 q.2.2.2.1.toNat then ymc Y K N qs F1 es1 else none)
theorem ymc_ok {E : mEnv} {Y : zT yC 7} {K : List (Nat × yK)} {N : Nat} {m0 m : mMem} (hT : yTM Y K N m) : ∀ {qs : List yKc} {r : List Int} {F F' : zF} {es es' : List yE} {th : List zV}, zFok r F → ych E r m0 es m → ymc Y K N qs F es = some (th, F', es') →
    ∃ r', zX r r' ∧ zFok r' F' ∧ ych E r' m0 es' m ∧ (∀ n, ykm qs n = n + th.length) ∧ (∀ a ∈ th, ∃ x, zd r' a = some x) ∧ ∀ (θ : List Int) (n : Nat), θ[0]? = some 0 → yDn r' θ n th → ych E θ m (yke qs n) m ∧ ∀ e ∈ ykd qs n, ∃ v, θ[e.1]? = some v ∧ e.2.1 ≤ v ∧ v ≤ e.2.2
  | [], r, F, F', es, es', th, hF, hc, h => by
    cases h
    exact ⟨r, zX.rf, hF, hc, fun n => rfl, fun a ha => (by cases ha), fun θ n h0 hd => ⟨rfl, fun e he => (by cases he)⟩⟩
  | q :: qs, r, F, F', es, es', th, hF, hc, h => by
    unfold ymc at h
    split at h
    · cases h
    · rename_i a F1 es1 e1
      obtain ⟨v, r1, g0, g1, g2, g3, g4, g5⟩ := yrc_ok hF hT hc e1
      have k0 : ∀ θ : List Int, θ[0]? = some 0 → zd θ (zk (.ofNat q.2.1)) = some ((q.2.1 : Nat) : Int) := fun θ h0 => zd_some.mpr ⟨0, h0, by simp [zk]⟩
      split at h
      · rename_i e
        cases c : Nat.beq a.1 1 with
        | false => rw [c] at h; cases h
        | true =>
          rw [c] at h
          simp only [cond_true] at h
          split at h
          · rename_i t F2 es2 e2
            cases c2 : yin F2 a q.2.2.2.1 q.2.2.2.2 with
            | false => rw [c2] at h; cases h
            | true =>
              rw [c2] at h
              cases h
              obtain ⟨r2, k1, k2, k3, k4, k5, k6⟩ := ymc_ok hT g3 g4 e2
              obtain ⟨x, rfl, hx⟩ := zvm_i (g5.ex k1) c
              obtain ⟨b1, b2⟩ := yin_ok k2 hx c2
              refine ⟨r2, g2.tr k1, k2, k3, fun n => ?_, fun b hb => ?_, fun θ n h0 hd => ?_⟩
              · unfold ykm
                rw [e]
                simp only [List.length_cons]
                rw [k4]
                omega
              · rcases List.mem_cons.mp hb with rfl | hb
                · exact ⟨_, hx⟩
                · exact k5 b hb
              · obtain ⟨⟨y, y1, y2⟩, y3⟩ := hd.tl
                rw [hx] at y1
                cases y1
                obtain ⟨z1, z2⟩ := k6 θ (Nat.succ n) h0 y3
                unfold yke ykd
                rw [e]
                refine ⟨z1.fact (k0 θ h0) (by rw [yvx_va hT g0]; exact g1) (zvm_int rfl (zd_some.mpr ⟨_, y2, by simp⟩)), fun e9 he => ?_⟩
                rcases List.mem_cons.mp he with rfl | he
                · exact ⟨_, y2, b1, b2⟩
                · exact z2 e9 he
          · cases h
      · rename_i n1
        cases c : (Nat.beq a.1 2 && Nat.beq a.2.1 q.2.2.2.1.toNat) with
        | false => rw [c] at h; cases h
        | true =>
          rw [c] at h
          simp only [cond_true] at h
          simp only [Bool.and_eq_true] at c
          obtain ⟨r2, k1, k2, k3, k4, k5, k6⟩ := ymc_ok hT g3 g4 h
          refine ⟨r2, g2.tr k1, k2, k3, fun n => ?_, k5, fun θ n h0 hd => ?_⟩
          · unfold ykm
            split
            · rename_i e; exact absurd e n1
            · exact k4 n
          · obtain ⟨z1, z2⟩ := k6 θ n h0 hd
            unfold yke ykd
            split
            · rename_i e; exact absurd e n1
            · refine ⟨z1.fact (k0 θ h0) (by rw [yvx_va hT g0]; exact g1) ?_, ?_⟩
              · show v = .ref q.2.2.2.1.toNat
                rw [zvm_r (g5.ex k1) c.1, zbe.mp c.2]
              · exact z2
