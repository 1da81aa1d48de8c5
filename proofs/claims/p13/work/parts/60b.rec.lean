/-! RECURSION: by a number that grows -/
def ysd (q : yKq) (d : Nat) (g : List (Nat × Nat × Int)) : yKq := (q.1, (q.2.1.1, q.2.1.2.1, q.2.1.2.2.1, q.2.1.2.2.2.1, q.2.1.2.2.2.2.1, q.2.1.2.2.2.2.2.1, d), g, q.2.2.2)
/-- a contract, so deep, from the symbol ix at m on -/
def yPz (f : Nat → Option (Nat × Nat × (Nat → Value))) (K : List (Nat × yK)) (gh : yGh) (X : yKq) (ix : Nat) (m : Int) (d : Nat) : Prop := yCt (yEx f) yY K yNn (yPH gh) (fun θ => yQd X.2.2.2 θ ∧ ∃ v, θ[ix]? = some v ∧ m ≤ v) d X.1 X.2.1
theorem yCt.mono {E : mEnv} {Y : zT yC 7} {K : List (Nat × yK)} {N : Nat} {PH : List Int → mMem → yQp → Prop} {Q : List Int → Prop} {d d' mi : Nat} {c : yKt} (h : yCt E Y K N PH Q d mi c) (hd : d ≤ d') : yCt E Y K N PH Q d' mi c := by
  intro θ vs mem nc ns hQ hF hs hc hT hP
  obtain ⟨n, res, g1, g2⟩ := h θ vs mem nc ns hQ hF hs hc hT hP
  refine ⟨n, res, ?_, g2⟩
  rw [show d' = d + (d' - d) from by omega]
  exact mrun_dmono E _ _ _ _ _ _ _ _ _ _ _ g1
theorem yrstep {f : Nat → Option (Nat × Nat × (Nat → Value))} (hf : yFf f) {K : List (Nat × yK)} {c R : yKq} {d i j : Nat} {s : Int} {S : List yKq} (hS : yAl9 f K S) {ht : List (Nat × Nat × yHt)} {il : List Nat} {stop : Nat → Nat → Bool} {M : mMeth} {outs : List (yU × List ySr)} {cuts : List yTp}
    (h : yckc K (ysd R d [(i, j, s)] :: S) ht il stop M c outs cuts = true) (hM : zmt c.1 = some M) (hnz : znz (yka c.2.1.1 1) = true) (houts : c.2.1.2.2.2.2.1 = outs.map (·.1)) {gh : yGh} {kx : Nat} {m m' : Int} (hm : m' ≤ m + s)
    (hR : yPz f K gh R j m' (kx + d)) : yPz f K gh c i m (kx + c.2.1.2.2.2.2.2.2) := by
  intro θ vs mem nc ns hQ hF hs hc hTM hP
  refine yckg_ok hf (gh := gh) (kx := kx) (RI := fun r => r[0]? = some 0 ∧ yQd c.2.2.2 r ∧ ∃ v, r[i]? = some v ∧ m ≤ v) (fun r hr => hr.1) (fun r r' hx hr => ⟨hx.get hr.1, hr.2.1.ex hx, ?_⟩) (fun r hr => hr.2.1)
    (fun q hq => ?_) h hM hnz houts θ vs mem nc ns ⟨hF.2.1, hQ⟩ hF hs hc hTM hP
  · obtain ⟨v, v1, v2⟩ := hr.2.2
    exact ⟨v, hx.get v1, v2⟩
  · rcases List.mem_cons.mp hq with rfl | hq
    · refine ⟨_, hR, fun r r1 θ1 F1 th hr hx hF1 hg hθ => ?_⟩
      simp only [Bool.and_eq_true] at hg
      obtain ⟨v, v1, v2⟩ := hr.2.2
      obtain ⟨w, w1, w2⟩ := ygd_ok hF1 hx hg.1 hθ v1
      exact ⟨yge2_ok hF1 hg.2 hθ, w, w1, by omega⟩
    · exact ⟨yQd q.2.2.2, (yAl9_ok hS q hq gh).mono (by omega), fun r r1 θ1 F1 th _ _ hF1 hg hθ => yge2_ok hF1 (by simp only [Bool.and_eq_true] at hg; exact hg.2) hθ⟩
def yr200 (X : yKq) (ix : Nat) : Bool := (ykF X.2.1).2.1.any fun e => Nat.beq e.1 ix && zeq e.2.1 0 && zeq e.2.2 200
theorem yrec3 {f : Nat → Option (Nat × Nat × (Nat → Value))} {K : List (Nat × yK)} {gh : yGh} {A B C : yKq} {ia ib ic dA dB dC k : Nat} (hA : yr200 A ia = true) (hd : k ≤ dA)
    (stB : ∀ (kx : Nat) (m : Int), yPz f K gh A ia (m + 1) (kx + (dA - k)) → yPz f K gh B ib m (kx + dB)) (stC : ∀ (kx : Nat) (m : Int), yPz f K gh B ib m (kx + dB) → yPz f K gh C ic m (kx + dC)) (stA : ∀ (kx : Nat) (m : Int), yPz f K gh C ic m (kx + dC) → yPz f K gh A ia m (kx + dA)) :
    ∀ n : Nat, n ≤ 201 → yPz f K gh A ia (201 - n) (k * n + dA) ∧ (1 ≤ n → yPz f K gh B ib (201 - n) (k * n + dB) ∧ yPz f K gh C ic (201 - n) (k * n + dC)) := by
  intro n
  induction n with
  | zero =>
    refine fun _ => ⟨fun θ vs mem nc ns hQ hF => ?_, fun h => by omega⟩
    obtain ⟨-, v, v1, v2⟩ := hQ
    unfold yr200 at hA
    rw [List.any_eq_true] at hA
    obtain ⟨e, he, h⟩ := hA
    simp only [Bool.and_eq_true, zbe, zeq_iff] at h
    obtain ⟨w, w1, w2, w3⟩ := hF.2.2.1 e he
    rw [h.1.1, v1] at w1
    cases w1
    exfalso
    have : ((0 : Nat) : Int) = 0 := rfl
    omega
  | succ n ih =>
    intro hn
    obtain ⟨a, -⟩ := ih (by omega)
    have b := stB (k * (n + 1)) (201 - ((n + 1 : Nat) : Int)) (by
      rw [show (201 : Int) - ((n + 1 : Nat) : Int) + 1 = 201 - (n : Int) from by omega, show k * (n + 1) + (dA - k) = k * n + dA from by rw [Nat.mul_add]; omega]
      exact a)
    have c := stC _ _ b
    exact ⟨stA _ _ c, fun _ => ⟨b, c⟩⟩
theorem yPz_A {f : Nat → Option (Nat × Nat × (Nat → Value))} {K : List (Nat × yK)} {gh : yGh} {X : yKq} {ix d : Nat} (hX : yr200 X ix = true) (h : yPz f K gh X ix (201 - (201 : Nat)) d) :
    yCt (yEx f) yY K yNn (yPH gh) (yQd (ysd X d []).2.2.2) (ysd X d []).2.1.2.2.2.2.2.2 (ysd X d []).1 (ysd X d []).2.1 := by
  intro θ vs mem nc ns hQ hF hs hc hTM hP
  refine h θ vs mem nc ns ⟨hQ, ?_⟩ hF hs hc hTM hP
  unfold yr200 at hX
  rw [List.any_eq_true] at hX
  obtain ⟨e, he, h⟩ := hX
  simp only [Bool.and_eq_true, zbe, zeq_iff] at h
  obtain ⟨w, w1, w2, w3⟩ := hF.2.2.1 e he
  exact ⟨w, by rw [← h.1.1]; exact w1, by have : ((201 : Nat) : Int) = 201 := rfl
                                          omega⟩
