/-! A TABLE OF CONTRACTS -/
section
variable {gh : yGh}
/-- method, contract, what must be so at the call: of the caller's first symbols and the callee's; of the callee's alone -/
abbrev yKq : Type := Nat × yKt × List (Nat × Nat × Int) × List (Nat × Nat × Int)
/-- the symbol i of the method that calls, and s more, is at most the callee's j -/
def ygd (g : List (Nat × Nat × Int)) (F : zF) (th : List zV) : Bool := g.all fun q => match ynt th q.2.1 with
  | some a => yle 2 F (1, q.1, q.2.2) a
  | none => false
def yge2 (g : List (Nat × Nat × Int)) (F : zF) (th : List zV) : Bool := g.all fun q => match ynt th q.1, ynt th q.2.1 with
  | some a, some b => yle 2 F (zsh a q.2.2) b
  | _, _ => false
def yQd (dl : List (Nat × Nat × Int)) (r : List Int) : Prop := ∀ q ∈ dl, ∃ u v, r[q.1]? = some u ∧ r[q.2.1]? = some v ∧ u + q.2.2 ≤ v
theorem yQd.ex {dl : List (Nat × Nat × Int)} {r r' : List Int} (hx : zX r r') (h : yQd dl r) : yQd dl r' := fun q hq => by
  obtain ⟨u, v, a, b, e⟩ := h q hq
  exact ⟨u, v, hx.get a, hx.get b, e⟩
theorem yge2_ok {g : List (Nat × Nat × Int)} {r θ : List Int} {F : zF} {th : List zV} (hF : zFok r F) (h : yge2 g F th = true) (hθ : ∀ (k : Nat) (a : zV), th[k]? = some a → ∃ x, zd r a = some x ∧ θ[k]? = some x) : yQd g θ := by
  intro q hq
  have := List.all_eq_true.mp h q hq
  split at this
  · rename_i a b ea eb
    rw [ynt_eq] at ea eb
    obtain ⟨x, x1, x2⟩ := hθ _ _ ea
    obtain ⟨y, y1, y2⟩ := hθ _ _ eb
    exact ⟨x, y, x2, y2, yle_ok hF 2 (zsh_d x1) y1 this⟩
  · cases this
/-- the callee's symbol is as great as the caller's, and s -/
theorem ygd_ok {i j : Nat} {s : Int} {r r1 θ : List Int} {F : zF} {th : List zV} (hF : zFok r1 F) (hx : zX r r1) (h : ygd [(i, j, s)] F th = true) (hθ : ∀ (k : Nat) (a : zV), th[k]? = some a → ∃ x, zd r1 a = some x ∧ θ[k]? = some x) {u : Int} (hu : r[i]? = some u) : ∃ v, θ[j]? = some v ∧ u + s ≤ v := by
  have := List.all_eq_true.mp h (i, j, s) List.mem_cons_self
  split at this
  · rename_i a ea
    rw [ynt_eq] at ea
    obtain ⟨x, x1, x2⟩ := hθ _ _ ea
    exact ⟨x, x2, yle_ok hF 2 (zd_some.mpr ⟨u, hx.get hu, rfl⟩) x1 this⟩
  · cases this
def ymo (mods : List (Nat × Nat × Nat)) (l : List (Nat × Nat × Nat)) : Bool := l.all fun q => mods.any fun w => Nat.beq w.1 q.1 && Nat.ble w.2.1 q.2.1 && Nat.ble q.2.2 w.2.2
theorem ymo_ok {mods l : List (Nat × Nat × Nat)} {m m' : mMem} (h : ymo mods l = true) (hf : yFr l m m') : yFr mods m m' := by
  intro p j hn
  refine hf p j fun ⟨q, hq, q1, q2, q3⟩ => hn ?_
  have := List.all_eq_true.mp h q hq
  rw [List.any_eq_true] at this
  obtain ⟨w, w1, w2⟩ := this
  simp only [Bool.and_eq_true, Nat.ble_eq, zbe] at w2
  exact ⟨w, w1, by omega, by omega, by omega⟩
def yar9 : List zV → List yKa → Bool
  | [], [] => true
  | a :: as, q :: qs => (bif Nat.beq q.1 2 then Nat.beq a.1 2 && Nat.beq a.2.1 q.2.1 else true) && yar9 as qs
  | _, _ => false
def yktc (k0 : Nat) (Y : zT yC 7) (K : List (Nat × yK)) (N : Nat) (mods : List (Nat × Nat × Nat)) : List yKq → yCo
  | [], _, _, _, _, _, _ => none
  | q :: T, d, mi, args, F, es, P => bif Nat.beq q.1 mi && Nat.ble q.2.1.2.2.2.2.2.2 d && yar9 args q.2.1.1 && ymo mods q.2.1.2.2.2.1 then
      (match ycu k0 Y K N (ysy Y N) yfd (fun F th => ygd q.2.2.1 F th && yge2 q.2.2.2 F th) q.2.1 args F es P with
      | some L => some L
      | none => yktc k0 Y K N mods T d mi args F es P)
    else yktc k0 Y K N mods T d mi args F es P
theorem yktc_ok {E : mEnv} {k0 : Nat} {Y : zT yC 7} {K : List (Nat × yK)} {N : Nat} {mods : List (Nat × Nat × Nat)} {RI : List Int → Prop} {kx : Nat} : ∀ {T : List yKq},
    (∀ q ∈ T, ∃ Q, yCt E Y K N (yPH gh) Q (kx + q.2.1.2.2.2.2.2.2) q.1 q.2.1 ∧ ∀ r r1 θ F1 th, RI r → zX r r1 → zFok r1 F1 → (ygd q.2.2.1 F1 th && yge2 q.2.2.2 F1 th) = true → (∀ (k : Nat) (a : zV), th[k]? = some a → ∃ x, zd r1 a = some x ∧ θ[k]? = some x) → Q θ) →
    yCon E Y K N (yPH gh) RI mods kx (yktc k0 Y K N mods T)
  | [], _ => fun d mi args F es P L h => by cases h
  | q :: T, hT => by
    intro d mi args F es P L h r vs m0 mem nc ns hr hok hs
    have ih := yktc_ok (k0 := k0) (mods := mods) (RI := RI) (T := T) fun q hq => hT q (List.mem_cons_of_mem _ hq)
    unfold yktc at h
    cases c : (Nat.beq q.1 mi && Nat.ble q.2.1.2.2.2.2.2.2 d && yar9 args q.2.1.1 && ymo mods q.2.1.2.2.2.1) with
    | false => rw [c] at h; exact ih d mi args F es P L h r vs m0 mem nc ns hr hok hs
    | true =>
      rw [c] at h
      simp only [cond_true] at h
      simp only [Bool.and_eq_true, Nat.ble_eq, zbe] at c
      obtain ⟨⟨⟨c1, c2⟩, -⟩, c4⟩ := c
      split at h
      · rename_i L' e
        cases h
        obtain ⟨Q, q1, q2⟩ := hT q List.mem_cons_self
        subst c1
        obtain ⟨n, res, g1, g2, g3⟩ := ycu_ok (PH := yPH gh) (nc := nc) (ns := ns) (fun r r' m t hx hp => yPH_X hx hp) (fun r r' m t u h1 h2 h3 => yPH_q h1 h2 h3) ysy_ok (fun r m m' t mods h1 h2 h3 => yfd_ok h1 h2 h3) q1 e (fun r1 θ F1 th => q2 r r1 θ F1 th hr) hok hs
        refine ⟨n, res, ?_, ymo_ok c4 g2, g3⟩
        rw [show kx + d = kx + q.2.1.2.2.2.2.2.2 + (d - q.2.1.2.2.2.2.2.2) from by omega]
        exact mrun_dmono E _ _ _ _ _ _ _ _ _ _ _ g1
      · exact ih d mi args F es P L h r vs m0 mem nc ns hr hok hs
end
