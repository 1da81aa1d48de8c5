/-! from the law's start to its loop, and so the law's end -/
section
def wlo (a b : zL) : Bool := b.all fun q => (match zld a q.1 with
  | some v => Nat.beq v.1 q.2.1 && Nat.beq v.2.1 q.2.2.1 && zeq v.2.2 q.2.2.2
  | none => false)
theorem wlo_ok {r : List Int} {ls : mLs} {a b : zL} (h : wlo a b = true) (hl : zls r ls a) {i : Nat} {v : zV} (hv : (i, v) ∈ b) : ∃ w, mld ls i = some w ∧ zvm r w v := by
  have := List.all_eq_true.mp h _ hv
  dsimp only at this
  split at this
  · rename_i v' e'
    simp only [Bool.and_eq_true, zbe, zeq_iff] at this
    obtain ⟨w, w1, w2⟩ := hl i v' e'
    have : v' = v := Prod.ext this.1.1 (Prod.ext this.1.2 this.2)
    rw [this] at w2
    exact ⟨w, w1, w2⟩
  · cases this
def wb0 : zL := [(0, (2, 1000, 0)), (1, (2, 0, 0)), (2, (2, 75, 0)), (3, (2, 84, 0)), (4, (1, 0, 0))]
def tS (s : w9zP) : Bool := Nat.beq s.1 23 && wlo s.2.1 wb0 && s.2.2.1.isEmpty && Nat.beq s.2.2.2.2.1.1 85 && tal (tcl s.2.2.2.2.1.2) 85 && tpr s.2.2.2.2.1.2 && tst s.2.2.2.2.1.2 && tzs s.2.2.2.2.1.2 tzl && Nat.ble s.2.2.2.2.2.1 1000 && Nat.ble s.2.2.2.2.2.2 100000
def zd00 : zC := .inr (0, [])
def zt00 : (n : Nat) → zT zC n
  | 0 => zd00
  | n + 1 => zp2 (zt00 n) (zt00 n)
def wso : zQ := fun _ => none
def wsc : zK := fun _ _ _ _ _ _ => none
def wgo : Option (List w9zP) := w9ygo yE0 wso 100000 wsc (fun pc => Nat.beq pc 23) 100000 1000 1000 300 zm_300 zm_300.2.2.2.2.1 0 [(0, (2, 1000, 0))] [] (1, [], [], []) (0, zt00 7) 0 0
def tS9 : Bool := match wgo with
  | some L => L.all tS
  | none => false
set_option maxRecDepth 1000000 in
theorem tS9_ok : tS9 = true := by decide +kernel
theorem yStart {f : Nat → Option (Nat × Nat × (Nat → Value))} {P : mRes → Prop} (k : ∀ ls m nc ns, yLI 0 ls m → nc ≤ 1000 → ns ≤ 100000 → mGd (yEx f) P 1000 300 23 ls [] m nc ns) : mGd (yEx f) P 1000 300 0 [(0, .ref 1000)] [] [] 0 0 := by
  have h := tS9_ok
  unfold tS9 at h
  split at h
  · rename_i Lo e
    rw [List.all_eq_true] at h
    unfold wgo at e
    have e9 : w9ygo (yEx f) wso 100000 wsc (fun pc => Nat.beq pc 23) 100000 1000 = w9ygo yE0 wso 100000 wsc (fun pc => Nat.beq pc 23) 100000 1000 := ygo_env 1000
    rw [← e9] at e
    refine w9ygo_ok (E := yEx f) (ro := wso) (dn := 100000) (con := wsc) (fun d mi args F w nc ns L _ h => by cases h) (fun mi M hM => zmt_sr9 hM) _ _ _ _ _ _ _ _ _ _ _ _ _ e rfl ⟨[], rfl⟩ [0] [(0, .ref 1000)] [] [] 0 0 P (fun p t n base es h => by cases h) ⟨rfl, rfl, fun e he => (by cases he), fun e he => (by cases he), fun e he => (by cases he)⟩ ?_ trivial ⟨rfl, Nat.zero_le _, fun p hp => absurd hp (Nat.not_lt_zero _)⟩ (Nat.le_refl _) (Nat.le_refl _) ?_
    · intro i a e
      have := zld_mem e
      simp only [List.mem_cons, Prod.mk.injEq, List.not_mem_nil, or_false] at this
      obtain ⟨rfl, rfl⟩ := this
      exact ⟨.ref 1000, by simp [mld], rfl⟩
    · intro s hs r' ls' st' mem' nc' ns' hx hp
      obtain ⟨p1, p2, p3, p4, p5, p6⟩ := hp
      have := h s hs
      unfold tS at this
      simp only [Bool.and_eq_true, Nat.ble_eq] at this
      obtain ⟨⟨⟨⟨⟨⟨⟨⟨⟨a1, a2⟩, a3⟩, a4⟩, a5⟩, a6⟩, a9⟩, a10⟩, a7⟩, a8⟩ := this
      have h0 : r'[0]? = some 0 := p3.2.1
      have hst : st' = [] := by
        rw [List.isEmpty_iff.mp a3] at p2
        cases st' with
        | nil => rfl
        | cons _ _ => exact p2.elim
      subst hst
      rw [zbe.mp a1]
      have ew : s.2.2.2.2.1 = (85, s.2.2.2.2.1.2) := Prod.ext (zbe.mp a4) rfl
      rw [ew] at p4
      have hT := tcl_ok h0 p4 a5
      obtain ⟨hP, h21⟩ := tpr_ok h0 p4 hT a6
      have hP : ∀ t ∈ yALS, yPH (0, 0) [0] mem' t := fun t ht => by
        rcases List.mem_cons.mp ht with rfl | ht
        · exact tst_ok h0 p4 hT a9
        · rcases List.mem_cons.mp ht with rfl | ht
          · exact (tst2 h0 p4 hT a10).2
          · exact hP t ht
      have rf : ∀ (k p : Nat), (k, ((2, p, 0) : zV)) ∈ wb0 → mld ls' k = some (.ref p) := fun k p hm => by
        obtain ⟨v, v1, v2⟩ := wlo_ok a2 p1 hm
        rw [v1, zvm_r v2 rfl]
      refine k ls' mem' nc' ns' ⟨rf 0 1000 (by decide), rf 1 0 (by decide), rf 2 75 (by decide), rf 3 84 (by decide), ?_, hT, hP, (tst2 h0 p4 hT a10).1⟩ (by omega) (by omega)
      obtain ⟨v, v1, v2⟩ := wlo_ok (i := 4) (v := (1, 0, 0)) a2 p1 (by decide)
      obtain ⟨x, rfl, hx9⟩ := zvm_i v2 rfl
      obtain ⟨u, u1, u2⟩ := zd_some.mp hx9
      have u1 : r'[0]? = some u := u1
      rw [h0] at u1
      cases u1
      exact ⟨x, v1, u2⟩
  · cases h
end
