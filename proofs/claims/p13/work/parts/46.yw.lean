/-! the other plain steps, by the first checker: the memory is as it was -/
def yc0 (c : yC) : zC := match c.1 with
  | 0 => .inr (c.2.1, List.replicate c.2.2.1 (0, 0, 0))
  | _ => .inl (c.2.1, c.2.2.1, [(c.2.2.1, 0, 0, 0)], [])
def ymp {α β : Type} (f : α → β) : (n : Nat) → zT α n → zT β n
  | 0, t => f t
  | n + 1, t => (ymp f n (show zT α n × zT α n from t).1, ymp f n (show zT α n × zT α n from t).2)
theorem ymp_g {α β : Type} (f : α → β) : ∀ (n : Nat) (t : zT α n) (i : Nat), ztg n (ymp f n t) i = f (ztg n t i)
  | 0, _, _ => rfl
  | n + 1, t, i => by
    unfold ztg ymp
    cases h : Nat.beq (Nat.mod i 2) 0 with
    | true => exact ymp_g f n _ _
    | false => exact ymp_g f n _ _
def yw0 (Y : zT yC 7) (N : Nat) : zW := (N, ymp yc0 7 Y)
theorem zlm_rep {r : List Int} : ∀ {fs : List Value}, zlm r fs (List.replicate fs.length (0, 0, 0))
  | [] => trivial
  | _ :: _ => ⟨trivial, zlm_rep⟩
theorem yw0_ok {r : List Int} {Y : zT yC 7} {K : List (Nat × yK)} {N : Nat} {mem : mMem} (hT : yTM Y K N mem) : zmm r mem (yw0 Y N) := by
  refine ⟨hT.1, hT.2.1, fun p hp => ?_⟩
  have hp : p < N := hp
  have hlt : p < mem.length := by rw [hT.1]; exact hp
  refine ⟨mem[p], List.getElem?_eq_getElem hlt, ?_⟩
  obtain ⟨s1, -⟩ := hT.2.2 p mem[p] (List.getElem?_eq_getElem hlt)
  show zcm r mem[p] (ztg 7 (ymp yc0 7 Y) p)
  rw [ymp_g]
  cases hm : mem[p] with
  | inl q =>
    obtain ⟨t, n, f⟩ := q
    rw [hm] at s1
    obtain ⟨e0, e1, e2⟩ := s1
    unfold yc0
    rw [e0, e1, e2]
    exact ⟨f, rfl, fun j hj => zbase0 hj trivial⟩
  | inr q =>
    obtain ⟨ci, fs⟩ := q
    rw [hm] at s1
    obtain ⟨e0, e1, e2⟩ := s1
    unfold yc0
    rw [e0, e1, e2]
    exact ⟨fs, rfl, zlm_rep⟩
theorem mdef_mem {nL : Nat} {q : mIns} {pc pc' : Nat} {ls ls' : mLs} {st st' : List Value} {mem mem' : mMem} (h : mdef nL q pc ls st mem = some (pc', ls', st', mem')) : mem' = mem := by
  unfold mdef at h
  repeat' split at h
  all_goals first | (cases h; done) | (cases h; rfl)
theorem mplain_memd {E : mEnv} {nL : Nat} {q : mIns} {pc pc' : Nat} {ls ls' : mLs} {st st' : List Value} {mem mem' : mMem} (hd : zisd q.2.1 = true) (h : mplain E nL q pc ls st mem = some (pc', ls', st', mem')) : mem' = mem := by
  rw [zisd_ok hd] at h
  exact mdef_mem h
theorem mplain_memc {E : mEnv} {nL : Nat} {q : mIns} {pc pc' : Nat} {ls ls' : mLs} {st st' : List Value} {mem mem' : mMem} (hd : zisc q.2.1 = true) (h : mplain E nL q pc ls st mem = some (pc', ls', st', mem')) : mem' = mem := by
  unfold mplain at h
  generalize hi : q.2.1 = i at h hd
  cases i <;> first | (cases hd; done) | skip
  all_goals
    simp only at h
    repeat' split at h
    all_goals first | (cases h; done) | (cases h; rfl) | (simp only [Option.map_eq_some_iff] at h; obtain ⟨t, -, e⟩ := h; cases e; rfl)
def yisq (i : Instr) : Bool := match i with
  | .ifCond _ _ | .if_icmp _ _ | .lookupswitch _ _ => true
  | _ => false
def ysp (k0 : Nat) (ft : Nat → List FieldType) (ro : yQ) (Y : zT yC 7) (K : List (Nat × yK)) (N : Nat) (mods : List (Nat × Nat × Nat)) (nL : Nat) (q : mIns) (pc : Nat) (ls : zL) (st : List zV) (F : zF) (es : List yE) : Option (List yO) :=
  bif yism q.2.1 then yme ft ro Y K N mods q pc ls st F es else
  bif !(Nat.beq (zon q.2.1) 0) then yac k0 q pc ls st F es else
  bif yisq q.2.1 then ycn k0 q pc ls st F es else
  match (bif zisd q.2.1 then zdf nL q pc ls st F (yw0 Y N) else bif zisc q.2.1 then zct nL q pc ls st F (yw0 Y N) else none) with
  | some L => some (L.map fun o => (o.1, o.2.1, o.2.2.1, o.2.2.2.1, es))
  | none => none
theorem ysp_ok {E : mEnv} {r : List Int} {ro : yQ} {k0 nL pc : Nat} {q : mIns} {ls : mLs} {als : zL} {st : List Value} {ast : List zV} {mem m0 : mMem} {F : zF} {es : List yE} {Y : zT yC 7} {K : List (Nat × yK)} {N : Nat} {mods : List (Nat × Nat × Nat)} {L : List yO}
    (hr : yRo E r ro) (hF : zFok r F) (hl : zls r ls als) (hs : zlm r st ast) (hT : yTM Y K N mem) (hc : ych E r m0 es mem) (h : ysp k0 E.2.1 ro Y K N mods nL q pc als ast F es = some L) : ySt E Y K N mods r m0 nL q pc ls st mem L := by
  unfold ysp at h
  cases c1 : yism q.2.1 with
  | true => rw [c1] at h; exact yme_ok hr hF hl hs hT hc h
  | false =>
    rw [c1] at h
    simp only [cond_false] at h
    cases c2 : Nat.beq (zon q.2.1) 0 with
    | false => rw [c2] at h; exact yac_ok c2 hF hl hs hT hc h
    | true =>
      rw [c2] at h
      simp only [Bool.not_true, cond_false] at h
      cases c3 : yisq q.2.1 with
      | true => rw [c3] at h; exact ycn_ok hF hl hs hT hc h
      | false =>
        rw [c3] at h
        simp only [cond_false] at h
        have fin : ∀ L', zSt E r nL q pc ls st mem L' → (∀ pc' ls' st' mem', mplain E nL q pc ls st mem = some (pc', ls', st', mem') → mem' = mem) → some (L'.map fun o => (o.1, o.2.1, o.2.2.1, o.2.2.2.1, es)) = some L → ySt E Y K N mods r m0 nL q pc ls st mem L := by
          intro L' hz hm e
          cases e
          obtain ⟨pc', ls', st', mem', r', g1, g2, o, ho, h1, h2, h3, h4, h5⟩ := hz
          have := hm _ _ _ _ g1
          subst this
          exact ⟨pc', ls', st', mem', r', g1, g2, hT, fun _ _ _ => rfl, _, List.mem_map_of_mem ho, h1, h2, h3, h4, hc.ex g2⟩
        cases c4 : zisd q.2.1 with
        | true =>
          rw [c4] at h
          simp only [cond_true] at h
          split at h
          · rename_i L' e
            exact fin L' (zdf_ok c4 hF hl hs (yw0_ok hT) e) (fun _ _ _ _ e => mplain_memd c4 e) h
          · cases h
        | false =>
          rw [c4] at h
          simp only [cond_false] at h
          cases c5 : zisc q.2.1 with
          | true =>
            rw [c5] at h
            simp only [cond_true] at h
            split at h
            · rename_i L' e
              exact fin L' (zct_ok hF hl hs (yw0_ok hT) e) (fun _ _ _ _ e => mplain_memc c5 e) h
            · cases h
          | false => rw [c5] at h; cases h
