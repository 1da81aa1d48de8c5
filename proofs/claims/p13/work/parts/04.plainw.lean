/-- what the links of an instruction must be -/
def mLk (G : List Cond) (cl : List vw_C) (X : mTkP) (own : String) (init : Bool) (q : mIns) : Prop := match q.2.1 with
  | .getfield idx => ∃ (C : String) (T : u_T) (N : Nat), cl[q.2.2.2.2.1]? = some (C, T, N) ∧ q.2.2.2.2.2.1 < N ∧ Cond.fieldLink own idx (T q.2.2.2.2.2.1).1 (T q.2.2.2.2.2.1).2.1 (T q.2.2.2.2.2.1).2.2.1 ∈ G
  | .putfield idx => ∃ (C : String) (T : u_T) (N : Nat), cl[q.2.2.2.2.1]? = some (C, T, N) ∧ q.2.2.2.2.2.1 < N ∧ Cond.fieldLink own idx (T q.2.2.2.2.2.1).1 (T q.2.2.2.2.2.1).2.1 (T q.2.2.2.2.2.1).2.2.1 ∈ G ∧ ((T q.2.2.2.2.2.1).2.2.2 = false ∨ ((T q.2.2.2.2.2.1).2.2.2 = true ∧ init = true ∧ (T q.2.2.2.2.2.1).1 = own))
  | .getstatic idx => ∃ z : String × String × String × Value, z ∈ X.1 ∧ Cond.fieldLink own idx z.1 z.2.1 z.2.2.1 ∈ G ∧ z.2.2.2 = (if q.2.2.2.1 = 0 then .ref q.2.2.2.2.1 else .long (Int64.ofInt q.2.2.2.2.2.2))
  | .ldc idx => (q.2.2.2.1 = 0 ∧ Cond.constant own idx (Int32.ofInt q.2.2.2.2.2.2) ∈ G) ∨ (q.2.2.2.1 ≠ 0 ∧ ∃ tx : String, (own, idx, tx, q.2.2.2.2.1) ∈ X.2.1)
  | .ldc_w idx => q.2.2.2.1 = 0 ∧ Cond.constant own idx (Int32.ofInt q.2.2.2.2.2.2) ∈ G
  | .ldc2_w idx => Cond.constantLong own idx (Int64.ofInt q.2.2.2.2.2.2) ∈ G
  | .newarray t => Cond.arrayClass (newarray.typeOf t) ∈ G
  | .new idx => ∃ (C : String) (T : u_T) (N : Nat), cl[q.2.2.2.2.1]? = some (C, T, N) ∧ Cond.classLink own idx C ∈ G ∧ Cond.instantiable C N ∈ G ∧ Cond.initialized C ∈ G
  | _ => True
/-- what the classes' tables must be -/
def mCl (G : List Cond) (cl : List vw_C) (E : mEnv) : Prop := ∀ (ci : Nat) (C : String) (T : u_T) (N : Nat), cl[ci]? = some (C, T, N) → (∀ w ∈ u_ws C T N, w ∈ G) ∧ (E.2.1 ci).length = N ∧ (∀ k, k < N → parseFieldDescriptor (T k).2.2.1 = (E.2.1 ci)[k]?) ∧ (∀ a, a < N → ∀ b, b < N → a ≠ b → (T a).2.1 ≠ (T b).2.1)
section MPW
variable {p : Program} {l : Launch} {e : Env} {R : Room} {s : State} {m : MethodId} {args : Array Value} {below : List Frame} {meth : Method} {c : Code} {H : Heap} {locs : List Loc} {cells slots : Nat} {Q : State → Prop}
variable {cc : ByteArray} {pc : Nat} {lsA : Array Slot} {D : va_G} {cl : List vw_C} {A : Nat → Prop} {H0 : Heap} {G : List Cond} {X : mTkP} {E : mEnv} {ad : Nat → Nat} {cid : Nat → ClassId} {own : String} {nL : Nat}
theorem mpush_W (hx : p.tables.exec = Jvm.exec) (hb : c.code = cc) (hown : s.vm.findClass own = some m.cls) (hG : ∀ w ∈ G, w.before args s = true) (hT : mTk ad A E X s s.heap) (hS : va_S A s.heap H locs)
    {q : mIns} {init : Bool} (hlk : mLk G cl X own init q) (hd : decode cc pc = .ok (q.2.1, q.2.2.1)) {v : Value} {k : Nat} (h : mpush q = some (v, k)) (hlen : q.2.2.1 = k) {rest : List Value}
    (kk : W p l e R s m args below meth c H locs cells slots Q (F0 m (pc + k) lsA (mcv1 ad v :: rest))) : W p l e R s m args below meth c H locs cells slots Q (F0 m pc lsA rest) := by
  obtain ⟨p0, i, len, k0, ka, kb, kv⟩ := q
  dsimp only at hlk hd hlen
  subst hlen
  cases i <;> simp only [mpush] at h <;> try (cases h; done)
  case iconst n => cases h; exact lv_iconst hx hb hd rfl kk
  case bipush n => cases h; exact lv_bipush hx hb hd rfl kk
  case sipush n => cases h; exact lv_sipush hx hb hd rfl kk
  case lconst n => cases h; exact lv_lconst hx hb hd rfl kk
  case ldc idx =>
    simp only [mLk] at hlk
    rcases hlk with ⟨h0, h1⟩ | ⟨h0, tx, h1⟩
    · rw [if_pos h0] at h
      cases h
      exact lv_ldc hx hb hown (hG _ h1) hd kk
    · rw [if_neg h0] at h
      cases h
      exact va_ldcS hx hb hown (hT.2.2.1 _ h1) hd kk
  case ldc_w idx =>
    simp only [mLk] at hlk
    obtain ⟨h0, h1⟩ := hlk
    rw [if_pos h0] at h
    cases h
    exact lv_ldcw hx hb hown (hG _ h1) hd kk
  case ldc2_w idx =>
    simp only [mLk] at hlk
    cases h
    exact lv_ldc2 hx hb hown (hG _ hlk) hd kk
  case getstatic idx =>
    simp only [mLk] at hlk
    obtain ⟨z, hz, h1, h2⟩ := hlk
    have hZ := hT.1 z hz
    rw [h2] at hZ
    by_cases h0 : k0 = 0
    · rw [if_pos h0] at h hZ
      cases h
      exact va_gets hx hb hZ hS hown (hG _ h1) (fun _ q => q) hd kk
    · rw [if_neg h0] at h hZ
      cases h
      exact va_gets hx hb hZ hS hown (hG _ h1) (fun _ q => q) hd kk
theorem mkind_cv {k : Nat} {v : Value} (h : mkind k v = true) : (k = 0 ∧ ∃ x, v = .int x) ∨ (k = 1 ∧ ∃ x, v = .long x) ∨ (k = 2 ∧ ∃ x, v = .ref x) := by
  cases v <;> simp [mkind] at h <;> simp [h]
theorem mload_W (hx : p.tables.exec = Jvm.exec) (hb : c.code = cc) {i : Instr} {len : Nat} (hd : decode cc pc = .ok (i, len)) {j kd k : Nat} (h : mload i = some (j, kd, k)) (hlen : len = k) {v : Value} (hk : mkind kd v = true) {rest : List Value}
    (hl : lsA[j]? = some (.val (mcv1 ad v))) (kk : W p l e R s m args below meth c H locs cells slots Q (F0 m (pc + k) lsA (mcv1 ad v :: rest))) : W p l e R s m args below meth c H locs cells slots Q (F0 m pc lsA rest) := by
  subst hlen
  cases i <;> simp only [mload] at h <;> try (cases h; done)
  case iload_n n =>
    cases h
    rcases mkind_cv hk with ⟨-, x, rfl⟩ | ⟨h1, -⟩ | ⟨h1, -⟩
    · exact lv_iload_n hx hb hd rfl hl kk
    · cases h1
    · cases h1
  case iload n =>
    cases h
    rcases mkind_cv hk with ⟨-, x, rfl⟩ | ⟨h1, -⟩ | ⟨h1, -⟩
    · exact lv_iload hx hb hd hl kk
    · cases h1
    · cases h1
  case lload_n n =>
    cases h
    rcases mkind_cv hk with ⟨h1, -⟩ | ⟨-, x, rfl⟩ | ⟨h1, -⟩
    · cases h1
    · exact lv_lload_n hx hb hd rfl hl kk
    · cases h1
  case lload n =>
    cases h
    rcases mkind_cv hk with ⟨h1, -⟩ | ⟨-, x, rfl⟩ | ⟨h1, -⟩
    · cases h1
    · exact lv_lload hx hb hd hl kk
    · cases h1
  case aload_n n =>
    cases h
    rcases mkind_cv hk with ⟨h1, -⟩ | ⟨h1, -⟩ | ⟨-, x, rfl⟩
    · cases h1
    · cases h1
    · exact lv_aload_n hx hb hd rfl hl kk
  case aload n =>
    cases h
    rcases mkind_cv hk with ⟨h1, -⟩ | ⟨h1, -⟩ | ⟨-, x, rfl⟩
    · cases h1
    · cases h1
    · exact lv_aload hx hb hd hl kk
theorem mstore_W (hx : p.tables.exec = Jvm.exec) (hb : c.code = cc) {i : Instr} {len : Nat} (hd : decode cc pc = .ok (i, len)) {j kd k : Nat} (h : mstore i = some (j, kd, k)) (hlen : len = k) {v : Value} (hk : mkind kd v = true) (hj : j + 1 < nL ∨ (j < nL ∧ kd ≠ 1)) {rest : List Value} {ls : mLs}
    (hl : lv_has lsA nL (mcvL ad ls)) (kk : ∀ ls1 : Array Slot, lv_has ls1 nL (mcvL ad (if kd = 1 then mst2 ls j v else mst1 ls j v)) → W p l e R s m args below meth c H locs cells slots Q (F0 m (pc + k) ls1 rest)) : W p l e R s m args below meth c H locs cells slots Q (F0 m pc lsA (mcv1 ad v :: rest)) := by
  subst hlen
  have hj1 : j < nL := by omega
  cases i <;> simp only [mstore] at h <;> try (cases h; done)
  case istore_n n =>
    cases h
    rcases mkind_cv hk with ⟨-, x, rfl⟩ | ⟨h1, -⟩ | ⟨h1, -⟩
    · exact lv_istore_n hx hb hd rfl hl hj1 rfl (fun ls1 h1 => kk ls1 (by show lv_has ls1 nL (mcvL ad (mst1 ls _ (.int x))); rw [mst1_cv]; exact h1))
    · cases h1
    · cases h1
  case istore n =>
    cases h
    rcases mkind_cv hk with ⟨-, x, rfl⟩ | ⟨h1, -⟩ | ⟨h1, -⟩
    · exact lv_istore hx hb hd hl hj1 rfl (fun ls1 h1 => kk ls1 (by show lv_has ls1 nL (mcvL ad (mst1 ls _ (.int x))); rw [mst1_cv]; exact h1))
    · cases h1
    · cases h1
  case lstore_n n =>
    cases h
    rcases mkind_cv hk with ⟨h1, -⟩ | ⟨-, x, rfl⟩ | ⟨h1, -⟩
    · cases h1
    · exact lv_lstore_n hx hb hd rfl hl (hj.elim id (fun q => absurd rfl q.2)) rfl (fun ls1 h1 => kk ls1 (by show lv_has ls1 nL (mcvL ad (mst2 ls _ (.long x))); rw [mst2_cv]; exact h1))
    · cases h1
  case lstore n =>
    cases h
    rcases mkind_cv hk with ⟨h1, -⟩ | ⟨-, x, rfl⟩ | ⟨h1, -⟩
    · cases h1
    · exact lv_lstore hx hb hd hl (hj.elim id (fun q => absurd rfl q.2)) rfl (fun ls1 h1 => kk ls1 (by show lv_has ls1 nL (mcvL ad (mst2 ls _ (.long x))); rw [mst2_cv]; exact h1))
    · cases h1
  case astore_n n =>
    cases h
    rcases mkind_cv hk with ⟨h1, -⟩ | ⟨h1, -⟩ | ⟨-, x, rfl⟩
    · cases h1
    · cases h1
    · exact lv_astore_n hx hb hd rfl hl hj1 rfl (fun ls1 h1 => kk ls1 (by show lv_has ls1 nL (mcvL ad (mst1 ls _ (.ref x))); rw [mst1_cv]; exact h1))
  case astore n =>
    cases h
    rcases mkind_cv hk with ⟨h1, -⟩ | ⟨h1, -⟩ | ⟨-, x, rfl⟩
    · cases h1
    · cases h1
    · exact lv_astore hx hb hd hl hj1 rfl (fun ls1 h1 => kk ls1 (by show lv_has ls1 nL (mcvL ad (mst1 ls _ (.ref x))); rw [mst1_cv]; exact h1))
theorem mbin_W (hx : p.tables.exec = Jvm.exec) (hb : c.code = cc) {i : Instr} {len : Nat} (hd : decode cc pc = .ok (i, len)) {x y z : Int32} (h : mbin i x y = some z) (hlen : len = 1) {rest : List Value}
    (kk : W p l e R s m args below meth c H locs cells slots Q (F0 m (pc + 1) lsA (.int z :: rest))) : W p l e R s m args below meth c H locs cells slots Q (F0 m pc lsA (.int y :: .int x :: rest)) := by
  subst hlen
  cases i <;> simp only [mbin] at h <;> try (cases h; done)
  case iadd => cases h; exact lv_iadd hx hb hd kk
  case isub => cases h; exact lv_isub hx hb hd kk
  case imul => cases h; exact lv_imul hx hb hd kk
  case iand => cases h; exact lv_iand hx hb hd kk
  case ior => cases h; exact lv_ior hx hb hd kk
  case ixor => cases h; exact lv_ixor hx hb hd kk
  case ishl => cases h; exact lv_ishl hx hb hd kk
  case ishr => cases h; exact lv_ishr hx hb hd kk
  case iushr => cases h; exact lv_iushr hx hb hd rfl kk
  case idiv =>
    split at h
    · cases h
    · rename_i hne
      cases h
      exact lv_idiv hx hb hd hne kk
  case irem =>
    split at h
    · cases h
    · rename_i hne
      cases h
      exact lv_irem hx hb hd hne kk
theorem mbinL_W (hx : p.tables.exec = Jvm.exec) (hb : c.code = cc) {i : Instr} {len : Nat} (hd : decode cc pc = .ok (i, len)) {x y z : Int64} (h : mbinL i x y = some z) (hlen : len = 1) {rest : List Value}
    (kk : W p l e R s m args below meth c H locs cells slots Q (F0 m (pc + 1) lsA (.long z :: rest))) : W p l e R s m args below meth c H locs cells slots Q (F0 m pc lsA (.long y :: .long x :: rest)) := by
  subst hlen
  cases i <;> simp only [mbinL] at h <;> try (cases h; done)
  case ladd => cases h; exact lv_ladd hx hb hd kk
  case lsub => cases h; exact lv_lsub hx hb hd kk
  case lmul => cases h; exact lv_lmul hx hb hd kk
  case land => cases h; exact lv_land hx hb hd kk
  case lor => cases h; exact lv_lor hx hb hd kk
theorem mun_W (hx : p.tables.exec = Jvm.exec) (hb : c.code = cc) {i : Instr} {len : Nat} (hd : decode cc pc = .ok (i, len)) {x z : Int32} (h : mun i x = some z) (hlen : len = 1) {rest : List Value}
    (kk : W p l e R s m args below meth c H locs cells slots Q (F0 m (pc + 1) lsA (.int z :: rest))) : W p l e R s m args below meth c H locs cells slots Q (F0 m pc lsA (.int x :: rest)) := by
  subst hlen
  cases i <;> simp only [mun] at h <;> try (cases h; done)
  case ineg => cases h; exact lv_ineg hx hb hd kk
  case i2b => cases h; exact lv_i2b hx hb hd rfl kk
  case i2c => cases h; exact lv_i2c hx hb hd rfl kk
theorem mcond_W (hx : p.tables.exec = Jvm.exec) (hb : c.code = cc) {co : Jvm.ClassFile.Cond} {off : Int} {t : Nat} (hd : decode cc pc = .ok (.if_icmp co off, 3)) (ht : (pc : Int) + off = (t : Int)) {x y : Int32} {rest : List Value}
    (kt : mcond co x y = true → W p l e R s m args below meth c H locs cells slots Q (F0 m t lsA rest)) (kf : mcond co x y = false → W p l e R s m args below meth c H locs cells slots Q (F0 m (pc + 3) lsA rest)) : W p l e R s m args below meth c H locs cells slots Q (F0 m pc lsA (.int y :: .int x :: rest)) := by
  cases co <;> simp only [mcond, decide_eq_true_eq, decide_eq_false_iff_not, Bool.not_eq_true', Bool.not_eq_false'] at kt kf
  · exact lv_icmp_eq hx hb hd ht kt kf
  · exact lv_icmp_ne hx hb hd ht kt kf
  · exact lv_icmp_lt hx hb hd ht kt kf
  · exact lv_icmp_ge hx hb hd ht kt kf
  · exact lv_icmp_gt hx hb hd ht kt kf
  · exact lv_icmp_le hx hb hd ht kt kf
theorem mcond0_W (hx : p.tables.exec = Jvm.exec) (hb : c.code = cc) {co : Jvm.ClassFile.Cond} {off : Int} {t : Nat} (hd : decode cc pc = .ok (.ifCond co off, 3)) (ht : (pc : Int) + off = (t : Int)) {x : Int32} {rest : List Value}
    (kt : mcond co x 0 = true → W p l e R s m args below meth c H locs cells slots Q (F0 m t lsA rest)) (kf : mcond co x 0 = false → W p l e R s m args below meth c H locs cells slots Q (F0 m (pc + 3) lsA rest)) : W p l e R s m args below meth c H locs cells slots Q (F0 m pc lsA (.int x :: rest)) := by
  cases co <;> simp only [mcond, decide_eq_true_eq, decide_eq_false_iff_not, Bool.not_eq_true', Bool.not_eq_false'] at kt kf
  · exact lv_if_eq hx hb hd ht kt kf
  · exact lv_if_ne hx hb hd ht kt kf
  · exact lv_if_lt hx hb hd ht kt kf
  · exact lv_if_ge hx hb hd ht kt kf
  · exact lv_if_gt hx hb hd ht kt kf
  · exact lv_if_le hx hb hd ht kt kf
end MPW
