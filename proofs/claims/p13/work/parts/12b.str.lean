/-! A TEXT CONSTANT: what the machine itself answers for length() and charAt() -/
section
def sJ : String := "java/lang/String"
def sL1 : String := "java/lang/StringLatin1"
def sPn : String := "jdk/internal/util/Preconditions"
def sBF : String := "Ljava/util/function/BiFunction;"
def sy_len : MethodName := ⟨"java/lang/String", "length", "()I"⟩
def sy_cod : MethodName := ⟨"java/lang/String", "coder", "()B"⟩
def sy_isl : MethodName := ⟨"java/lang/String", "isLatin1", "()Z"⟩
def sy_cha : MethodName := ⟨"java/lang/String", "charAt", "(I)C"⟩
def sy_lat : MethodName := ⟨"java/lang/StringLatin1", "charAt", "([BI)C"⟩
def sy_chk : MethodName := ⟨"java/lang/String", "checkIndex", "(II)V"⟩
def sy_pre : MethodName := ⟨"jdk/internal/util/Preconditions", "checkIndex", "(IILjava/util/function/BiFunction;)I"⟩
def sw_cod : List Cond := [.code sy_cod prog_23_method_152_code 1 (some .byte), .fieldLink "java/lang/String" 38 "java/lang/String" "COMPACT_STRINGS" "Z", .fieldLink "java/lang/String" 15 "java/lang/String" "coder" "B"]
def sw_isl : List Cond := [.code sy_isl prog_23_method_154_code 1 (some .boolean), .fieldLink "java/lang/String" 38 "java/lang/String" "COMPACT_STRINGS" "Z", .fieldLink "java/lang/String" 15 "java/lang/String" "coder" "B"]
def sw_len : List Cond := .code sy_len prog_23_method_54_code 1 (some .int) :: .fieldLink "java/lang/String" 9 "java/lang/String" "value" "[B" :: wsV "java/lang/String" 335 "java/lang/String" sy_cod sw_cod
def sw_pre : List Cond := [.code sy_pre prog_32_method_11_code 3 (some .int)]
def sw_chk : List Cond := .code sy_chk prog_23_method_155_code 2 none :: .fieldLink "java/lang/String" 1053 "jdk/internal/util/Preconditions" "SIOOBE_FORMATTER" "Ljava/util/function/BiFunction;" :: va_wsS "java/lang/String" 1059 sy_pre sw_pre
def sw_lat : List Cond := .code sy_lat prog_24_method_2_code 2 (some .char) :: va_wsS "java/lang/StringLatin1" 9 sy_chk sw_chk
def sw_cha : List Cond := .code sy_cha prog_23_method_56_code 2 (some .char) :: .fieldLink "java/lang/String" 9 "java/lang/String" "value" "[B" :: (wsV "java/lang/String" 492 "java/lang/String" sy_isl sw_isl ++ va_wsS "java/lang/String" 495 sy_lat sw_lat)
theorem sgood {big ws : List Cond} (h : ws.all goodWord = true) (hm : ∀ w ∈ ws, w ∈ big) : GoodIn big ws := fun w hw => ⟨hm w hw, good_of_word (List.all_eq_true.mp h w hw)⟩
theorem sg_cod : GoodIn sw_len (wsV "java/lang/String" 335 "java/lang/String" sy_cod sw_cod) := sgood (by decide +kernel) fun w hw => List.mem_cons_of_mem _ (List.mem_cons_of_mem _ hw)
theorem sg_pre : GoodIn sw_chk (va_wsS "java/lang/String" 1059 sy_pre sw_pre) := sgood (by decide +kernel) fun w hw => List.mem_cons_of_mem _ (List.mem_cons_of_mem _ hw)
theorem sg_chk : GoodIn sw_lat (va_wsS "java/lang/StringLatin1" 9 sy_chk sw_chk) := sgood (by decide +kernel) fun w hw => List.mem_cons_of_mem _ hw
theorem sg_isl : GoodIn sw_cha (wsV "java/lang/String" 492 "java/lang/String" sy_isl sw_isl) := sgood (by decide +kernel) fun w hw => List.mem_cons_of_mem _ (List.mem_cons_of_mem _ (List.mem_append_left _ hw))
theorem sg_lat : GoodIn sw_cha (va_wsS "java/lang/String" 495 sy_lat sw_lat) := sgood (by decide +kernel) fun w hw => List.mem_cons_of_mem _ (List.mem_cons_of_mem _ (List.mem_append_right _ hw))
def sNo : Nat → Prop := fun _ => False
abbrev sRm (k n : Nat) : Room := { frames := k, cells := 0, slots := 0, locals := n }
/-- coder() -/
theorem sc_cod (l : Launch) (q n : Nat) (f : Nat → Value) : Met l sy_cod sw_cod (sRm 0 0) (va_Pc [.ref q] (fun U => vStr q n f sNo U U.heap)) (QcRead 0) 0 0 (fun _ => False) := by
  refine Met.ofW (cc := prog_23_method_152_code) (maxL := 1) (ret := some .byte) (by decide) rfl ?_
  intro p e s m args below meth c s₁ B hml hv
  obtain ⟨rfl, hE⟩ := hv
  have hx := B.exec
  have hb := B.bytes
  have hr := B.returns
  have hts := atoms_spec (ws := sw_cod) B.pre
  have hown : s.vm.findClass "java/lang/String" = some m.cls := findClass_of_methodNamed B.named
  have hlocks := B.notSynchronized
  have hS : va_S sNo s.heap s.heap [] := va_S.rf
  have hl := lv_entry ([.ref q]) (n := 1) (Nat.le_of_ble_eq_true rfl)
  rw [lg_entry_eq]
  generalize (lg_sl ([.ref q]) ++ List.replicate (1 - (lg_sl ([.ref q])).length) Slot.unset).toArray = ls at hl ⊢
  have hl : lv_has ls 1 [(0, .ref q)] := hl
  obtain ⟨hn, hf, hO, hC, ⟨v, hV, hT⟩, hZ, hQ⟩ := hE
  refine va_gets (v := .int 1) hx hb hZ hS hown (hts (.fieldLink "java/lang/String" 38 "java/lang/String" "COMPACT_STRINGS" "Z") (by simp [sw_cod])) (fun _ h => h) (show decode prog_23_method_152_code 0 = .ok (.getstatic 38, 3) by decide +kernel) ?_
  refine lv_if_eq (off := 10) (tgt := 13) hx hb (show decode prog_23_method_152_code 3 = .ok (.ifCond .eq 10, 3) by decide +kernel) rfl (fun h => absurd h (by decide)) (fun _ => ?_)
  refine lv_aload_n hx hb (show decode prog_23_method_152_code 6 = .ok (.aload_n 0, 1) by decide +kernel) rfl (lv_at hl 0 rfl) ?_
  refine vk_getf hx hb hC hS hown (hts (.fieldLink "java/lang/String" 15 "java/lang/String" "coder" "B") (by simp [sw_cod])) (fun _ h => h) (show decode prog_23_method_152_code 7 = .ok (.getfield 15, 3) by decide +kernel) ?_
  refine lv_goto (off := 4) (tgt := 14) hx hb (show decode prog_23_method_152_code 10 = .ok (.goto 4, 3) by decide +kernel) rfl ?_
  exact W.zret hx hb hr (show narrow .byte (.int 0) = .int 0 by decide) (fun t ht hW => ⟨rfl, ht⟩) (fun q hq => by cases hq) (show decode prog_23_method_152_code 14 = .ok (.ireturn, 1) by decide +kernel)
/-- isLatin1() -/
theorem sc_isl (l : Launch) (q n : Nat) (f : Nat → Value) : Met l sy_isl sw_isl (sRm 0 0) (va_Pc [.ref q] (fun U => vStr q n f sNo U U.heap)) (QcRead 1) 0 0 (fun _ => False) := by
  refine Met.ofW (cc := prog_23_method_154_code) (maxL := 1) (ret := some .boolean) (by decide) rfl ?_
  intro p e s m args below meth c s₁ B hml hv
  obtain ⟨rfl, hE⟩ := hv
  have hx := B.exec
  have hb := B.bytes
  have hr := B.returns
  have hts := atoms_spec (ws := sw_isl) B.pre
  have hown : s.vm.findClass "java/lang/String" = some m.cls := findClass_of_methodNamed B.named
  have hlocks := B.notSynchronized
  have hS : va_S sNo s.heap s.heap [] := va_S.rf
  have hl := lv_entry ([.ref q]) (n := 1) (Nat.le_of_ble_eq_true rfl)
  rw [lg_entry_eq]
  generalize (lg_sl ([.ref q]) ++ List.replicate (1 - (lg_sl ([.ref q])).length) Slot.unset).toArray = ls at hl ⊢
  have hl : lv_has ls 1 [(0, .ref q)] := hl
  obtain ⟨hn, hf, hO, hC, ⟨v, hV, hT⟩, hZ, hQ⟩ := hE
  refine va_gets (v := .int 1) hx hb hZ hS hown (hts (.fieldLink "java/lang/String" 38 "java/lang/String" "COMPACT_STRINGS" "Z") (by simp [sw_isl])) (fun _ h => h) (show decode prog_23_method_154_code 0 = .ok (.getstatic 38, 3) by decide +kernel) ?_
  refine lv_if_eq (off := 14) (tgt := 17) hx hb (show decode prog_23_method_154_code 3 = .ok (.ifCond .eq 14, 3) by decide +kernel) rfl (fun h => absurd h (by decide)) (fun _ => ?_)
  refine lv_aload_n hx hb (show decode prog_23_method_154_code 6 = .ok (.aload_n 0, 1) by decide +kernel) rfl (lv_at hl 0 rfl) ?_
  refine vk_getf hx hb hC hS hown (hts (.fieldLink "java/lang/String" 15 "java/lang/String" "coder" "B") (by simp [sw_isl])) (fun _ h => h) (show decode prog_23_method_154_code 7 = .ok (.getfield 15, 3) by decide +kernel) ?_
  refine lv_if_ne (off := 7) (tgt := 17) hx hb (show decode prog_23_method_154_code 10 = .ok (.ifCond .ne 7, 3) by decide +kernel) rfl (fun h => absurd rfl h) (fun _ => ?_)
  refine lv_iconst (v := 1) hx hb (show decode prog_23_method_154_code 13 = .ok (.iconst 1, 1) by decide +kernel) (by decide) ?_
  refine lv_goto (off := 4) (tgt := 18) hx hb (show decode prog_23_method_154_code 14 = .ok (.goto 4, 3) by decide +kernel) rfl ?_
  exact W.zret hx hb hr (show narrow .boolean (.int 1) = .int 1 by decide) (fun t ht hW => ⟨rfl, ht⟩) (fun q hq => by cases hq) (show decode prog_23_method_154_code 18 = .ok (.ireturn, 1) by decide +kernel)
theorem s_blind {q n : Nat} {f : Nat → Value} {vs : List Value} : FrameBlind (va_Pc vs (fun U => vStr q n f sNo U U.heap)) := fun a U g mk h => ⟨h.1, vStr.moved (u := U) (U := U.calling g mk a) (Vm.Alike.refl U.vm) h.2⟩
theorem s_preV {q n : Nat} {f : Nat → Value} {A : Nat → Prop} {s : State} {H : Heap} {locs : List Loc} (hE : vStr q n f A s s.heap) (hS : va_S A s.heap H locs) (vs : List Value) : PreV s H "java/lang/String" q (va_Pc (.ref q :: vs) (fun U => vStr q n f sNo U U.heap)) vs := by
  refine ⟨s_blind, ?_, fun U hU hW => ⟨rfl, ?_⟩⟩
  · obtain ⟨cell, h1, h2, h3, -⟩ := hE.2.2.1.kept hS.2.1
    exact ⟨cell, h1, h2, h3⟩
  · show vStr q n f sNo U U.heap
    rw [hU]
    exact vStr.moved hW.alike ((hE.kept hS.2.1).narrow fun q h => h.elim)
theorem s_shr0 (x : Int32) : x >>> ((0 : Int32) &&& 31) = x := by
  rw [show ((0 : Int32) &&& 31) = 0 from by decide]
  simp
/-- length() -/
theorem sc_len (l : Launch) (q n : Nat) (f : Nat → Value) : Met l sy_len sw_len (sRm 1 20) (va_Pc [.ref q] (fun U => vStr q n f sNo U U.heap)) (QcRead (Int32.ofNat n)) 0 0 (fun _ => False) := by
  refine Met.ofW (cc := prog_23_method_54_code) (maxL := 1) (ret := some .int) (by decide) rfl ?_
  intro p e s m args below meth c s₁ B hml hv
  obtain ⟨rfl, hE⟩ := hv
  have hx := B.exec
  have hb := B.bytes
  have hr := B.returns
  have hts := atoms_spec (ws := sw_len) B.pre
  have hown : s.vm.findClass "java/lang/String" = some m.cls := findClass_of_methodNamed B.named
  have hlocks := B.notSynchronized
  have hS : va_S sNo s.heap s.heap [] := va_S.rf
  have hl := lv_entry ([.ref q]) (n := 1) (Nat.le_of_ble_eq_true rfl)
  rw [lg_entry_eq]
  generalize (lg_sl ([.ref q]) ++ List.replicate (1 - (lg_sl ([.ref q])).length) Slot.unset).toArray = ls at hl ⊢
  have hl : lv_has ls 1 [(0, .ref q)] := hl
  have hE9 := hE
  obtain ⟨hn, hf, hO, hC, ⟨v, hV, hT⟩, hZ, hQ⟩ := hE
  refine lv_aload_n hx hb (show decode prog_23_method_54_code 0 = .ok (.aload_n 0, 1) by decide +kernel) rfl (lv_at hl 0 rfl) ?_
  refine vk_getf hx hb hV hS hown (hts (.fieldLink "java/lang/String" 9 "java/lang/String" "value" "[B") (by simp [sw_len])) (fun _ h => h) (show decode prog_23_method_54_code 1 = .ok (.getfield 9, 3) by decide +kernel) ?_
  refine va_tlen hx hb hT hS rfl (show decode prog_23_method_54_code 4 = .ok (.arraylength, 1) by decide +kernel) ?_
  refine lv_aload_n hx hb (show decode prog_23_method_54_code 5 = .ok (.aload_n 0, 1) by decide +kernel) rfl (lv_at hl 0 rfl) ?_
  refine W.callR (W.runV (C := "java/lang/String") (b := q) (As := []) (rest := [.int (Int32.ofNat n)]) ⟨hx, hb, hml, hown, hts⟩ (sc_cod l q n f) (cwV 0 hts sg_cod rfl rfl rfl (by decide +kernel) ⟨Nat.le_of_ble_eq_true rfl, Nat.le_of_ble_eq_true rfl⟩) (s_preV hE9 hS []) rfl rfl hl.1 rfl (lv_room (Nat.le_of_ble_eq_true rfl)) (show decode prog_23_method_54_code 6 = .ok (.invokevirtual 335, 3) by decide +kernel) ⟨Nat.zero_le _, Nat.zero_le _⟩) ?_
  refine W.eq (g2 := F0 m 9 ls [.int 0, .int (Int32.ofNat n)]) rfl ?_
  refine lv_ishr hx hb (show decode prog_23_method_54_code 9 = .ok (.ishr, 1) by decide +kernel) ?_
  rw [s_shr0]
  exact W.iret hx hb hr (fun t ht hW => ⟨rfl, ht⟩) (fun q hq => by cases hq) (show decode prog_23_method_54_code 10 = .ok (.ireturn, 1) by decide +kernel)
/-- Preconditions.checkIndex -/
theorem sc_pre (l : Launch) (i N : Int32) (fv : Value) (hfv : fv = .null ∨ ∃ t, fv = .ref t) (h0 : ¬ i < 0) (h1 : i < N) : Met l sy_pre sw_pre (sRm 0 0) (va_Pc [.int i, .int N, fv] (fun _ => True)) (QcRead i) 0 0 (fun _ => False) := by
  refine Met.ofW (cc := prog_32_method_11_code) (maxL := 3) (ret := some .int) (by decide) rfl ?_
  intro p e s m args below meth c s₁ B hml hv
  obtain ⟨rfl, -⟩ := hv
  have hx := B.exec
  have hb := B.bytes
  have hr := B.returns
  have hlocks := B.notSynchronized
  have hl : lv_has (lg_sl ([.int i, .int N, fv]) ++ List.replicate (3 - (lg_sl ([.int i, .int N, fv])).length) Slot.unset).toArray 3 [(0, .int i), (1, .int N)] := by
    rcases hfv with rfl | ⟨t, rfl⟩
    · have h := lv_entry ([.int i, .int N, .null]) (n := 3) (Nat.le_of_ble_eq_true rfl)
      exact lv_sub (l := [(0, .int i), (1, .int N), (2, .null)]) h [0, 1] rfl
    · have h := lv_entry ([.int i, .int N, .ref t]) (n := 3) (Nat.le_of_ble_eq_true rfl)
      exact lv_sub (l := [(0, .int i), (1, .int N), (2, .ref t)]) h [0, 1] rfl
  rw [lg_entry_eq]
  generalize (lg_sl ([.int i, .int N, fv]) ++ List.replicate (3 - (lg_sl ([.int i, .int N, fv])).length) Slot.unset).toArray = ls at hl ⊢
  refine lv_iload_n hx hb (show decode prog_32_method_11_code 0 = .ok (.iload_n 0, 1) by decide +kernel) rfl (lv_at hl 0 rfl) ?_
  refine lv_if_lt (off := 8) (tgt := 9) hx hb (show decode prog_32_method_11_code 1 = .ok (.ifCond .lt 8, 3) by decide +kernel) rfl (fun h => absurd h h0) (fun _ => ?_)
  refine lv_iload_n hx hb (show decode prog_32_method_11_code 4 = .ok (.iload_n 0, 1) by decide +kernel) rfl (lv_at hl 0 rfl) ?_
  refine lv_iload_n hx hb (show decode prog_32_method_11_code 5 = .ok (.iload_n 1, 1) by decide +kernel) rfl (lv_at hl 1 rfl) ?_
  refine lv_icmp_lt (off := 10) (tgt := 16) hx hb (show decode prog_32_method_11_code 6 = .ok (.if_icmp .lt 10, 3) by decide +kernel) rfl (fun _ => ?_) (fun h => absurd h1 h)
  refine lv_iload_n hx hb (show decode prog_32_method_11_code 16 = .ok (.iload_n 0, 1) by decide +kernel) rfl (lv_at hl 0 rfl) ?_
  exact W.iret hx hb hr (fun t ht hW => ⟨rfl, ht⟩) (fun q hq => by cases hq) (show decode prog_32_method_11_code 17 = .ok (.ireturn, 1) by decide +kernel)
def QcNone : Array Value → State → Outcome → State → Prop := fun _ st o t => o = .returned none ∧ t.heap = st.heap
theorem s_callN {p : Program} {l : Launch} {e : Env} {R : Room} {s : State} {m : MethodId} {args : Array Value} {below : List Frame} {meth : Method} {c : Code} {H : Heap} {locs : List Loc} {cells slots : Nat} {Q : State → Prop} {g : JFrame} {rest : List Value} {a : Array Value}
    (hr : CallRun p l e R s m args below meth c H locs cells slots 0 0 g rest (QcNone a) (fun _ => False)) (kk : W p l e R s m args below meth c H locs cells slots Q { g with pc := g.pc + 3, stack := rest }) : W p l e R s m args below meth c H locs cells slots Q g := by
  intro T hT X
  obtain ⟨v, st₀, t, T', L, h0, X', hL, e1, ⟨hv, hh⟩, st⟩ := hr T hT X
  cases hv
  obtain ⟨t2, a1, b1⟩ := kk T' (by rw [e1, hh, h0]) (Stand.forget X' (fun q h => (hL q h).elim))
  exact ⟨t2, st t2 a1, b1⟩
abbrev sZq (U : State) : Prop := va_Zq "jdk/internal/util/Preconditions" "SIOOBE_FORMATTER" "Ljava/util/function/BiFunction;" sNo U U.heap
/-- String.checkIndex -/
theorem sc_chk (l : Launch) (i N : Int32) (h0 : ¬ i < 0) (h1 : i < N) : Met l sy_chk sw_chk (sRm 1 22) (va_Pc [.int i, .int N] sZq) QcNone 0 0 (fun _ => False) := by
  refine Met.ofW (cc := prog_23_method_155_code) (maxL := 2) (ret := none) (by decide) rfl ?_
  intro p e s m args below meth c s₁ B hml hv
  obtain ⟨rfl, hZ⟩ := hv
  have hx := B.exec
  have hb := B.bytes
  have hr := B.returns
  have hts := atoms_spec (ws := sw_chk) B.pre
  have hown : s.vm.findClass "java/lang/String" = some m.cls := findClass_of_methodNamed B.named
  have hlocks := B.notSynchronized
  have hS : va_S sNo s.heap s.heap [] := va_S.rf
  have hl := lv_entry ([.int i, .int N]) (n := 2) (Nat.le_of_ble_eq_true rfl)
  rw [lg_entry_eq]
  generalize (lg_sl ([.int i, .int N]) ++ List.replicate (2 - (lg_sl ([.int i, .int N])).length) Slot.unset).toArray = ls at hl ⊢
  have hl : lv_has ls 2 [(0, .int i), (1, .int N)] := hl
  obtain ⟨fv, hfv, hZ⟩ : ∃ fv : Value, (fv = .null ∨ ∃ t, fv = .ref t) ∧ va_Z "jdk/internal/util/Preconditions" "SIOOBE_FORMATTER" "Ljava/util/function/BiFunction;" fv sNo s s.heap := by
    rcases hZ with h | ⟨t, h⟩
    · exact ⟨.null, Or.inl rfl, h⟩
    · exact ⟨.ref t, Or.inr ⟨t, rfl⟩, h⟩
  refine lv_iload_n hx hb (show decode prog_23_method_155_code 0 = .ok (.iload_n 0, 1) by decide +kernel) rfl (lv_at hl 0 rfl) ?_
  refine lv_iload_n hx hb (show decode prog_23_method_155_code 1 = .ok (.iload_n 1, 1) by decide +kernel) rfl (lv_at hl 1 rfl) ?_
  refine va_gets (v := fv) hx hb hZ hS hown (hts (.fieldLink "java/lang/String" 1053 "jdk/internal/util/Preconditions" "SIOOBE_FORMATTER" "Ljava/util/function/BiFunction;") (by simp [sw_chk])) (fun _ h => h) (show decode prog_23_method_155_code 2 = .ok (.getstatic 1053, 3) by decide +kernel) ?_
  refine W.callR (W.runS (As := [.int i, .int N, fv]) (rest := []) ⟨hx, hb, hml, hown, hts⟩ (sc_pre l i N fv hfv h0 h1) (va_cwS 3 hts sg_pre rfl rfl rfl (by decide +kernel) ⟨Nat.le_of_ble_eq_true rfl, Nat.le_of_ble_eq_true rfl⟩) ⟨fun a U g mk h => ⟨h.1, trivial⟩, fun U hU hW => ⟨rfl, trivial⟩⟩ rfl rfl hl.1 rfl (lv_room (Nat.le_of_ble_eq_true rfl)) (show decode prog_23_method_155_code 5 = .ok (.invokestatic 1059, 3) by decide +kernel) ⟨Nat.zero_le _, Nat.zero_le _⟩) ?_
  refine W.eq (g2 := F0 m 8 ls [.int i]) rfl ?_
  refine lv_pop hx hb (show decode prog_23_method_155_code 8 = .ok (.pop, 1) by decide +kernel) rfl ?_
  exact W.vret hx hb hr (fun t ht hW => ⟨rfl, ht⟩) (fun q hq => by cases hq) (show decode prog_23_method_155_code 9 = .ok (.return_, 1) by decide +kernel)
theorem s_chr : ∀ k, k < 128 → ((Int32.ofNat k &&& 255).toUInt32 % 65536).toInt32 = Int32.ofNat k := by decide +kernel
theorem s_nar : ∀ k, k < 128 → narrow .char (.int (Int32.ofNat k)) = .int (Int32.ofNat k) := by decide +kernel
theorem s_of {x : Int32} (h0 : 0 ≤ x.toInt) (h1 : x.toInt < 128) : ∃ k, k < 128 ∧ x = Int32.ofNat k := by
  refine ⟨x.toInt.toNat, by omega, Int32.toInt_inj.mp ?_⟩
  rw [Int32.toInt_ofNat_of_lt (by omega)]
  omega
theorem s_lt {i : Int32} {n : Nat} (hin : vp_in i n) (hn : n < 2147483648) : ¬ i < 0 ∧ i < Int32.ofNat n := by
  have h0 : ¬ i < 0 := fun h => hin (Or.inl h)
  have h1 : ¬ n ≤ i.toNatClampNeg := fun h => hin (Or.inr h)
  refine ⟨h0, ?_⟩
  rw [Int32.lt_iff_toInt_lt] at h0 ⊢
  rw [Int32.toInt_ofNat_of_lt (by omega)]
  have e0 : (0 : Int32).toInt = 0 := rfl
  rw [e0] at h0
  have : i.toNatClampNeg = i.toInt.toNat := rfl
  omega
/-- StringLatin1.charAt -/
theorem sc_lat (l : Launch) (v n : Nat) (f : Nat → Value) (i x : Int32) (hn : n < 2147483648) (hin : vp_in i n) (hfx : f i.toNatClampNeg = .int x) (hx0 : 0 ≤ x.toInt) (hx1 : x.toInt < 128) :
    Met l sy_lat sw_lat (sRm 2 43) (va_Pc [.ref v, .int i] (fun U => va_T .byte v n f sNo U U.heap ∧ sZq U)) (QcRead x) 0 0 (fun _ => False) := by
  refine Met.ofW (cc := prog_24_method_2_code) (maxL := 2) (ret := some .char) (by decide) rfl ?_
  intro p e s m args below meth c s₁ B hml hv
  obtain ⟨rfl, hT, hZ⟩ := hv
  have hx := B.exec
  have hb := B.bytes
  have hr := B.returns
  have hts := atoms_spec (ws := sw_lat) B.pre
  have hown : s.vm.findClass "java/lang/StringLatin1" = some m.cls := findClass_of_methodNamed B.named
  have hlocks := B.notSynchronized
  have hS : va_S sNo s.heap s.heap [] := va_S.rf
  have hl := lv_entry ([.ref v, .int i]) (n := 2) (Nat.le_of_ble_eq_true rfl)
  rw [lg_entry_eq]
  generalize (lg_sl ([.ref v, .int i]) ++ List.replicate (2 - (lg_sl ([.ref v, .int i])).length) Slot.unset).toArray = ls at hl ⊢
  have hl : lv_has ls 2 [(0, .ref v), (1, .int i)] := hl
  obtain ⟨z0, z1⟩ := s_lt hin hn
  obtain ⟨k, hk, rfl⟩ := s_of hx0 hx1
  refine lv_iload_n hx hb (show decode prog_24_method_2_code 0 = .ok (.iload_n 1, 1) by decide +kernel) rfl (lv_at hl 1 rfl) ?_
  refine lv_aload_n hx hb (show decode prog_24_method_2_code 1 = .ok (.aload_n 0, 1) by decide +kernel) rfl (lv_at hl 0 rfl) ?_
  refine va_tlen hx hb hT hS rfl (show decode prog_24_method_2_code 2 = .ok (.arraylength, 1) by decide +kernel) ?_
  refine s_callN (W.runS (As := [.int i, .int (Int32.ofNat n)]) (rest := []) ⟨hx, hb, hml, hown, hts⟩ (sc_chk l i (Int32.ofNat n) z0 z1) (va_cwS 2 hts sg_chk rfl rfl rfl (by decide +kernel) ⟨Nat.le_of_ble_eq_true rfl, Nat.le_of_ble_eq_true rfl⟩) ⟨fun a U g mk h => ⟨h.1, va_Zq.moved (u := U) (U := U.calling g mk a) (Vm.Alike.refl U.vm) h.2⟩, fun U hU hW => ⟨rfl, by show va_Zq _ _ _ _ U U.heap; rw [hU]; exact va_Zq.moved hW.alike hZ⟩⟩ rfl rfl hl.1 rfl (lv_room (Nat.le_of_ble_eq_true rfl)) (show decode prog_24_method_2_code 3 = .ok (.invokestatic 9, 3) by decide +kernel) ⟨Nat.zero_le _, Nat.zero_le _⟩) ?_
  refine W.eq (g2 := F0 m 6 ls []) rfl ?_
  refine lv_aload_n hx hb (show decode prog_24_method_2_code 6 = .ok (.aload_n 0, 1) by decide +kernel) rfl (lv_at hl 0 rfl) ?_
  refine lv_iload_n hx hb (show decode prog_24_method_2_code 7 = .ok (.iload_n 1, 1) by decide +kernel) rfl (lv_at hl 1 rfl) ?_
  refine va_tb hx hb hT hS hin hfx (show decode prog_24_method_2_code 8 = .ok (.baload, 1) by decide +kernel) ?_
  refine lv_sipush (v := 255) hx hb (show decode prog_24_method_2_code 9 = .ok (.sipush 255, 3) by decide +kernel) (by decide) ?_
  refine lv_iand hx hb (show decode prog_24_method_2_code 12 = .ok (.iand, 1) by decide +kernel) ?_
  refine lv_i2c hx hb (show decode prog_24_method_2_code 13 = .ok (.i2c, 1) by decide +kernel) (s_chr k hk) ?_
  exact W.zret hx hb hr (s_nar k hk) (fun t ht hW => ⟨rfl, ht⟩) (fun q hq => by cases hq) (show decode prog_24_method_2_code 14 = .ok (.ireturn, 1) by decide +kernel)
/-- charAt() -/
theorem sc_cha (l : Launch) (q n : Nat) (f : Nat → Value) (i x : Int32) (hin : vp_in i n) (hfx : f i.toNatClampNeg = .int x) : Met l sy_cha sw_cha (sRm 3 64) (va_Pc [.ref q, .int i] (fun U => vStr q n f sNo U U.heap)) (QcRead x) 0 0 (fun _ => False) := by
  refine Met.ofW (cc := prog_23_method_56_code) (maxL := 2) (ret := some .char) (by decide) rfl ?_
  intro p e s m args below meth c s₁ B hml hv
  obtain ⟨rfl, hE⟩ := hv
  have hx := B.exec
  have hb := B.bytes
  have hr := B.returns
  have hts := atoms_spec (ws := sw_cha) B.pre
  have hown : s.vm.findClass "java/lang/String" = some m.cls := findClass_of_methodNamed B.named
  have hlocks := B.notSynchronized
  have hS : va_S sNo s.heap s.heap [] := va_S.rf
  have hl := lv_entry ([.ref q, .int i]) (n := 2) (Nat.le_of_ble_eq_true rfl)
  rw [lg_entry_eq]
  generalize (lg_sl ([.ref q, .int i]) ++ List.replicate (2 - (lg_sl ([.ref q, .int i])).length) Slot.unset).toArray = ls at hl ⊢
  have hl : lv_has ls 2 [(0, .ref q), (1, .int i)] := hl
  have hE9 := hE
  obtain ⟨hn, hf, hO, hC, ⟨v, hV, hT⟩, hZ, hQ⟩ := hE
  obtain ⟨x', e9, hx0, hx1⟩ := hf i.toNatClampNeg (Nat.not_le.mp fun h => hin (Or.inr h))
  rw [hfx] at e9
  cases e9
  refine lv_aload_n hx hb (show decode prog_23_method_56_code 0 = .ok (.aload_n 0, 1) by decide +kernel) rfl (lv_at hl 0 rfl) ?_
  refine W.callR (W.runV (C := "java/lang/String") (b := q) (As := []) (rest := []) ⟨hx, hb, hml, hown, hts⟩ (sc_isl l q n f) (cwV 0 hts sg_isl rfl rfl rfl (by decide +kernel) ⟨Nat.le_of_ble_eq_true rfl, Nat.le_of_ble_eq_true rfl⟩) (s_preV hE9 hS []) rfl rfl hl.1 rfl (lv_room (Nat.le_of_ble_eq_true rfl)) (show decode prog_23_method_56_code 1 = .ok (.invokevirtual 492, 3) by decide +kernel) ⟨Nat.zero_le _, Nat.zero_le _⟩) ?_
  refine W.eq (g2 := F0 m 4 ls [.int 1]) rfl ?_
  refine lv_if_eq (off := 12) (tgt := 16) hx hb (show decode prog_23_method_56_code 4 = .ok (.ifCond .eq 12, 3) by decide +kernel) rfl (fun h => absurd h (by decide)) (fun _ => ?_)
  refine lv_aload_n hx hb (show decode prog_23_method_56_code 7 = .ok (.aload_n 0, 1) by decide +kernel) rfl (lv_at hl 0 rfl) ?_
  refine vk_getf hx hb hV hS hown (hts (.fieldLink "java/lang/String" 9 "java/lang/String" "value" "[B") (by simp [sw_cha])) (fun _ h => h) (show decode prog_23_method_56_code 8 = .ok (.getfield 9, 3) by decide +kernel) ?_
  refine lv_iload_n hx hb (show decode prog_23_method_56_code 11 = .ok (.iload_n 1, 1) by decide +kernel) rfl (lv_at hl 1 rfl) ?_
  refine W.callR (W.runS (As := [.ref v, .int i]) (rest := []) ⟨hx, hb, hml, hown, hts⟩ (sc_lat l v n f i x hn hin hfx hx0 hx1) (va_cwS 2 hts sg_lat rfl rfl rfl (by decide +kernel) ⟨Nat.le_of_ble_eq_true rfl, Nat.le_of_ble_eq_true rfl⟩) ⟨fun a U g mk h => ⟨h.1, va_T.moved (u := U) (U := U.calling g mk a) (Vm.Alike.refl U.vm) h.2.1, va_Zq.moved (u := U) (U := U.calling g mk a) (Vm.Alike.refl U.vm) h.2.2⟩, fun U hU hW => ⟨rfl, by rw [hU]; exact va_T.moved hW.alike hT, by show va_Zq _ _ _ _ U U.heap; rw [hU]; exact va_Zq.moved hW.alike hQ⟩⟩ rfl rfl hl.1 rfl (lv_room (Nat.le_of_ble_eq_true rfl)) (show decode prog_23_method_56_code 12 = .ok (.invokestatic 495, 3) by decide +kernel) ⟨Nat.zero_le _, Nat.zero_le _⟩) ?_
  refine W.eq (g2 := F0 m 15 ls [.int x]) rfl ?_
  obtain ⟨k, hk, rfl⟩ := s_of hx0 hx1
  exact W.zret hx hb hr (s_nar k hk) (fun t ht hW => ⟨rfl, ht⟩) (fun q hq => by cases hq) (show decode prog_23_method_56_code 15 = .ok (.ireturn, 1) by decide +kernel)
end
