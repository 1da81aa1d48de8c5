-- ===== PART A: goes FIRST, ahead of the names: the tables' words, and 'selects' of the private methods out of them =====
/-- a private method of a class that the tables say can be made, by its rows of tables_1 -/
def lw_okq (q : MethodName × Nat) : Prop := (q.1.cls ≠ "java/lang/invoke/MethodHandle" ∧ q.1.cls ≠ "java/lang/invoke/VarHandle") ∧ Cond.instantiable q.1.cls q.2 ∈ tables_1 ∧ Cond.privateMethod q.1 ∈ tables_1 ∧ Cond.instanceMethod q.1 ∈ tables_1
theorem lw_p0 : lw_okq (⟨"NearFar$World", "endPhase", "()V"⟩, 18) := ⟨⟨by decide +kernel, by decide +kernel⟩, List.mem_of_getElem? (i := 36) (by decide +kernel), List.mem_of_getElem? (i := 493) (by decide +kernel), List.mem_of_getElem? (i := 494) (by decide +kernel)⟩
theorem lw_p1 : lw_okq (⟨"NearFar$World", "dismissIfIdle", "(I)V"⟩, 18) := ⟨⟨by decide +kernel, by decide +kernel⟩, List.mem_of_getElem? (i := 36) (by decide +kernel), List.mem_of_getElem? (i := 507) (by decide +kernel), List.mem_of_getElem? (i := 508) (by decide +kernel)⟩
theorem lw_p2 : lw_okq (⟨"NearFar$World", "isIdle", "(I)Z"⟩, 18) := ⟨⟨by decide +kernel, by decide +kernel⟩, List.mem_of_getElem? (i := 36) (by decide +kernel), List.mem_of_getElem? (i := 511) (by decide +kernel), List.mem_of_getElem? (i := 512) (by decide +kernel)⟩
theorem lw_p3 : lw_okq (⟨"NearFar$World", "use", "(II)I"⟩, 18) := ⟨⟨by decide +kernel, by decide +kernel⟩, List.mem_of_getElem? (i := 36) (by decide +kernel), List.mem_of_getElem? (i := 515) (by decide +kernel), List.mem_of_getElem? (i := 516) (by decide +kernel)⟩
theorem lw_p4 : lw_okq (⟨"NearFar$World", "stored", "(III)I"⟩, 18) := ⟨⟨by decide +kernel, by decide +kernel⟩, List.mem_of_getElem? (i := 36) (by decide +kernel), List.mem_of_getElem? (i := 552) (by decide +kernel), List.mem_of_getElem? (i := 553) (by decide +kernel)⟩
theorem lw_p5 : lw_okq (⟨"NearFar", "needBetween", "(III)V"⟩, 6) := ⟨⟨by decide +kernel, by decide +kernel⟩, List.mem_of_getElem? (i := 28) (by decide +kernel), List.mem_of_getElem? (i := 568) (by decide +kernel), List.mem_of_getElem? (i := 569) (by decide +kernel)⟩
theorem lw_p6 : lw_okq (⟨"java/lang/Throwable", "fillInStackTrace", "(I)Ljava/lang/Throwable;"⟩, 6) := ⟨⟨by decide +kernel, by decide +kernel⟩, List.mem_of_getElem? (i := 610) (by decide +kernel), List.mem_of_getElem? (i := 608) (by decide +kernel), List.mem_of_getElem? (i := 609) (by decide +kernel)⟩
theorem lw_p7 : lw_okq (⟨"NearFar", "needText", "(III)V"⟩, 6) := ⟨⟨by decide +kernel, by decide +kernel⟩, List.mem_of_getElem? (i := 28) (by decide +kernel), List.mem_of_getElem? (i := 652) (by decide +kernel), List.mem_of_getElem? (i := 653) (by decide +kernel)⟩
theorem lw_p8 : lw_okq (⟨"NearFar$Text", "endOfToken", "(II)I"⟩, 8) := ⟨⟨by decide +kernel, by decide +kernel⟩, List.mem_of_getElem? (i := 334) (by decide +kernel), List.mem_of_getElem? (i := 663) (by decide +kernel), List.mem_of_getElem? (i := 664) (by decide +kernel)⟩
theorem lw_p9 : lw_okq (⟨"NearFar$Text", "tokenOf", "(II)I"⟩, 8) := ⟨⟨by decide +kernel, by decide +kernel⟩, List.mem_of_getElem? (i := 334) (by decide +kernel), List.mem_of_getElem? (i := 670) (by decide +kernel), List.mem_of_getElem? (i := 671) (by decide +kernel)⟩
theorem lw_p10 : lw_okq (⟨"NearFar$Text", "wordOf", "(II)I"⟩, 8) := ⟨⟨by decide +kernel, by decide +kernel⟩, List.mem_of_getElem? (i := 334) (by decide +kernel), List.mem_of_getElem? (i := 674) (by decide +kernel), List.mem_of_getElem? (i := 675) (by decide +kernel)⟩
theorem lw_p11 : lw_okq (⟨"NearFar$Text", "numberOf", "(II)I"⟩, 8) := ⟨⟨by decide +kernel, by decide +kernel⟩, List.mem_of_getElem? (i := 334) (by decide +kernel), List.mem_of_getElem? (i := 727) (by decide +kernel), List.mem_of_getElem? (i := 728) (by decide +kernel)⟩
theorem lw_p12 : lw_okq (⟨"NearFar$Rule", "parseEither", "(LNearFar$Text;I)V"⟩, 5) := ⟨⟨by decide +kernel, by decide +kernel⟩, List.mem_of_getElem? (i := 42) (by decide +kernel), List.mem_of_getElem? (i := 740) (by decide +kernel), List.mem_of_getElem? (i := 741) (by decide +kernel)⟩
theorem lw_p13 : lw_okq (⟨"NearFar$Rule", "parseNot", "(LNearFar$Text;I)V"⟩, 5) := ⟨⟨by decide +kernel, by decide +kernel⟩, List.mem_of_getElem? (i := 42) (by decide +kernel), List.mem_of_getElem? (i := 744) (by decide +kernel), List.mem_of_getElem? (i := 745) (by decide +kernel)⟩
theorem lw_p14 : lw_okq (⟨"NearFar$Rule", "parseComparison", "(LNearFar$Text;)V"⟩, 5) := ⟨⟨by decide +kernel, by decide +kernel⟩, List.mem_of_getElem? (i := 42) (by decide +kernel), List.mem_of_getElem? (i := 756) (by decide +kernel), List.mem_of_getElem? (i := 757) (by decide +kernel)⟩
theorem lw_p15 : lw_okq (⟨"NearFar$Rule", "parseSum", "(LNearFar$Text;)V"⟩, 5) := ⟨⟨by decide +kernel, by decide +kernel⟩, List.mem_of_getElem? (i := 42) (by decide +kernel), List.mem_of_getElem? (i := 760) (by decide +kernel), List.mem_of_getElem? (i := 761) (by decide +kernel)⟩
def lw_privs_1 : List (MethodName × Nat) := [(⟨"NearFar$World", "endPhase", "()V"⟩, 18), (⟨"NearFar$World", "dismissIfIdle", "(I)V"⟩, 18), (⟨"NearFar$World", "isIdle", "(I)Z"⟩, 18), (⟨"NearFar$World", "use", "(II)I"⟩, 18), (⟨"NearFar$World", "stored", "(III)I"⟩, 18), (⟨"NearFar", "needBetween", "(III)V"⟩, 6), (⟨"java/lang/Throwable", "fillInStackTrace", "(I)Ljava/lang/Throwable;"⟩, 6), (⟨"NearFar", "needText", "(III)V"⟩, 6), (⟨"NearFar$Text", "endOfToken", "(II)I"⟩, 8), (⟨"NearFar$Text", "tokenOf", "(II)I"⟩, 8), (⟨"NearFar$Text", "wordOf", "(II)I"⟩, 8), (⟨"NearFar$Text", "numberOf", "(II)I"⟩, 8), (⟨"NearFar$Rule", "parseEither", "(LNearFar$Text;I)V"⟩, 5), (⟨"NearFar$Rule", "parseNot", "(LNearFar$Text;I)V"⟩, 5), (⟨"NearFar$Rule", "parseComparison", "(LNearFar$Text;)V"⟩, 5), (⟨"NearFar$Rule", "parseSum", "(LNearFar$Text;)V"⟩, 5)]
theorem lw_r1 : ∀ q ∈ lw_privs_1, lw_okq q := List.forall_mem_cons.mpr ⟨lw_p0, List.forall_mem_cons.mpr ⟨lw_p1, List.forall_mem_cons.mpr ⟨lw_p2, List.forall_mem_cons.mpr ⟨lw_p3, List.forall_mem_cons.mpr ⟨lw_p4, List.forall_mem_cons.mpr ⟨lw_p5, List.forall_mem_cons.mpr ⟨lw_p6, List.forall_mem_cons.mpr ⟨lw_p7, List.forall_mem_cons.mpr ⟨lw_p8, List.forall_mem_cons.mpr ⟨lw_p9, List.forall_mem_cons.mpr ⟨lw_p10, List.forall_mem_cons.mpr ⟨lw_p11, List.forall_mem_cons.mpr ⟨lw_p12, List.forall_mem_cons.mpr ⟨lw_p13, List.forall_mem_cons.mpr ⟨lw_p14, List.forall_mem_cons.mpr ⟨lw_p15, fun _ h => absurd h List.not_mem_nil⟩⟩⟩⟩⟩⟩⟩⟩⟩⟩⟩⟩⟩⟩⟩⟩
theorem lw_p16 : lw_okq (⟨"NearFar$Rule", "add", "(II)V"⟩, 5) := ⟨⟨by decide +kernel, by decide +kernel⟩, List.mem_of_getElem? (i := 42) (by decide +kernel), List.mem_of_getElem? (i := 764) (by decide +kernel), List.mem_of_getElem? (i := 765) (by decide +kernel)⟩
theorem lw_p17 : lw_okq (⟨"NearFar$Work", "close", "()V"⟩, 9) := ⟨⟨by decide +kernel, by decide +kernel⟩, List.mem_of_getElem? (i := 373) (by decide +kernel), List.mem_of_getElem? (i := 796) (by decide +kernel), List.mem_of_getElem? (i := 797) (by decide +kernel)⟩
theorem lw_p18 : lw_okq (⟨"NearFar$Work", "add", "(I)V"⟩, 9) := ⟨⟨by decide +kernel, by decide +kernel⟩, List.mem_of_getElem? (i := 373) (by decide +kernel), List.mem_of_getElem? (i := 800) (by decide +kernel), List.mem_of_getElem? (i := 801) (by decide +kernel)⟩
theorem lw_p19 : lw_okq (⟨"NearFar$Work", "parseAgain", "(LNearFar$Text;)V"⟩, 9) := ⟨⟨by decide +kernel, by decide +kernel⟩, List.mem_of_getElem? (i := 373) (by decide +kernel), List.mem_of_getElem? (i := 805) (by decide +kernel), List.mem_of_getElem? (i := 806) (by decide +kernel)⟩
theorem lw_p20 : lw_okq (⟨"NearFar$Work", "put", "(II)V"⟩, 9) := ⟨⟨by decide +kernel, by decide +kernel⟩, List.mem_of_getElem? (i := 373) (by decide +kernel), List.mem_of_getElem? (i := 811) (by decide +kernel), List.mem_of_getElem? (i := 812) (by decide +kernel)⟩
theorem lw_p21 : lw_okq (⟨"NearFar$Work", "parseStep", "(ILNearFar$Text;LNearFar$World;)V"⟩, 9) := ⟨⟨by decide +kernel, by decide +kernel⟩, List.mem_of_getElem? (i := 373) (by decide +kernel), List.mem_of_getElem? (i := 815) (by decide +kernel), List.mem_of_getElem? (i := 816) (by decide +kernel)⟩
theorem lw_p22 : lw_okq (⟨"NearFar", "perform", "(I)V"⟩, 6) := ⟨⟨by decide +kernel, by decide +kernel⟩, List.mem_of_getElem? (i := 28) (by decide +kernel), List.mem_of_getElem? (i := 842) (by decide +kernel), List.mem_of_getElem? (i := 843) (by decide +kernel)⟩
theorem lw_p23 : lw_okq (⟨"NearFar", "makeAccess", "(IZ)V"⟩, 6) := ⟨⟨by decide +kernel, by decide +kernel⟩, List.mem_of_getElem? (i := 28) (by decide +kernel), List.mem_of_getElem? (i := 851) (by decide +kernel), List.mem_of_getElem? (i := 852) (by decide +kernel)⟩
theorem lw_p24 : lw_okq (⟨"NearFar$World", "store", "(IIII)V"⟩, 18) := ⟨⟨by decide +kernel, by decide +kernel⟩, List.mem_of_getElem? (i := 36) (by decide +kernel), List.mem_of_getElem? (i := 871) (by decide +kernel), List.mem_of_getElem? (i := 872) (by decide +kernel)⟩
theorem lw_p25 : lw_okq (⟨"NearFar$World", "decide", "(III)V"⟩, 18) := ⟨⟨by decide +kernel, by decide +kernel⟩, List.mem_of_getElem? (i := 36) (by decide +kernel), List.mem_of_getElem? (i := 895) (by decide +kernel), List.mem_of_getElem? (i := 896) (by decide +kernel)⟩
theorem lw_p26 : lw_okq (⟨"NearFar$World", "enlist", "(II)V"⟩, 18) := ⟨⟨by decide +kernel, by decide +kernel⟩, List.mem_of_getElem? (i := 36) (by decide +kernel), List.mem_of_getElem? (i := 920) (by decide +kernel), List.mem_of_getElem? (i := 921) (by decide +kernel)⟩
theorem lw_p27 : lw_okq (⟨"NearFar", "pass", "(I)V"⟩, 6) := ⟨⟨by decide +kernel, by decide +kernel⟩, List.mem_of_getElem? (i := 28) (by decide +kernel), List.mem_of_getElem? (i := 941) (by decide +kernel), List.mem_of_getElem? (i := 942) (by decide +kernel)⟩
theorem lw_p28 : lw_okq (⟨"NearFar", "tickOfFlush", "()I"⟩, 6) := ⟨⟨by decide +kernel, by decide +kernel⟩, List.mem_of_getElem? (i := 28) (by decide +kernel), List.mem_of_getElem? (i := 950) (by decide +kernel), List.mem_of_getElem? (i := 951) (by decide +kernel)⟩
theorem lw_p29 : lw_okq (⟨"NearFar$World", "enlistAll", "()V"⟩, 18) := ⟨⟨by decide +kernel, by decide +kernel⟩, List.mem_of_getElem? (i := 36) (by decide +kernel), List.mem_of_getElem? (i := 962) (by decide +kernel), List.mem_of_getElem? (i := 963) (by decide +kernel)⟩
theorem lw_p30 : lw_okq (⟨"NearFar", "prepareRun", "(II)V"⟩, 6) := ⟨⟨by decide +kernel, by decide +kernel⟩, List.mem_of_getElem? (i := 28) (by decide +kernel), List.mem_of_getElem? (i := 975) (by decide +kernel), List.mem_of_getElem? (i := 976) (by decide +kernel)⟩
theorem lw_p31 : lw_okq (⟨"NearFar", "replay", "(I)V"⟩, 6) := ⟨⟨by decide +kernel, by decide +kernel⟩, List.mem_of_getElem? (i := 28) (by decide +kernel), List.mem_of_getElem? (i := 980) (by decide +kernel), List.mem_of_getElem? (i := 981) (by decide +kernel)⟩
def lw_privs_2 : List (MethodName × Nat) := [(⟨"NearFar$Rule", "add", "(II)V"⟩, 5), (⟨"NearFar$Work", "close", "()V"⟩, 9), (⟨"NearFar$Work", "add", "(I)V"⟩, 9), (⟨"NearFar$Work", "parseAgain", "(LNearFar$Text;)V"⟩, 9), (⟨"NearFar$Work", "put", "(II)V"⟩, 9), (⟨"NearFar$Work", "parseStep", "(ILNearFar$Text;LNearFar$World;)V"⟩, 9), (⟨"NearFar", "perform", "(I)V"⟩, 6), (⟨"NearFar", "makeAccess", "(IZ)V"⟩, 6), (⟨"NearFar$World", "store", "(IIII)V"⟩, 18), (⟨"NearFar$World", "decide", "(III)V"⟩, 18), (⟨"NearFar$World", "enlist", "(II)V"⟩, 18), (⟨"NearFar", "pass", "(I)V"⟩, 6), (⟨"NearFar", "tickOfFlush", "()I"⟩, 6), (⟨"NearFar$World", "enlistAll", "()V"⟩, 18), (⟨"NearFar", "prepareRun", "(II)V"⟩, 6), (⟨"NearFar", "replay", "(I)V"⟩, 6)]
theorem lw_r2 : ∀ q ∈ lw_privs_2, lw_okq q := List.forall_mem_cons.mpr ⟨lw_p16, List.forall_mem_cons.mpr ⟨lw_p17, List.forall_mem_cons.mpr ⟨lw_p18, List.forall_mem_cons.mpr ⟨lw_p19, List.forall_mem_cons.mpr ⟨lw_p20, List.forall_mem_cons.mpr ⟨lw_p21, List.forall_mem_cons.mpr ⟨lw_p22, List.forall_mem_cons.mpr ⟨lw_p23, List.forall_mem_cons.mpr ⟨lw_p24, List.forall_mem_cons.mpr ⟨lw_p25, List.forall_mem_cons.mpr ⟨lw_p26, List.forall_mem_cons.mpr ⟨lw_p27, List.forall_mem_cons.mpr ⟨lw_p28, List.forall_mem_cons.mpr ⟨lw_p29, List.forall_mem_cons.mpr ⟨lw_p30, List.forall_mem_cons.mpr ⟨lw_p31, fun _ h => absurd h List.not_mem_nil⟩⟩⟩⟩⟩⟩⟩⟩⟩⟩⟩⟩⟩⟩⟩⟩
theorem lw_p32 : lw_okq (⟨"NearFar", "needSegment", "(III)V"⟩, 6) := ⟨⟨by decide +kernel, by decide +kernel⟩, List.mem_of_getElem? (i := 28) (by decide +kernel), List.mem_of_getElem? (i := 993) (by decide +kernel), List.mem_of_getElem? (i := 994) (by decide +kernel)⟩
theorem lw_p33 : lw_okq (⟨"NearFar", "needPage", "(II)V"⟩, 6) := ⟨⟨by decide +kernel, by decide +kernel⟩, List.mem_of_getElem? (i := 28) (by decide +kernel), List.mem_of_getElem? (i := 997) (by decide +kernel), List.mem_of_getElem? (i := 998) (by decide +kernel)⟩
theorem lw_p34 : lw_okq (⟨"NearFar", "needMember", "(II)V"⟩, 6) := ⟨⟨by decide +kernel, by decide +kernel⟩, List.mem_of_getElem? (i := 28) (by decide +kernel), List.mem_of_getElem? (i := 1001) (by decide +kernel), List.mem_of_getElem? (i := 1002) (by decide +kernel)⟩
theorem lw_p35 : lw_okq (⟨"NearFar", "needGroup", "(I)V"⟩, 6) := ⟨⟨by decide +kernel, by decide +kernel⟩, List.mem_of_getElem? (i := 28) (by decide +kernel), List.mem_of_getElem? (i := 1064) (by decide +kernel), List.mem_of_getElem? (i := 1065) (by decide +kernel)⟩
theorem lw_p36 : lw_okq (⟨"NearFar", "needTick", "(I)V"⟩, 6) := ⟨⟨by decide +kernel, by decide +kernel⟩, List.mem_of_getElem? (i := 28) (by decide +kernel), List.mem_of_getElem? (i := 1076) (by decide +kernel), List.mem_of_getElem? (i := 1077) (by decide +kernel)⟩
theorem lw_p37 : lw_okq (⟨"NearFar", "lastEnd", "(II)I"⟩, 6) := ⟨⟨by decide +kernel, by decide +kernel⟩, List.mem_of_getElem? (i := 28) (by decide +kernel), List.mem_of_getElem? (i := 1219) (by decide +kernel), List.mem_of_getElem? (i := 1220) (by decide +kernel)⟩
theorem lw_p38 : lw_okq (⟨"NearFarModel", "begins", "()V"⟩, 35) := ⟨⟨by decide +kernel, by decide +kernel⟩, List.mem_of_getElem? (i := 1255) (by decide +kernel), List.mem_of_getElem? (i := 1261) (by decide +kernel), List.mem_of_getElem? (i := 1262) (by decide +kernel)⟩
theorem lw_p39 : lw_okq (⟨"NearFarModel", "sets", "(III)V"⟩, 35) := ⟨⟨by decide +kernel, by decide +kernel⟩, List.mem_of_getElem? (i := 1255) (by decide +kernel), List.mem_of_getElem? (i := 1265) (by decide +kernel), List.mem_of_getElem? (i := 1266) (by decide +kernel)⟩
theorem lw_p40 : lw_okq (⟨"NearFarModel", "puts", "(I)V"⟩, 35) := ⟨⟨by decide +kernel, by decide +kernel⟩, List.mem_of_getElem? (i := 1255) (by decide +kernel), List.mem_of_getElem? (i := 1379) (by decide +kernel), List.mem_of_getElem? (i := 1380) (by decide +kernel)⟩
theorem lw_p41 : lw_okq (⟨"NearFarModel", "isFine", "(ZII)Z"⟩, 35) := ⟨⟨by decide +kernel, by decide +kernel⟩, List.mem_of_getElem? (i := 1255) (by decide +kernel), List.mem_of_getElem? (i := 1390) (by decide +kernel), List.mem_of_getElem? (i := 1391) (by decide +kernel)⟩
theorem lw_p42 : lw_okq (⟨"NearFarModel", "checksRule", "([II)I"⟩, 35) := ⟨⟨by decide +kernel, by decide +kernel⟩, List.mem_of_getElem? (i := 1255) (by decide +kernel), List.mem_of_getElem? (i := 1394) (by decide +kernel), List.mem_of_getElem? (i := 1395) (by decide +kernel)⟩
theorem lw_p43 : lw_okq (⟨"NearFarModel", "readsRule", "([II)Z"⟩, 35) := ⟨⟨by decide +kernel, by decide +kernel⟩, List.mem_of_getElem? (i := 1255) (by decide +kernel), List.mem_of_getElem? (i := 1398) (by decide +kernel), List.mem_of_getElem? (i := 1399) (by decide +kernel)⟩
theorem lw_p44 : lw_okq (⟨"NearFarModel", "reads", "([II)V"⟩, 35) := ⟨⟨by decide +kernel, by decide +kernel⟩, List.mem_of_getElem? (i := 1255) (by decide +kernel), List.mem_of_getElem? (i := 1402) (by decide +kernel), List.mem_of_getElem? (i := 1403) (by decide +kernel)⟩
theorem lw_p45 : lw_okq (⟨"NearFarModel", "either", "()Z"⟩, 35) := ⟨⟨by decide +kernel, by decide +kernel⟩, List.mem_of_getElem? (i := 1255) (by decide +kernel), List.mem_of_getElem? (i := 1406) (by decide +kernel), List.mem_of_getElem? (i := 1407) (by decide +kernel)⟩
theorem lw_p46 : lw_okq (⟨"NearFarModel", "all", "()Z"⟩, 35) := ⟨⟨by decide +kernel, by decide +kernel⟩, List.mem_of_getElem? (i := 1255) (by decide +kernel), List.mem_of_getElem? (i := 1410) (by decide +kernel), List.mem_of_getElem? (i := 1411) (by decide +kernel)⟩
theorem lw_p47 : lw_okq (⟨"NearFarModel", "part", "()Z"⟩, 35) := ⟨⟨by decide +kernel, by decide +kernel⟩, List.mem_of_getElem? (i := 1255) (by decide +kernel), List.mem_of_getElem? (i := 1414) (by decide +kernel), List.mem_of_getElem? (i := 1415) (by decide +kernel)⟩
def lw_privs_3 : List (MethodName × Nat) := [(⟨"NearFar", "needSegment", "(III)V"⟩, 6), (⟨"NearFar", "needPage", "(II)V"⟩, 6), (⟨"NearFar", "needMember", "(II)V"⟩, 6), (⟨"NearFar", "needGroup", "(I)V"⟩, 6), (⟨"NearFar", "needTick", "(I)V"⟩, 6), (⟨"NearFar", "lastEnd", "(II)I"⟩, 6), (⟨"NearFarModel", "begins", "()V"⟩, 35), (⟨"NearFarModel", "sets", "(III)V"⟩, 35), (⟨"NearFarModel", "puts", "(I)V"⟩, 35), (⟨"NearFarModel", "isFine", "(ZII)Z"⟩, 35), (⟨"NearFarModel", "checksRule", "([II)I"⟩, 35), (⟨"NearFarModel", "readsRule", "([II)Z"⟩, 35), (⟨"NearFarModel", "reads", "([II)V"⟩, 35), (⟨"NearFarModel", "either", "()Z"⟩, 35), (⟨"NearFarModel", "all", "()Z"⟩, 35), (⟨"NearFarModel", "part", "()Z"⟩, 35)]
theorem lw_r3 : ∀ q ∈ lw_privs_3, lw_okq q := List.forall_mem_cons.mpr ⟨lw_p32, List.forall_mem_cons.mpr ⟨lw_p33, List.forall_mem_cons.mpr ⟨lw_p34, List.forall_mem_cons.mpr ⟨lw_p35, List.forall_mem_cons.mpr ⟨lw_p36, List.forall_mem_cons.mpr ⟨lw_p37, List.forall_mem_cons.mpr ⟨lw_p38, List.forall_mem_cons.mpr ⟨lw_p39, List.forall_mem_cons.mpr ⟨lw_p40, List.forall_mem_cons.mpr ⟨lw_p41, List.forall_mem_cons.mpr ⟨lw_p42, List.forall_mem_cons.mpr ⟨lw_p43, List.forall_mem_cons.mpr ⟨lw_p44, List.forall_mem_cons.mpr ⟨lw_p45, List.forall_mem_cons.mpr ⟨lw_p46, List.forall_mem_cons.mpr ⟨lw_p47, fun _ h => absurd h List.not_mem_nil⟩⟩⟩⟩⟩⟩⟩⟩⟩⟩⟩⟩⟩⟩⟩⟩
theorem lw_p48 : lw_okq (⟨"NearFarModel", "passes", "(J)Z"⟩, 35) := ⟨⟨by decide +kernel, by decide +kernel⟩, List.mem_of_getElem? (i := 1255) (by decide +kernel), List.mem_of_getElem? (i := 1420) (by decide +kernel), List.mem_of_getElem? (i := 1421) (by decide +kernel)⟩
theorem lw_p49 : lw_okq (⟨"NearFarModel", "isWord", "(J)Z"⟩, 35) := ⟨⟨by decide +kernel, by decide +kernel⟩, List.mem_of_getElem? (i := 1255) (by decide +kernel), List.mem_of_getElem? (i := 1424) (by decide +kernel), List.mem_of_getElem? (i := 1425) (by decide +kernel)⟩
theorem lw_p50 : lw_okq (⟨"NearFarModel", "sign", "()I"⟩, 35) := ⟨⟨by decide +kernel, by decide +kernel⟩, List.mem_of_getElem? (i := 1255) (by decide +kernel), List.mem_of_getElem? (i := 1428) (by decide +kernel), List.mem_of_getElem? (i := 1429) (by decide +kernel)⟩
theorem lw_p51 : lw_okq (⟨"NearFarModel", "isSmall", "(I)Z"⟩, 35) := ⟨⟨by decide +kernel, by decide +kernel⟩, List.mem_of_getElem? (i := 1255) (by decide +kernel), List.mem_of_getElem? (i := 1432) (by decide +kernel), List.mem_of_getElem? (i := 1433) (by decide +kernel)⟩
theorem lw_p52 : lw_okq (⟨"NearFarModel", "isSign", "(I)Z"⟩, 35) := ⟨⟨by decide +kernel, by decide +kernel⟩, List.mem_of_getElem? (i := 1255) (by decide +kernel), List.mem_of_getElem? (i := 1439) (by decide +kernel), List.mem_of_getElem? (i := 1440) (by decide +kernel)⟩
theorem lw_p53 : lw_okq (⟨"NearFarModel", "compared", "()Z"⟩, 35) := ⟨⟨by decide +kernel, by decide +kernel⟩, List.mem_of_getElem? (i := 1255) (by decide +kernel), List.mem_of_getElem? (i := 1443) (by decide +kernel), List.mem_of_getElem? (i := 1444) (by decide +kernel)⟩
theorem lw_p54 : lw_okq (⟨"NearFarModel", "term", "()I"⟩, 35) := ⟨⟨by decide +kernel, by decide +kernel⟩, List.mem_of_getElem? (i := 1255) (by decide +kernel), List.mem_of_getElem? (i := 1447) (by decide +kernel), List.mem_of_getElem? (i := 1448) (by decide +kernel)⟩
theorem lw_p55 : lw_okq (⟨"NearFarModel", "unit", "()I"⟩, 35) := ⟨⟨by decide +kernel, by decide +kernel⟩, List.mem_of_getElem? (i := 1255) (by decide +kernel), List.mem_of_getElem? (i := 1451) (by decide +kernel), List.mem_of_getElem? (i := 1452) (by decide +kernel)⟩
theorem lw_p56 : lw_okq (⟨"NearFarModel", "isNumber", "()Z"⟩, 35) := ⟨⟨by decide +kernel, by decide +kernel⟩, List.mem_of_getElem? (i := 1255) (by decide +kernel), List.mem_of_getElem? (i := 1455) (by decide +kernel), List.mem_of_getElem? (i := 1456) (by decide +kernel)⟩
theorem lw_p57 : lw_okq (⟨"NearFarModel", "number", "(II)I"⟩, 35) := ⟨⟨by decide +kernel, by decide +kernel⟩, List.mem_of_getElem? (i := 1255) (by decide +kernel), List.mem_of_getElem? (i := 1459) (by decide +kernel), List.mem_of_getElem? (i := 1460) (by decide +kernel)⟩
theorem lw_p58 : lw_okq (⟨"NearFarModel", "wrong", "(II)V"⟩, 35) := ⟨⟨by decide +kernel, by decide +kernel⟩, List.mem_of_getElem? (i := 1255) (by decide +kernel), List.mem_of_getElem? (i := 1463) (by decide +kernel), List.mem_of_getElem? (i := 1464) (by decide +kernel)⟩
theorem lw_p59 : lw_okq (⟨"NearFarModel", "least", "(II)I"⟩, 35) := ⟨⟨by decide +kernel, by decide +kernel⟩, List.mem_of_getElem? (i := 1255) (by decide +kernel), List.mem_of_getElem? (i := 1468) (by decide +kernel), List.mem_of_getElem? (i := 1469) (by decide +kernel)⟩
theorem lw_p60 : lw_okq (⟨"NearFarModel", "valueOf", "(I)I"⟩, 35) := ⟨⟨by decide +kernel, by decide +kernel⟩, List.mem_of_getElem? (i := 1255) (by decide +kernel), List.mem_of_getElem? (i := 1474) (by decide +kernel), List.mem_of_getElem? (i := 1475) (by decide +kernel)⟩
theorem lw_p61 : lw_okq (⟨"NearFarModel", "of", "(II)I"⟩, 35) := ⟨⟨by decide +kernel, by decide +kernel⟩, List.mem_of_getElem? (i := 1255) (by decide +kernel), List.mem_of_getElem? (i := 1478) (by decide +kernel), List.mem_of_getElem? (i := 1479) (by decide +kernel)⟩
theorem lw_p62 : lw_okq (⟨"NearFarModel", "most", "(II)I"⟩, 35) := ⟨⟨by decide +kernel, by decide +kernel⟩, List.mem_of_getElem? (i := 1255) (by decide +kernel), List.mem_of_getElem? (i := 1485) (by decide +kernel), List.mem_of_getElem? (i := 1486) (by decide +kernel)⟩
theorem lw_p63 : lw_okq (⟨"NearFarModel", "must", "(I)V"⟩, 35) := ⟨⟨by decide +kernel, by decide +kernel⟩, List.mem_of_getElem? (i := 1255) (by decide +kernel), List.mem_of_getElem? (i := 1489) (by decide +kernel), List.mem_of_getElem? (i := 1490) (by decide +kernel)⟩
def lw_privs_4 : List (MethodName × Nat) := [(⟨"NearFarModel", "passes", "(J)Z"⟩, 35), (⟨"NearFarModel", "isWord", "(J)Z"⟩, 35), (⟨"NearFarModel", "sign", "()I"⟩, 35), (⟨"NearFarModel", "isSmall", "(I)Z"⟩, 35), (⟨"NearFarModel", "isSign", "(I)Z"⟩, 35), (⟨"NearFarModel", "compared", "()Z"⟩, 35), (⟨"NearFarModel", "term", "()I"⟩, 35), (⟨"NearFarModel", "unit", "()I"⟩, 35), (⟨"NearFarModel", "isNumber", "()Z"⟩, 35), (⟨"NearFarModel", "number", "(II)I"⟩, 35), (⟨"NearFarModel", "wrong", "(II)V"⟩, 35), (⟨"NearFarModel", "least", "(II)I"⟩, 35), (⟨"NearFarModel", "valueOf", "(I)I"⟩, 35), (⟨"NearFarModel", "of", "(II)I"⟩, 35), (⟨"NearFarModel", "most", "(II)I"⟩, 35), (⟨"NearFarModel", "must", "(I)V"⟩, 35)]
theorem lw_r4 : ∀ q ∈ lw_privs_4, lw_okq q := List.forall_mem_cons.mpr ⟨lw_p48, List.forall_mem_cons.mpr ⟨lw_p49, List.forall_mem_cons.mpr ⟨lw_p50, List.forall_mem_cons.mpr ⟨lw_p51, List.forall_mem_cons.mpr ⟨lw_p52, List.forall_mem_cons.mpr ⟨lw_p53, List.forall_mem_cons.mpr ⟨lw_p54, List.forall_mem_cons.mpr ⟨lw_p55, List.forall_mem_cons.mpr ⟨lw_p56, List.forall_mem_cons.mpr ⟨lw_p57, List.forall_mem_cons.mpr ⟨lw_p58, List.forall_mem_cons.mpr ⟨lw_p59, List.forall_mem_cons.mpr ⟨lw_p60, List.forall_mem_cons.mpr ⟨lw_p61, List.forall_mem_cons.mpr ⟨lw_p62, List.forall_mem_cons.mpr ⟨lw_p63, fun _ h => absurd h List.not_mem_nil⟩⟩⟩⟩⟩⟩⟩⟩⟩⟩⟩⟩⟩⟩⟩⟩
theorem lw_p64 : lw_okq (⟨"NearFarModel", "ends", "()V"⟩, 35) := ⟨⟨by decide +kernel, by decide +kernel⟩, List.mem_of_getElem? (i := 1255) (by decide +kernel), List.mem_of_getElem? (i := 1497) (by decide +kernel), List.mem_of_getElem? (i := 1498) (by decide +kernel)⟩
theorem lw_p65 : lw_okq (⟨"NearFarModel", "takes", "([II)V"⟩, 35) := ⟨⟨by decide +kernel, by decide +kernel⟩, List.mem_of_getElem? (i := 1255) (by decide +kernel), List.mem_of_getElem? (i := 1501) (by decide +kernel), List.mem_of_getElem? (i := 1502) (by decide +kernel)⟩
theorem lw_p66 : lw_okq (⟨"NearFarModel", "steps", "(I)V"⟩, 35) := ⟨⟨by decide +kernel, by decide +kernel⟩, List.mem_of_getElem? (i := 1255) (by decide +kernel), List.mem_of_getElem? (i := 1509) (by decide +kernel), List.mem_of_getElem? (i := 1510) (by decide +kernel)⟩
theorem lw_p67 : lw_okq (⟨"NearFarModel", "counted", "()V"⟩, 35) := ⟨⟨by decide +kernel, by decide +kernel⟩, List.mem_of_getElem? (i := 1255) (by decide +kernel), List.mem_of_getElem? (i := 1513) (by decide +kernel), List.mem_of_getElem? (i := 1514) (by decide +kernel)⟩
theorem lw_p68 : lw_okq (⟨"NearFarModel", "oneStep", "()V"⟩, 35) := ⟨⟨by decide +kernel, by decide +kernel⟩, List.mem_of_getElem? (i := 1255) (by decide +kernel), List.mem_of_getElem? (i := 1517) (by decide +kernel), List.mem_of_getElem? (i := 1518) (by decide +kernel)⟩
theorem lw_p69 : lw_okq (⟨"NearFarModel", "again", "(I)V"⟩, 35) := ⟨⟨by decide +kernel, by decide +kernel⟩, List.mem_of_getElem? (i := 1255) (by decide +kernel), List.mem_of_getElem? (i := 1523) (by decide +kernel), List.mem_of_getElem? (i := 1524) (by decide +kernel)⟩
theorem lw_p70 : lw_okq (⟨"NearFarModel", "goesOn", "()Z"⟩, 35) := ⟨⟨by decide +kernel, by decide +kernel⟩, List.mem_of_getElem? (i := 1255) (by decide +kernel), List.mem_of_getElem? (i := 1529) (by decide +kernel), List.mem_of_getElem? (i := 1530) (by decide +kernel)⟩
theorem lw_p71 : lw_okq (⟨"NearFarModel", "waits", "(I)V"⟩, 35) := ⟨⟨by decide +kernel, by decide +kernel⟩, List.mem_of_getElem? (i := 1255) (by decide +kernel), List.mem_of_getElem? (i := 1533) (by decide +kernel), List.mem_of_getElem? (i := 1534) (by decide +kernel)⟩
theorem lw_p72 : lw_okq (⟨"NearFarModel", "goesTo", "(I)V"⟩, 35) := ⟨⟨by decide +kernel, by decide +kernel⟩, List.mem_of_getElem? (i := 1255) (by decide +kernel), List.mem_of_getElem? (i := 1538) (by decide +kernel), List.mem_of_getElem? (i := 1539) (by decide +kernel)⟩
theorem lw_p73 : lw_okq (⟨"NearFarModel", "happens", "()V"⟩, 35) := ⟨⟨by decide +kernel, by decide +kernel⟩, List.mem_of_getElem? (i := 1255) (by decide +kernel), List.mem_of_getElem? (i := 1542) (by decide +kernel), List.mem_of_getElem? (i := 1543) (by decide +kernel)⟩
theorem lw_p74 : lw_okq (⟨"NearFarModel", "uses", "(II)I"⟩, 35) := ⟨⟨by decide +kernel, by decide +kernel⟩, List.mem_of_getElem? (i := 1255) (by decide +kernel), List.mem_of_getElem? (i := 1549) (by decide +kernel), List.mem_of_getElem? (i := 1550) (by decide +kernel)⟩
theorem lw_p75 : lw_okq (⟨"NearFarModel", "ordersOf", "(II)I"⟩, 35) := ⟨⟨by decide +kernel, by decide +kernel⟩, List.mem_of_getElem? (i := 1255) (by decide +kernel), List.mem_of_getElem? (i := 1553) (by decide +kernel), List.mem_of_getElem? (i := 1554) (by decide +kernel)⟩
theorem lw_p76 : lw_okq (⟨"NearFarModel", "takesOff", "(I)V"⟩, 35) := ⟨⟨by decide +kernel, by decide +kernel⟩, List.mem_of_getElem? (i := 1255) (by decide +kernel), List.mem_of_getElem? (i := 1557) (by decide +kernel), List.mem_of_getElem? (i := 1558) (by decide +kernel)⟩
theorem lw_p77 : lw_okq (⟨"NearFarModel", "flushes", "()Z"⟩, 35) := ⟨⟨by decide +kernel, by decide +kernel⟩, List.mem_of_getElem? (i := 1255) (by decide +kernel), List.mem_of_getElem? (i := 1563) (by decide +kernel), List.mem_of_getElem? (i := 1564) (by decide +kernel)⟩
theorem lw_p78 : lw_okq (⟨"NearFarModel", "ordersWhatIsSwapped", "()V"⟩, 35) := ⟨⟨by decide +kernel, by decide +kernel⟩, List.mem_of_getElem? (i := 1255) (by decide +kernel), List.mem_of_getElem? (i := 1567) (by decide +kernel), List.mem_of_getElem? (i := 1568) (by decide +kernel)⟩
theorem lw_p79 : lw_okq (⟨"NearFarModel", "isSwapped", "(II)Z"⟩, 35) := ⟨⟨by decide +kernel, by decide +kernel⟩, List.mem_of_getElem? (i := 1255) (by decide +kernel), List.mem_of_getElem? (i := 1571) (by decide +kernel), List.mem_of_getElem? (i := 1572) (by decide +kernel)⟩
def lw_privs_5 : List (MethodName × Nat) := [(⟨"NearFarModel", "ends", "()V"⟩, 35), (⟨"NearFarModel", "takes", "([II)V"⟩, 35), (⟨"NearFarModel", "steps", "(I)V"⟩, 35), (⟨"NearFarModel", "counted", "()V"⟩, 35), (⟨"NearFarModel", "oneStep", "()V"⟩, 35), (⟨"NearFarModel", "again", "(I)V"⟩, 35), (⟨"NearFarModel", "goesOn", "()Z"⟩, 35), (⟨"NearFarModel", "waits", "(I)V"⟩, 35), (⟨"NearFarModel", "goesTo", "(I)V"⟩, 35), (⟨"NearFarModel", "happens", "()V"⟩, 35), (⟨"NearFarModel", "uses", "(II)I"⟩, 35), (⟨"NearFarModel", "ordersOf", "(II)I"⟩, 35), (⟨"NearFarModel", "takesOff", "(I)V"⟩, 35), (⟨"NearFarModel", "flushes", "()Z"⟩, 35), (⟨"NearFarModel", "ordersWhatIsSwapped", "()V"⟩, 35), (⟨"NearFarModel", "isSwapped", "(II)Z"⟩, 35)]
theorem lw_r5 : ∀ q ∈ lw_privs_5, lw_okq q := List.forall_mem_cons.mpr ⟨lw_p64, List.forall_mem_cons.mpr ⟨lw_p65, List.forall_mem_cons.mpr ⟨lw_p66, List.forall_mem_cons.mpr ⟨lw_p67, List.forall_mem_cons.mpr ⟨lw_p68, List.forall_mem_cons.mpr ⟨lw_p69, List.forall_mem_cons.mpr ⟨lw_p70, List.forall_mem_cons.mpr ⟨lw_p71, List.forall_mem_cons.mpr ⟨lw_p72, List.forall_mem_cons.mpr ⟨lw_p73, List.forall_mem_cons.mpr ⟨lw_p74, List.forall_mem_cons.mpr ⟨lw_p75, List.forall_mem_cons.mpr ⟨lw_p76, List.forall_mem_cons.mpr ⟨lw_p77, List.forall_mem_cons.mpr ⟨lw_p78, List.forall_mem_cons.mpr ⟨lw_p79, fun _ h => absurd h List.not_mem_nil⟩⟩⟩⟩⟩⟩⟩⟩⟩⟩⟩⟩⟩⟩⟩⟩
theorem lw_p80 : lw_okq (⟨"NearFarModel", "orders", "(II)V"⟩, 35) := ⟨⟨by decide +kernel, by decide +kernel⟩, List.mem_of_getElem? (i := 1255) (by decide +kernel), List.mem_of_getElem? (i := 1575) (by decide +kernel), List.mem_of_getElem? (i := 1576) (by decide +kernel)⟩
theorem lw_p81 : lw_okq (⟨"NearFarModel", "isOrdered", "(II)Z"⟩, 35) := ⟨⟨by decide +kernel, by decide +kernel⟩, List.mem_of_getElem? (i := 1255) (by decide +kernel), List.mem_of_getElem? (i := 1579) (by decide +kernel), List.mem_of_getElem? (i := 1580) (by decide +kernel)⟩
theorem lw_p82 : lw_okq (⟨"NearFarModel", "runsOut", "()V"⟩, 35) := ⟨⟨by decide +kernel, by decide +kernel⟩, List.mem_of_getElem? (i := 1255) (by decide +kernel), List.mem_of_getElem? (i := 1583) (by decide +kernel), List.mem_of_getElem? (i := 1584) (by decide +kernel)⟩
theorem lw_p83 : lw_okq (⟨"NearFarModel", "swappedAll", "()I"⟩, 35) := ⟨⟨by decide +kernel, by decide +kernel⟩, List.mem_of_getElem? (i := 1255) (by decide +kernel), List.mem_of_getElem? (i := 1587) (by decide +kernel), List.mem_of_getElem? (i := 1588) (by decide +kernel)⟩
theorem lw_p84 : lw_okq (⟨"NearFarModel", "accessStep", "()V"⟩, 35) := ⟨⟨by decide +kernel, by decide +kernel⟩, List.mem_of_getElem? (i := 1255) (by decide +kernel), List.mem_of_getElem? (i := 1591) (by decide +kernel), List.mem_of_getElem? (i := 1592) (by decide +kernel)⟩
theorem lw_p85 : lw_okq (⟨"NearFarModel", "worksAt", "(IIIII)V"⟩, 35) := ⟨⟨by decide +kernel, by decide +kernel⟩, List.mem_of_getElem? (i := 1255) (by decide +kernel), List.mem_of_getElem? (i := 1602) (by decide +kernel), List.mem_of_getElem? (i := 1603) (by decide +kernel)⟩
theorem lw_p86 : lw_okq (⟨"NearFarModel", "accesses", "(IIIII)I"⟩, 35) := ⟨⟨by decide +kernel, by decide +kernel⟩, List.mem_of_getElem? (i := 1255) (by decide +kernel), List.mem_of_getElem? (i := 1606) (by decide +kernel), List.mem_of_getElem? (i := 1607) (by decide +kernel)⟩
theorem lw_p87 : lw_okq (⟨"NearFarModel", "cell", "(III)I"⟩, 35) := ⟨⟨by decide +kernel, by decide +kernel⟩, List.mem_of_getElem? (i := 1255) (by decide +kernel), List.mem_of_getElem? (i := 1610) (by decide +kernel), List.mem_of_getElem? (i := 1611) (by decide +kernel)⟩
theorem lw_p88 : lw_okq (⟨"NearFarModel", "place", "(III)I"⟩, 35) := ⟨⟨by decide +kernel, by decide +kernel⟩, List.mem_of_getElem? (i := 1255) (by decide +kernel), List.mem_of_getElem? (i := 1614) (by decide +kernel), List.mem_of_getElem? (i := 1615) (by decide +kernel)⟩
theorem lw_p89 : lw_okq (⟨"NearFarModel", "goes", "(III)V"⟩, 35) := ⟨⟨by decide +kernel, by decide +kernel⟩, List.mem_of_getElem? (i := 1255) (by decide +kernel), List.mem_of_getElem? (i := 1618) (by decide +kernel), List.mem_of_getElem? (i := 1619) (by decide +kernel)⟩
theorem lw_p90 : lw_okq (⟨"NearFarModel", "tagOf", "(I)I"⟩, 35) := ⟨⟨by decide +kernel, by decide +kernel⟩, List.mem_of_getElem? (i := 1255) (by decide +kernel), List.mem_of_getElem? (i := 1622) (by decide +kernel), List.mem_of_getElem? (i := 1623) (by decide +kernel)⟩
theorem lw_p91 : lw_okq (⟨"NearFarModel", "tagFirst", "(II)V"⟩, 35) := ⟨⟨by decide +kernel, by decide +kernel⟩, List.mem_of_getElem? (i := 1255) (by decide +kernel), List.mem_of_getElem? (i := 1626) (by decide +kernel), List.mem_of_getElem? (i := 1627) (by decide +kernel)⟩
theorem lw_p92 : lw_okq (⟨"NearFarModel", "votes", "(II)V"⟩, 35) := ⟨⟨by decide +kernel, by decide +kernel⟩, List.mem_of_getElem? (i := 1255) (by decide +kernel), List.mem_of_getElem? (i := 1630) (by decide +kernel), List.mem_of_getElem? (i := 1631) (by decide +kernel)⟩
theorem lw_p93 : lw_okq (⟨"NearFarModel", "aged", "(I)I"⟩, 35) := ⟨⟨by decide +kernel, by decide +kernel⟩, List.mem_of_getElem? (i := 1255) (by decide +kernel), List.mem_of_getElem? (i := 1634) (by decide +kernel), List.mem_of_getElem? (i := 1635) (by decide +kernel)⟩
theorem lw_p94 : lw_okq (⟨"NearFarModel", "counts", "(II)V"⟩, 35) := ⟨⟨by decide +kernel, by decide +kernel⟩, List.mem_of_getElem? (i := 1255) (by decide +kernel), List.mem_of_getElem? (i := 1638) (by decide +kernel), List.mem_of_getElem? (i := 1639) (by decide +kernel)⟩
theorem lw_p95 : lw_okq (⟨"NearFarModel", "decides", "(III)V"⟩, 35) := ⟨⟨by decide +kernel, by decide +kernel⟩, List.mem_of_getElem? (i := 1255) (by decide +kernel), List.mem_of_getElem? (i := 1642) (by decide +kernel), List.mem_of_getElem? (i := 1643) (by decide +kernel)⟩
def lw_privs_6 : List (MethodName × Nat) := [(⟨"NearFarModel", "orders", "(II)V"⟩, 35), (⟨"NearFarModel", "isOrdered", "(II)Z"⟩, 35), (⟨"NearFarModel", "runsOut", "()V"⟩, 35), (⟨"NearFarModel", "swappedAll", "()I"⟩, 35), (⟨"NearFarModel", "accessStep", "()V"⟩, 35), (⟨"NearFarModel", "worksAt", "(IIIII)V"⟩, 35), (⟨"NearFarModel", "accesses", "(IIIII)I"⟩, 35), (⟨"NearFarModel", "cell", "(III)I"⟩, 35), (⟨"NearFarModel", "place", "(III)I"⟩, 35), (⟨"NearFarModel", "goes", "(III)V"⟩, 35), (⟨"NearFarModel", "tagOf", "(I)I"⟩, 35), (⟨"NearFarModel", "tagFirst", "(II)V"⟩, 35), (⟨"NearFarModel", "votes", "(II)V"⟩, 35), (⟨"NearFarModel", "aged", "(I)I"⟩, 35), (⟨"NearFarModel", "counts", "(II)V"⟩, 35), (⟨"NearFarModel", "decides", "(III)V"⟩, 35)]
theorem lw_r6 : ∀ q ∈ lw_privs_6, lw_okq q := List.forall_mem_cons.mpr ⟨lw_p80, List.forall_mem_cons.mpr ⟨lw_p81, List.forall_mem_cons.mpr ⟨lw_p82, List.forall_mem_cons.mpr ⟨lw_p83, List.forall_mem_cons.mpr ⟨lw_p84, List.forall_mem_cons.mpr ⟨lw_p85, List.forall_mem_cons.mpr ⟨lw_p86, List.forall_mem_cons.mpr ⟨lw_p87, List.forall_mem_cons.mpr ⟨lw_p88, List.forall_mem_cons.mpr ⟨lw_p89, List.forall_mem_cons.mpr ⟨lw_p90, List.forall_mem_cons.mpr ⟨lw_p91, List.forall_mem_cons.mpr ⟨lw_p92, List.forall_mem_cons.mpr ⟨lw_p93, List.forall_mem_cons.mpr ⟨lw_p94, List.forall_mem_cons.mpr ⟨lw_p95, fun _ h => absurd h List.not_mem_nil⟩⟩⟩⟩⟩⟩⟩⟩⟩⟩⟩⟩⟩⟩⟩⟩
theorem lw_p96 : lw_okq (⟨"NearFarModel", "hasRule", "()Z"⟩, 35) := ⟨⟨by decide +kernel, by decide +kernel⟩, List.mem_of_getElem? (i := 1255) (by decide +kernel), List.mem_of_getElem? (i := 1646) (by decide +kernel), List.mem_of_getElem? (i := 1647) (by decide +kernel)⟩
theorem lw_p97 : lw_okq (⟨"NearFarModel", "ruleIs", "(II)Z"⟩, 35) := ⟨⟨by decide +kernel, by decide +kernel⟩, List.mem_of_getElem? (i := 1255) (by decide +kernel), List.mem_of_getElem? (i := 1650) (by decide +kernel), List.mem_of_getElem? (i := 1651) (by decide +kernel)⟩
theorem lw_p98 : lw_okq (⟨"NearFarModel", "ordersAll", "(I)V"⟩, 35) := ⟨⟨by decide +kernel, by decide +kernel⟩, List.mem_of_getElem? (i := 1255) (by decide +kernel), List.mem_of_getElem? (i := 1654) (by decide +kernel), List.mem_of_getElem? (i := 1655) (by decide +kernel)⟩
theorem lw_p99 : lw_okq (⟨"NearFarModel", "balances", "()V"⟩, 35) := ⟨⟨by decide +kernel, by decide +kernel⟩, List.mem_of_getElem? (i := 1255) (by decide +kernel), List.mem_of_getElem? (i := 1658) (by decide +kernel), List.mem_of_getElem? (i := 1659) (by decide +kernel)⟩
theorem lw_p100 : lw_okq (⟨"NearFarModel", "remembers", "(IIII)V"⟩, 35) := ⟨⟨by decide +kernel, by decide +kernel⟩, List.mem_of_getElem? (i := 1255) (by decide +kernel), List.mem_of_getElem? (i := 1662) (by decide +kernel), List.mem_of_getElem? (i := 1663) (by decide +kernel)⟩
theorem lw_p101 : lw_okq (⟨"NearFarModel", "isOne", "(III)Z"⟩, 35) := ⟨⟨by decide +kernel, by decide +kernel⟩, List.mem_of_getElem? (i := 1255) (by decide +kernel), List.mem_of_getElem? (i := 1682) (by decide +kernel), List.mem_of_getElem? (i := 1683) (by decide +kernel)⟩
theorem lw_p102 : lw_okq (⟨"NearFarModel", "isPage", "(II)Z"⟩, 35) := ⟨⟨by decide +kernel, by decide +kernel⟩, List.mem_of_getElem? (i := 1255) (by decide +kernel), List.mem_of_getElem? (i := 1706) (by decide +kernel), List.mem_of_getElem? (i := 1707) (by decide +kernel)⟩
theorem lw_p103 : lw_okq (⟨"NearFarModel", "isGroup", "(I)Z"⟩, 35) := ⟨⟨by decide +kernel, by decide +kernel⟩, List.mem_of_getElem? (i := 1255) (by decide +kernel), List.mem_of_getElem? (i := 1714) (by decide +kernel), List.mem_of_getElem? (i := 1715) (by decide +kernel)⟩
theorem lw_p104 : lw_okq (⟨"NearFarModel", "pins", "()I"⟩, 35) := ⟨⟨by decide +kernel, by decide +kernel⟩, List.mem_of_getElem? (i := 1255) (by decide +kernel), List.mem_of_getElem? (i := 1722) (by decide +kernel), List.mem_of_getElem? (i := 1723) (by decide +kernel)⟩
theorem lw_p105 : lw_okq (⟨"NearFarModel", "laysAside", "()V"⟩, 35) := ⟨⟨by decide +kernel, by decide +kernel⟩, List.mem_of_getElem? (i := 1255) (by decide +kernel), List.mem_of_getElem? (i := 1774) (by decide +kernel), List.mem_of_getElem? (i := 1775) (by decide +kernel)⟩
theorem lw_p106 : lw_okq (⟨"NearFarModel", "laysBack", "()V"⟩, 35) := ⟨⟨by decide +kernel, by decide +kernel⟩, List.mem_of_getElem? (i := 1255) (by decide +kernel), List.mem_of_getElem? (i := 1778) (by decide +kernel), List.mem_of_getElem? (i := 1779) (by decide +kernel)⟩
theorem lw_p107 : lw_okq (⟨"NearFarModel", "runs", "(III)I"⟩, 35) := ⟨⟨by decide +kernel, by decide +kernel⟩, List.mem_of_getElem? (i := 1255) (by decide +kernel), List.mem_of_getElem? (i := 1802) (by decide +kernel), List.mem_of_getElem? (i := 1803) (by decide +kernel)⟩
theorem lw_p108 : lw_okq (⟨"NearFarModel", "runsPlainly", "(III)I"⟩, 35) := ⟨⟨by decide +kernel, by decide +kernel⟩, List.mem_of_getElem? (i := 1255) (by decide +kernel), List.mem_of_getElem? (i := 1810) (by decide +kernel), List.mem_of_getElem? (i := 1811) (by decide +kernel)⟩
theorem lw_p109 : lw_okq (⟨"NearFarModel", "missesBy", "(II)I"⟩, 35) := ⟨⟨by decide +kernel, by decide +kernel⟩, List.mem_of_getElem? (i := 1255) (by decide +kernel), List.mem_of_getElem? (i := 1822) (by decide +kernel), List.mem_of_getElem? (i := 1823) (by decide +kernel)⟩
def lw_privs_7 : List (MethodName × Nat) := [(⟨"NearFarModel", "hasRule", "()Z"⟩, 35), (⟨"NearFarModel", "ruleIs", "(II)Z"⟩, 35), (⟨"NearFarModel", "ordersAll", "(I)V"⟩, 35), (⟨"NearFarModel", "balances", "()V"⟩, 35), (⟨"NearFarModel", "remembers", "(IIII)V"⟩, 35), (⟨"NearFarModel", "isOne", "(III)Z"⟩, 35), (⟨"NearFarModel", "isPage", "(II)Z"⟩, 35), (⟨"NearFarModel", "isGroup", "(I)Z"⟩, 35), (⟨"NearFarModel", "pins", "()I"⟩, 35), (⟨"NearFarModel", "laysAside", "()V"⟩, 35), (⟨"NearFarModel", "laysBack", "()V"⟩, 35), (⟨"NearFarModel", "runs", "(III)I"⟩, 35), (⟨"NearFarModel", "runsPlainly", "(III)I"⟩, 35), (⟨"NearFarModel", "missesBy", "(II)I"⟩, 35)]
theorem lw_r7 : ∀ q ∈ lw_privs_7, lw_okq q := List.forall_mem_cons.mpr ⟨lw_p96, List.forall_mem_cons.mpr ⟨lw_p97, List.forall_mem_cons.mpr ⟨lw_p98, List.forall_mem_cons.mpr ⟨lw_p99, List.forall_mem_cons.mpr ⟨lw_p100, List.forall_mem_cons.mpr ⟨lw_p101, List.forall_mem_cons.mpr ⟨lw_p102, List.forall_mem_cons.mpr ⟨lw_p103, List.forall_mem_cons.mpr ⟨lw_p104, List.forall_mem_cons.mpr ⟨lw_p105, List.forall_mem_cons.mpr ⟨lw_p106, List.forall_mem_cons.mpr ⟨lw_p107, List.forall_mem_cons.mpr ⟨lw_p108, List.forall_mem_cons.mpr ⟨lw_p109, fun _ h => absurd h List.not_mem_nil⟩⟩⟩⟩⟩⟩⟩⟩⟩⟩⟩⟩⟩⟩
def lw_privs : List (MethodName × Nat) := lw_privs_1 ++ (lw_privs_2 ++ (lw_privs_3 ++ (lw_privs_4 ++ (lw_privs_5 ++ (lw_privs_6 ++ (lw_privs_7))))))
def lw_tbl : List Cond := k2_sels lw_privs ++ tables_1
theorem lw_privs_ok : ∀ q ∈ lw_privs, lw_okq q := by
  show ∀ q ∈ lw_privs_1 ++ (lw_privs_2 ++ (lw_privs_3 ++ (lw_privs_4 ++ (lw_privs_5 ++ (lw_privs_6 ++ (lw_privs_7)))))), lw_okq q
  exact List.forall_mem_append.mpr ⟨lw_r1, List.forall_mem_append.mpr ⟨lw_r2, List.forall_mem_append.mpr ⟨lw_r3, List.forall_mem_append.mpr ⟨lw_r4, List.forall_mem_append.mpr ⟨lw_r5, List.forall_mem_append.mpr ⟨lw_r6, lw_r7⟩⟩⟩⟩⟩⟩
-- ===== end of PART A; then your names; then what follows =====
/-! the words, by places: chunk * 1000 + place -/
def zch (k : Nat) : List Cond := match k with
  | 0 => [Cond.code x code maxLocals ret]
  | 1 => tables_1_1
  | 2 => tables_1_2
  | 3 => tables_1_3
  | 4 => tables_1_4
  | 5 => tables_1_5
  | 6 => tables_1_6
  | 7 => tables_1_7
  | 8 => tables_1_8
  | 20 => k2_sels lw_privs
  | _ => []
def zbig : List Cond := Cond.code x code maxLocals ret :: lw_tbl
def zGt : List Cond := zbig.filter goodWord
def gI (i : Nat) (w : Cond) : Bool := (match (zch (i / 1000))[i % 1000]? with | some v => decide (v = w) | none => false) && goodWord w
theorem zch_in {k : Nat} {w : Cond} (h : w ∈ zch k) : w ∈ zbig := by
  have ht : ∀ w, w ∈ tables_1 → w ∈ zbig := fun w hw => List.mem_cons_of_mem _ (List.mem_append_right _ hw)
  unfold zch at h
  split at h
  · rcases List.mem_singleton.mp h with rfl; exact List.mem_cons_self
  · exact ht _ (List.mem_append_left _ h)
  · exact ht _ (List.mem_append_right _ (List.mem_append_left _ h))
  · exact ht _ (List.mem_append_right _ (List.mem_append_right _ (List.mem_append_left _ h)))
  · exact ht _ (List.mem_append_right _ (List.mem_append_right _ (List.mem_append_right _ (List.mem_append_left _ h))))
  · exact ht _ (List.mem_append_right _ (List.mem_append_right _ (List.mem_append_right _ (List.mem_append_right _ (List.mem_append_left _ h)))))
  · exact ht _ (List.mem_append_right _ (List.mem_append_right _ (List.mem_append_right _ (List.mem_append_right _ (List.mem_append_right _ (List.mem_append_left _ h))))))
  · exact ht _ (List.mem_append_right _ (List.mem_append_right _ (List.mem_append_right _ (List.mem_append_right _ (List.mem_append_right _ (List.mem_append_right _ (List.mem_append_left _ h)))))))
  · exact ht _ (List.mem_append_right _ (List.mem_append_right _ (List.mem_append_right _ (List.mem_append_right _ (List.mem_append_right _ (List.mem_append_right _ (List.mem_append_right _ (h))))))))
  · exact List.mem_cons_of_mem _ (List.mem_append_left _ h)
  · cases h
theorem gI_ok {i : Nat} {w : Cond} (h : gI i w = true) : w ∈ zGt := by
  simp only [gI, Bool.and_eq_true] at h
  obtain ⟨h1, h2⟩ := h
  split at h1
  · rename_i v e
    have : v = w := by simpa using h1
    subst this
    exact List.mem_filter.mpr ⟨zch_in (List.mem_of_getElem? e), h2⟩
  · cases h1
/-! the classes, the statics, the texts -/
def zcT_0 : u_T := fun k => match k with
  | 0 => ("NearFar$Balance", "limit", "I", false)
  | 1 => ("NearFar$Balance", "made", "I", false)
  | 2 => ("NearFar$Balance", "near", "I", false)
  | _ => ("NearFar$Balance", "far", "I", false)
def zcT_1 : u_T := fun k => match k with
  | 0 => ("NearFar$History", "ring", "[I", true)
  | 1 => ("NearFar$History", "next", "I", false)
  | _ => ("NearFar$History", "count", "I", false)
def zcT_2 : u_T := fun k => match k with
  | 0 => ("NearFar$Orders", "group", "[I", true)
  | 1 => ("NearFar$Orders", "segment", "[I", true)
  | 2 => ("NearFar$Orders", "ofGroup", "[I", true)
  | 3 => ("NearFar$Orders", "count", "I", false)
  | 4 => ("NearFar$Orders", "phase", "I", false)
  | 5 => ("NearFar$Orders", "end", "I", false)
  | 6 => ("NearFar$Orders", "bufferA", "I", false)
  | 7 => ("NearFar$Orders", "bufferB", "I", false)
  | 8 => ("NearFar$Orders", "ended", "I", false)
  | _ => ("NearFar$Orders", "wanting", "I", false)
def zcT_3 : u_T := fun k => match k with
  | 0 => ("NearFar$Rule", "operations", "[I", true)
  | 1 => ("NearFar$Rule", "operands", "[I", true)
  | 2 => ("NearFar$Rule", "stack", "[J", true)
  | 3 => ("NearFar$Rule", "count", "I", false)
  | _ => ("NearFar$Rule", "signs", "I", false)
def zcT_4 : u_T := fun k => match k with
  | 0 => ("NearFar$Tags", "row", "[I", true)
  | _ => ("NearFar$Tags", "count", "I", false)
def zcT_5 : u_T := fun k => match k with
  | 0 => ("NearFar$Tally", "sums", "[J", true)
  | _ => ("NearFar$Tally", "latest", "[I", true)
def zcT_6 : u_T := fun k => match k with
  | 0 => ("NearFar$Text", "tokens", "[I", true)
  | 1 => ("NearFar$Text", "starts", "[I", true)
  | 2 => ("NearFar$Text", "values", "[I", true)
  | 3 => ("NearFar$Text", "bytes", "[B", true)
  | 4 => ("NearFar$Text", "held", "I", false)
  | 5 => ("NearFar$Text", "fault", "I", false)
  | 6 => ("NearFar$Text", "place", "I", false)
  | _ => ("NearFar$Text", "at", "I", false)
def zcT_7 : u_T := fun k => match k with
  | 0 => ("NearFar$Votes", "candidate", "[I", true)
  | 1 => ("NearFar$Votes", "balance", "[I", true)
  | 2 => ("NearFar$Votes", "castAt", "[I", true)
  | 3 => ("NearFar$Votes", "asked", "[I", true)
  | _ => ("NearFar$Votes", "askedPages", "[I", true)
def zcT_8 : u_T := fun k => match k with
  | 0 => ("NearFar$Work", "steps", "[I", true)
  | 1 => ("NearFar$Work", "firsts", "[I", true)
  | 2 => ("NearFar$Work", "left", "[I", true)
  | 3 => ("NearFar$Work", "count", "I", false)
  | 4 => ("NearFar$Work", "open", "I", false)
  | 5 => ("NearFar$Work", "at", "I", false)
  | 6 => ("NearFar$Work", "begun", "I", false)
  | 7 => ("NearFar$Work", "made", "I", false)
  | _ => ("NearFar$Work", "over", "Z", false)
def zcT_9 : u_T := fun k => match k with
  | 0 => ("NearFar$World", "settings", "[I", true)
  | 1 => ("NearFar$World", "rule", "LNearFar$Rule;", true)
  | 2 => ("NearFar$World", "ruleValues", "[J", true)
  | 3 => ("NearFar$World", "free", "[I", true)
  | 4 => ("NearFar$World", "words", "[I", true)
  | 5 => ("NearFar$World", "resident", "[I", true)
  | 6 => ("NearFar$World", "swapped", "[I", true)
  | 7 => ("NearFar$World", "pins", "[I", true)
  | 8 => ("NearFar$World", "orders", "LNearFar$Orders;", true)
  | 9 => ("NearFar$World", "votes", "LNearFar$Votes;", true)
  | 10 => ("NearFar$World", "tags", "LNearFar$Tags;", true)
  | 11 => ("NearFar$World", "balance", "LNearFar$Balance;", true)
  | 12 => ("NearFar$World", "tally", "LNearFar$Tally;", true)
  | 13 => ("NearFar$World", "past", "LNearFar$History;", true)
  | 14 => ("NearFar$World", "groups", "I", false)
  | 15 => ("NearFar$World", "ways", "I", false)
  | 16 => ("NearFar$World", "segments", "I", false)
  | _ => ("NearFar$World", "now", "I", false)
def zcT_10 : u_T := fun k => match k with
  | 0 => ("NearFar", "world", "LNearFar$World;", true)
  | 1 => ("NearFar", "thought", "LNearFar$World;", true)
  | 2 => ("NearFar", "tape", "LNearFar$Text;", true)
  | 3 => ("NearFar", "draft", "LNearFar$Rule;", true)
  | 4 => ("NearFar", "plan", "LNearFar$Work;", true)
  | _ => ("NearFar", "refused", "[I", true)
def zcT_11 : u_T := fun k => match k with
  | 0 => ("NearFarModel", "thrown", "I", false)
  | 1 => ("NearFarModel", "refused", "[I", true)
  | 2 => ("NearFarModel", "m", "[I", true)
  | 3 => ("NearFarModel", "kept", "[I", true)
  | 4 => ("NearFarModel", "before", "[I", true)
  | 5 => ("NearFarModel", "groups", "I", false)
  | 6 => ("NearFarModel", "ways", "I", false)
  | 7 => ("NearFarModel", "segments", "I", false)
  | 8 => ("NearFarModel", "latencies", "J", false)
  | 9 => ("NearFarModel", "keptLatencies", "J", false)
  | 10 => ("NearFarModel", "kind", "I", false)
  | 11 => ("NearFarModel", "where", "I", false)
  | 12 => ("NearFarModel", "latency", "I", false)
  | 13 => ("NearFarModel", "tape", "[B", true)
  | 14 => ("NearFarModel", "ruleText", "[I", true)
  | 15 => ("NearFarModel", "otherText", "[I", true)
  | 16 => ("NearFarModel", "workText", "[I", true)
  | 17 => ("NearFarModel", "taped", "I", false)
  | 18 => ("NearFarModel", "ruleSize", "I", false)
  | 19 => ("NearFarModel", "otherSize", "I", false)
  | 20 => ("NearFarModel", "signs", "I", false)
  | 21 => ("NearFarModel", "isOther", "Z", false)
  | 22 => ("NearFarModel", "text", "[I", false)
  | 23 => ("NearFarModel", "size", "I", false)
  | 24 => ("NearFarModel", "next", "I", false)
  | 25 => ("NearFarModel", "fault", "I", false)
  | 26 => ("NearFarModel", "faultAt", "I", false)
  | 27 => ("NearFarModel", "atGroup", "I", false)
  | 28 => ("NearFarModel", "atPage", "I", false)
  | 29 => ("NearFarModel", "open", "I", false)
  | 30 => ("NearFarModel", "isPlain", "Z", false)
  | 31 => ("NearFarModel", "ruleSigns", "I", false)
  | 32 => ("NearFarModel", "does", "Z", false)
  | 33 => ("NearFarModel", "workMany", "I", false)
  | _ => ("NearFarModel", "stepMany", "I", false)
def zcl : List vw_C := [("NearFar$Balance", zcT_0, 4), ("NearFar$History", zcT_1, 3), ("NearFar$Orders", zcT_2, 10), ("NearFar$Rule", zcT_3, 5), ("NearFar$Tags", zcT_4, 2), ("NearFar$Tally", zcT_5, 2), ("NearFar$Text", zcT_6, 8), ("NearFar$Votes", zcT_7, 5), ("NearFar$Work", zcT_8, 9), ("NearFar$World", zcT_9, 18), ("NearFar", zcT_10, 6), ("NearFarModel", zcT_11, 35)]
def zXt : mTkP := ([("NearFar", "LOWEST", "[I", .ref 1001), ("NearFar", "HIGHEST", "[I", .ref 1002), ("NearFarModel", "WHAT", "[J", .ref 1003), ("NearFarModel", "OR", "J", .long 498), ("NearFarModel", "AND", "J", .long 1476), ("NearFarModel", "NOT", "J", .long 14836), ("NearFarModel", "READ", "J", .long 594980), ("NearFarModel", "WRITE", "J", .long 24716933), ("NearFarModel", "SWEEP", "J", .long 20681904), ("NearFarModel", "WAIT", "J", .long 754996), ("NearFarModel", "FLUSH", "J", .long 6706792), ("NearFarModel", "AGAIN", "J", .long 1279278)],
  [("NearFar", 347, "no such group, page, segment, order or access", 1005), ("NearFar", 354, "an argument is out of its range", 1006), ("NearFar", 363, "the clock would be above 1,000,000", 1007), ("NearFar$Text", 63, "votes swapped orders near far limit page hits misses plain or and not read write sweep wait flush again ", 1004)],
  [.methodLinkNest "NearFar" 21 ⟨"NearFar$Text", "<init>", "()V"⟩ "NearFar",
    .methodLinkNest "NearFar" 28 ⟨"NearFar$Rule", "<init>", "()V"⟩ "NearFar",
    .methodLinkNest "NearFar" 35 ⟨"NearFar$Work", "<init>", "()V"⟩ "NearFar",
    .methodLinkNest "NearFar$World" 17 ⟨"NearFar$Rule", "<init>", "()V"⟩ "NearFar",
    .methodLinkNest "NearFar$World" 43 ⟨"NearFar$Orders", "<init>", "()V"⟩ "NearFar",
    .methodLinkNest "NearFar$World" 50 ⟨"NearFar$Votes", "<init>", "()V"⟩ "NearFar",
    .methodLinkNest "NearFar$World" 57 ⟨"NearFar$Tags", "<init>", "()V"⟩ "NearFar",
    .methodLinkNest "NearFar$World" 64 ⟨"NearFar$Balance", "<init>", "()V"⟩ "NearFar",
    .methodLinkNest "NearFar$World" 71 ⟨"NearFar$Tally", "<init>", "()V"⟩ "NearFar",
    .methodLinkNest "NearFar$World" 78 ⟨"NearFar$History", "<init>", "()V"⟩ "NearFar",
    .castable "java/util/NoSuchElementException" "java/util/NoSuchElementException",
    .castable "java/lang/IllegalArgumentException" "java/lang/IllegalArgumentException",
    .castable "java/lang/IllegalStateException" "java/lang/IllegalStateException",
    .declares ⟨"java/lang/RuntimeException", "<init>", "()V"⟩,
    .declares ⟨"java/lang/RuntimeException", "<init>", "(Ljava/lang/String;)V"⟩,
    .declares ⟨"java/lang/Exception", "<init>", "()V"⟩,
    .declares ⟨"java/lang/Exception", "<init>", "(Ljava/lang/String;)V"⟩,
    .declares ⟨"java/lang/Throwable", "<init>", "()V"⟩,
    .declares ⟨"java/lang/Throwable", "<init>", "(Ljava/lang/String;)V"⟩],
  [("java/util/NoSuchElementException", "java/lang/IllegalArgumentException"), ("java/util/NoSuchElementException", "java/lang/IllegalStateException"), ("java/lang/IllegalArgumentException", "java/util/NoSuchElementException"), ("java/lang/IllegalArgumentException", "java/lang/IllegalStateException"), ("java/lang/IllegalStateException", "java/util/NoSuchElementException"), ("java/lang/IllegalStateException", "java/lang/IllegalArgumentException")])
/-! the checker of links -/
def zcK (q : mIns) : Option (String × u_T × Nat) := zcl[q.2.2.2.2.1]?
def cLk (own : String) (init : Bool) (q : mIns) (h : List Nat) : Bool := match q.2.1 with
  | .getfield idx => (match zcK q with
    | some (_, T, N) => decide (q.2.2.2.2.2.1 < N) && gI (h.getD 0 0) (.fieldLink own idx (T q.2.2.2.2.2.1).1 (T q.2.2.2.2.2.1).2.1 (T q.2.2.2.2.2.1).2.2.1)
    | none => false)
  | .putfield idx => (match zcK q with
    | some (_, T, N) => decide (q.2.2.2.2.2.1 < N) && gI (h.getD 0 0) (.fieldLink own idx (T q.2.2.2.2.2.1).1 (T q.2.2.2.2.2.1).2.1 (T q.2.2.2.2.2.1).2.2.1) && (!(T q.2.2.2.2.2.1).2.2.2 || (init && decide ((T q.2.2.2.2.2.1).1 = own)))
    | none => false)
  | .getstatic idx => (match zXt.1[h.getD 0 0]? with
    | some z => gI (h.getD 1 0) (.fieldLink own idx z.1 z.2.1 z.2.2.1) && decide (z.2.2.2 = (if q.2.2.2.1 = 0 then .ref q.2.2.2.2.1 else .long (Int64.ofInt q.2.2.2.2.2.2)))
    | none => false)
  | .ldc idx => bif Nat.beq q.2.2.2.1 0 then gI (h.getD 0 0) (.constant own idx (Int32.ofInt q.2.2.2.2.2.2)) else (match zXt.2.1[h.getD 0 0]? with
    | some z => decide (z.1 = own) && Nat.beq z.2.1 idx && Nat.beq z.2.2.2 q.2.2.2.2.1
    | none => false)
  | .ldc_w idx => Nat.beq q.2.2.2.1 0 && gI (h.getD 0 0) (.constant own idx (Int32.ofInt q.2.2.2.2.2.2))
  | .ldc2_w idx => gI (h.getD 0 0) (.constantLong own idx (Int64.ofInt q.2.2.2.2.2.2))
  | .newarray t => gI (h.getD 0 0) (.arrayClass (newarray.typeOf t))
  | .new idx => (match zcK q with
    | some (C, _, N) => gI (h.getD 0 0) (.classLink own idx C) && gI (h.getD 1 0) (.instantiable C N) && gI (h.getD 2 0) (.initialized C)
    | none => false)
  | _ => true
theorem cLk_ok {own : String} {init : Bool} {q : mIns} {h : List Nat} (hc : cLk own init q h = true) : mLk zGt zcl zXt own init q := by
  unfold cLk at hc
  unfold mLk
  split at hc
  · rename_i idx e
    simp only [e]
    split at hc
    · rename_i C T N e2
      simp only [Bool.and_eq_true, decide_eq_true_eq] at hc
      exact ⟨C, T, N, e2, hc.1, gI_ok hc.2⟩
    · cases hc
  · rename_i idx e
    simp only [e]
    split at hc
    · rename_i C T N e2
      simp only [Bool.and_eq_true, decide_eq_true_eq, Bool.or_eq_true, Bool.not_eq_true'] at hc
      refine ⟨C, T, N, e2, hc.1.1, gI_ok hc.1.2, ?_⟩
      cases hb : (T q.2.2.2.2.2.1).2.2.2 with
      | false => exact Or.inl rfl
      | true => exact Or.inr ⟨rfl, hc.2.resolve_left (by rw [hb]; decide)⟩
    · cases hc
  · rename_i idx e
    simp only [e]
    split at hc
    · rename_i z e2
      simp only [Bool.and_eq_true, decide_eq_true_eq] at hc
      exact ⟨z, List.mem_of_getElem? e2, gI_ok hc.1, hc.2⟩
    · cases hc
  · rename_i idx e
    simp only [e]
    cases c0 : Nat.beq q.2.2.2.1 0 with
    | true => rw [c0] at hc; exact Or.inl ⟨zbe.mp c0, gI_ok hc⟩
    | false =>
      rw [c0] at hc
      simp only [cond_false] at hc
      split at hc
      · rename_i z e2
        simp only [Bool.and_eq_true, decide_eq_true_eq, zbe] at hc
        refine Or.inr ⟨(fun h0 => (by rw [h0] at c0; cases c0)), z.2.2.1, ?_⟩
        have := List.mem_of_getElem? e2
        obtain ⟨z1, z2, z3, z4⟩ := z
        obtain ⟨⟨k1, k2⟩, k3⟩ := hc
        dsimp only at k1 k2 k3
        subst k1 k2 k3
        exact this
      · cases hc
  · rename_i idx e
    simp only [e]
    simp only [Bool.and_eq_true, zbe] at hc
    exact ⟨hc.1, gI_ok hc.2⟩
  · rename_i idx e
    simp only [e]
    exact gI_ok hc
  · rename_i t e
    simp only [e]
    exact gI_ok hc
  · rename_i idx e
    simp only [e]
    split at hc
    · rename_i C T N e2
      simp only [Bool.and_eq_true] at hc
      exact ⟨C, T, N, e2, gI_ok hc.1.1, gI_ok hc.1.2, gI_ok hc.2⟩
    · cases hc
  · rename_i n1 n2 n3 n4 n5 n6 n7 n8
    split <;> first | trivial | (rename_i e; first | exact absurd e (n1 _) | exact absurd e (n2 _) | exact absurd e (n3 _) | exact absurd e (n4 _) | exact absurd e (n5 _) | exact absurd e (n6 _) | exact absurd e (n7 _) | exact absurd e (n8 _))
/-- a call's links -/
def cLkC (own : String) (q : mIns) (h : List Nat) : Bool := match zmt q.2.2.2.2.1 with
  | none => false
  | some M' => Nat.beq q.2.2.1 3 && gI (h.getD 0 0) (.initialized M'.1.cls) && (match q.2.1 with
    | .invokevirtual idx => M'.2.2.2.2.2.isEmpty && (match zcl[q.2.2.2.2.2.2.toNat]? with | some (C, _, _) => decide (C = M'.1.cls) | none => false) &&
        gI (h.getD 1 0) (.methodLink own idx M'.1) && gI (h.getD 2 0) (.instanceMethod M'.1) && gI (h.getD 3 0) (.selects M'.1.cls M'.1 M'.1) && (match q.2.2.2.2.2.1 with | 0 => false | n + 1 => decide (mPar M'.1 = some n))
    | .invokestatic idx => gI (h.getD 1 0) (.methodLink own idx M'.1) && gI (h.getD 2 0) (.static M'.1) && decide (mPar M'.1 = some q.2.2.2.2.2.1)
    | .invokespecial idx => M'.2.2.2.2.2.isEmpty && decide (M'.1.name = "<init>") && decide (M'.2.2.2.1 = none) && gI (h.getD 1 0) (.instanceMethod M'.1) && (match q.2.2.2.2.2.1 with | 0 => false | n + 1 => decide (mPar M'.1 = some n)) &&
        (match h.getD 2 0 with
          | 0 => gI (h.getD 3 0) (.methodLink own idx M'.1)
          | _ => (match zXt.2.2.1[h.getD 3 0]? with | some (.methodLinkNest o i y _) => decide (o = own) && Nat.beq i idx && decide (y = M'.1) | _ => false))
    | _ => false)
theorem cLkC_ok {E : mEnv} (hE : E.1 = zmt) {own : String} {q : mIns} {h : List Nat} (hc : cLkC own q h = true) : mLkC E zGt zcl zXt own q := by
  unfold cLkC at hc
  unfold mLkC
  rw [hE]
  split at hc
  · cases hc
  · rename_i M' eM
    simp only [Bool.and_eq_true, zbe] at hc
    obtain ⟨⟨h1, h2⟩, h3⟩ := hc
    refine ⟨M', eM, h1, gI_ok h2, ?_⟩
    split at h3
    · rename_i idx e
      simp only [Bool.and_eq_true] at h3
      obtain ⟨⟨⟨⟨⟨k1, k2⟩, k3⟩, k4⟩, k5⟩, k6⟩ := h3
      split at k2
      · rename_i C T N eC
        have := of_decide_eq_true k2
        subst this
        split at k6
        · cases k6
        · rename_i n en
          exact Or.inl ⟨idx, n, e, k1, ⟨T, N, eC⟩, gI_ok k3, gI_ok k4, gI_ok k5, en, of_decide_eq_true k6⟩
      · cases k2
    · rename_i idx e
      simp only [Bool.and_eq_true, decide_eq_true_eq] at h3
      exact Or.inr (Or.inl ⟨idx, e, gI_ok h3.1.1, gI_ok h3.1.2, h3.2⟩)
    · rename_i idx e
      simp only [Bool.and_eq_true] at h3
      obtain ⟨⟨⟨⟨⟨k1, k2⟩, k3⟩, k4⟩, k5⟩, k6⟩ := h3
      split at k5
      · cases k5
      · rename_i n en
        refine Or.inr (Or.inr ⟨idx, n, e, k1, of_decide_eq_true k2, of_decide_eq_true k3, gI_ok k4, en, of_decide_eq_true k5, ?_⟩)
        split at k6
        · exact Or.inl (gI_ok k6)
        · split at k6
          · rename_i o9 i9 y9 h9 e9
            simp only [Bool.and_eq_true, decide_eq_true_eq, zbe] at k6
            obtain ⟨⟨m1, m2⟩, m3⟩ := k6
            subst m1 m2 m3
            exact Or.inr ⟨h9, List.mem_of_getElem? e9⟩
          · cases k6
    · cases h3
/-- what is done at once -/
def cLkP (own : String) (q : mIns) (h : List Nat) : Bool := match q.2.2.2.2.1 with
  | 1 => (match q.2.1 with | .invokespecial idx => gI (h.getD 0 0) (.methodLink own idx Lib.objectInit) && gI (h.getD 1 0) (.instanceMethod Lib.objectInit) && gI (h.getD 2 0) (.code Lib.objectInit ⟨#[0xb1]⟩ 1 none) | _ => false)
  | 2 => true
  | 3 => true
  | 4 => (match q.2.1 with | .invokestatic idx => gI (h.getD 0 0) (.methodLink own idx arraycopyName) && gI (h.getD 1 0) (.native arraycopyName) && gI (h.getD 2 0) (.static arraycopyName) && gI (h.getD 3 0) (.initialized "java/lang/System") | _ => false)
  | _ => false
theorem cLkP_ok {own : String} {q : mIns} {h : List Nat} (hc : cLkP own q h = true) : mLkP zGt own q := by
  unfold cLkP at hc
  unfold mLkP
  split at hc
  · rename_i e1
    split at hc
    · rename_i idx e
      simp only [Bool.and_eq_true] at hc
      exact Or.inl ⟨e1, idx, e, gI_ok hc.1.1, gI_ok hc.1.2, gI_ok hc.2⟩
    · cases hc
  · rename_i e1; exact Or.inr (Or.inr (Or.inl e1))
  · rename_i e1; exact Or.inr (Or.inr (Or.inr e1))
  · rename_i e1
    split at hc
    · rename_i idx e
      simp only [Bool.and_eq_true] at hc
      exact Or.inr (Or.inl ⟨e1, idx, e, gI_ok hc.1.1.1, gI_ok hc.1.1.2, gI_ok hc.1.2, gI_ok hc.2⟩)
    · cases hc
  · cases hc
/-- the words of a throw: of zGt by their places, or of zXt's -/
def cAts : List Cond → List Nat → Bool
  | [], _ => true
  | w :: l, i :: h => (gI i w || (match zXt.2.2.1[i]? with | some v => decide (v = w) | none => false)) && vx_ot w && cAts l h
  | _ :: _, [] => false
theorem cAts_ok : ∀ {l : List Cond} {h : List Nat}, cAts l h = true → ∀ w ∈ l, (w ∈ zGt ∨ w ∈ zXt.2.2.1) ∧ vx_ot w = true
  | [], _, _, w, hw => by cases hw
  | w0 :: l, i :: h, hc, w, hw => by
    simp only [cAts, Bool.and_eq_true, Bool.or_eq_true] at hc
    obtain ⟨⟨h1, h2⟩, h3⟩ := hc
    rcases List.mem_cons.mp hw with rfl | hw
    · refine ⟨?_, h2⟩
      rcases h1 with h1 | h1
      · exact Or.inl (gI_ok h1)
      · split at h1
        · rename_i v e
          have := of_decide_eq_true h1
          subst this
          exact Or.inr (List.mem_of_getElem? e)
        · cases h1
    · exact cAts_ok h3 w hw
  | _ :: _, [], hc, _, _ => by cases hc
def zexN : List String := ["java/lang/RuntimeException", "java/lang/Exception"]
/-- the bytes of a constructor that hands its text to its super's -/
def zrx (ix : Nat) : ByteArray := bif Nat.beq ix 13 then ⟨#[0x2a, 0x2b, 0xb7, 0x00, 0x0d, 0xb1]⟩ else Bundle.six
def zrxd (ix : Nat) : Bool := decide (decode (zrx ix) 0 = .ok (.aload_n 0, 1)) && decide (decode (zrx ix) 1 = .ok (.aload_n 1, 1)) && decide (decode (zrx ix) 2 = .ok (.invokespecial ix, 3)) && decide (decode (zrx ix) 5 = .ok (.return_, 1))
/-- a throw's links: the first hints: ic, is, the text's place in zXt, classLink, initialized, the super's number; then the words' -/
def cLkT (cc : ByteArray) (own : String) (q : mIns) (h : List Nat) : Bool := match q.2.1, zXt.2.1[h.getD 2 0]? with
  | .new ik, some z => zrxd (h.getD 5 0) && Nat.beq q.2.2.1 3 && Bundle.fit (zxn q.2.2.2.2.1) && zexN.all Bundle.fit && gI (h.getD 3 0) (.classLink own ik (zxn q.2.2.2.2.1)) && gI (h.getD 4 0) (.initialized (zxn q.2.2.2.2.1)) &&
      decide (z.1 = own) && Nat.beq z.2.1 (h.getD 1 0) && cAts (vx_aX own (h.getD 0 0) (zxn q.2.2.2.2.1) (h.getD 5 0) (zrx (h.getD 5 0)) zexN) (h.drop 6) &&
      decide (decode cc (q.1 + 3) = .ok (.dup, 1)) && decide (decode cc (q.1 + 4) = .ok (.ldc_w (h.getD 1 0), 3)) && decide (decode cc (q.1 + 7) = .ok (.invokespecial (h.getD 0 0), 3)) && decide (decode cc (q.1 + 10) = .ok (.athrow, 1))
  | _, _ => false
theorem cLkT_ok {E : mEnv} (hE : E.2.2.2 = zxn) {cc : ByteArray} {own : String} {q : mIns} {h : List Nat} (hc : cLkT cc own q h = true) : mLkT E zGt zXt cc own q := by
  unfold cLkT at hc
  unfold mLkT
  rw [hE]
  split at hc
  · rename_i ik z e ez
    simp only [Bool.and_eq_true, decide_eq_true_eq, zbe] at hc
    obtain ⟨⟨⟨⟨⟨⟨⟨⟨⟨⟨⟨⟨k0, k1⟩, k2⟩, k3⟩, k4⟩, k5⟩, k6⟩, k7⟩, k8⟩, k9⟩, k10⟩, k11⟩, k12⟩ := hc
    simp only [zrxd, Bool.and_eq_true, decide_eq_true_eq] at k0
    refine ⟨ik, h.getD 1 0, h.getD 0 0, z.2.2.1, z.2.2.2, zexN, h.getD 5 0, zrx (h.getD 5 0), e, k1, k2, fun n hn => List.all_eq_true.mp k3 n hn, by decide, gI_ok k4, gI_ok k5, ?_, cAts_ok k8, k9, k10, k11, k12, k0.1.1.1, k0.1.1.2, k0.1.2, k0.2⟩
    have := List.mem_of_getElem? ez
    obtain ⟨z1, z2, z3, z4⟩ := z
    dsimp only at k6 k7
    subst k6 k7
    exact this
  · cases hc
def cRow (M : mMeth) (q : mIns) (h : List Nat) : Bool :=
  decide (decode M.2.1 q.1 = .ok (q.2.1, q.2.2.1)) && mlen q.2.1 q.2.2.1 && Nat.ble q.2.2.2.1 9 &&
  (bif Nat.beq q.2.2.2.1 9 then cLkC M.1.cls q h else bif Nat.beq q.2.2.2.1 8 then cLkT M.2.1 M.1.cls q h else bif Nat.beq q.2.2.2.1 7 then cLkP M.1.cls q h else cLk M.1.cls (M.1.name == "<init>") q h)
def cAll (M : mMeth) : List mIns → List (List Nat) → Bool
  | [], _ => true
  | q :: l, h :: hs => cRow M q h && cAll M l hs
  | _ :: _, [] => false
theorem cAll_ok {M : mMeth} : ∀ {l : List mIns} {hs : List (List Nat)}, cAll M l hs = true → ∀ q ∈ l, ∃ h, cRow M q h = true
  | [], _, _, q, hq => by cases hq
  | q0 :: l, h :: hs, hc, q, hq => by
    simp only [cAll, Bool.and_eq_true] at hc
    rcases List.mem_cons.mp hq with rfl | hq
    · exact ⟨h, hc.1⟩
    · exact cAll_ok hc.2 q hq
  | _ :: _, [], hc, _, _ => by cases hc
/-- a handler's words: its classLink, its castable's place in zXt -/
def cHan (M : mMeth) : List (Nat × Nat × Nat × Nat × String) → List (List Nat) → Bool
  | [], _ => true
  | h :: l, i :: hs => gI (i.getD 0 0) (.classLink M.1.cls h.2.2.2.1 h.2.2.2.2) && !(Nat.beq h.2.2.2.1 0) && (match zXt.2.2.1[i.getD 1 0]? with | some (.castable a b) => decide (a = h.2.2.2.2) && decide (b = h.2.2.2.2) | _ => false) &&
      M.2.2.2.2.2.all (fun h2 => decide (h2.2.2.2.2 = h.2.2.2.2) || decide ((h.2.2.2.2, h2.2.2.2.2) ∈ zXt.2.2.2)) && cHan M l hs
  | _ :: _, [] => false
theorem cHan_ok {M : mMeth} : ∀ {l : List (Nat × Nat × Nat × Nat × String)} {hs : List (List Nat)}, cHan M l hs = true → ∀ h ∈ l, Cond.classLink M.1.cls h.2.2.2.1 h.2.2.2.2 ∈ zGt ∧ h.2.2.2.1 ≠ 0 ∧ (Cond.castable h.2.2.2.2 h.2.2.2.2 ∈ zGt ∨ Cond.castable h.2.2.2.2 h.2.2.2.2 ∈ zXt.2.2.1) ∧ ∀ h2 ∈ M.2.2.2.2.2, h2.2.2.2.2 ≠ h.2.2.2.2 → (h.2.2.2.2, h2.2.2.2.2) ∈ zXt.2.2.2
  | [], _, _, h, hh => by cases hh
  | h0 :: l, i :: hs, hc, h, hh => by
    simp only [cHan, Bool.and_eq_true] at hc
    obtain ⟨⟨⟨⟨k1, k2⟩, k3⟩, k4⟩, k5⟩ := hc
    rcases List.mem_cons.mp hh with rfl | hh
    · refine ⟨gI_ok k1, (fun e => (by rw [e] at k2; cases k2)), Or.inr ?_, ?_⟩
      · split at k3
        · rename_i a b e
          simp only [Bool.and_eq_true, decide_eq_true_eq] at k3
          obtain ⟨m1, m2⟩ := k3
          subst m1 m2
          exact List.mem_of_getElem? e
        · cases k3
      · intro h2 hm hne
        have := List.all_eq_true.mp k4 h2 hm
        simp only [Bool.or_eq_true, decide_eq_true_eq] at this
        exact this.resolve_left hne
    · exact cHan_ok k5 h hh
  | _ :: _, [], hc, _, _ => by cases hc
def cMeth (M : mMeth) (hw : Nat) (hs hh : List (List Nat)) : Bool :=
  plainFor M.1 && decide (M.1.cls ≠ "java/lang/invoke/MethodHandle") && decide (M.1.cls ≠ "java/lang/invoke/VarHandle") && Nat.ble M.2.2.1 21 && gI hw (mWord M) && cAll M M.2.2.2.2.1 hs && cHan M M.2.2.2.2.2 hh && zsr M.2.2.2.2.1
theorem cMeth_ok {E : mEnv} (hE : E.1 = zmt) (hE2 : E.2.2.2 = zxn) {M : mMeth} {hw : Nat} {hs hh : List (List Nat)} (hc : cMeth M hw hs hh = true) : mMok E zGt zcl zXt M := by
  simp only [cMeth, Bool.and_eq_true, decide_eq_true_eq, Nat.ble_eq] at hc
  obtain ⟨⟨⟨⟨⟨⟨⟨k1, k2⟩, k3⟩, k4⟩, k5⟩, k6⟩, k7⟩, -⟩ := hc
  refine ⟨k1, ⟨k2, k3⟩, k4, gI_ok k5, ?_, cHan_ok k7⟩
  intro q hq
  obtain ⟨h, hr⟩ := cAll_ok k6 q hq
  simp only [cRow, Bool.and_eq_true, decide_eq_true_eq, Nat.ble_eq] at hr
  obtain ⟨⟨⟨m1, m2⟩, m3⟩, m4⟩ := hr
  cases c9 : Nat.beq q.2.2.2.1 9 with
  | true =>
    rw [c9] at m4
    have e9 := zbe.mp c9
    exact ⟨m1, m2, fun _ => cLkC_ok hE m4, fun h => by omega, fun h => by omega, fun h => by omega, m3⟩
  | false =>
    rw [c9] at m4
    have e9 : q.2.2.2.1 ≠ 9 := fun e => by rw [zbe.mpr e] at c9; cases c9
    cases c8 : Nat.beq q.2.2.2.1 8 with
    | true =>
      rw [c8] at m4
      have e8 := zbe.mp c8
      exact ⟨m1, m2, fun h => by omega, fun _ => cLkT_ok hE2 m4, fun h => by omega, fun h => by omega, m3⟩
    | false =>
      rw [c8] at m4
      have e8 : q.2.2.2.1 ≠ 8 := fun e => by rw [zbe.mpr e] at c8; cases c8
      cases c7 : Nat.beq q.2.2.2.1 7 with
      | true =>
        rw [c7] at m4
        have e7 := zbe.mp c7
        exact ⟨m1, m2, fun h => by omega, fun h => by omega, fun _ => cLkP_ok m4, fun h => by omega, m3⟩
      | false =>
        rw [c7] at m4
        have e7 : q.2.2.2.1 ≠ 7 := fun e => by rw [zbe.mpr e] at c7; cases c7
        exact ⟨m1, m2, fun h => absurd h e9, fun h => absurd h e8, fun h => absurd h e7, fun _ => cLk_ok m4, m3⟩
/-! the classes' words -/
def cWs : List Cond → List Nat → Bool
  | [], _ => true
  | w :: l, i :: h => gI i w && cWs l h
  | _ :: _, [] => false
theorem cWs_ok : ∀ {l : List Cond} {h : List Nat}, cWs l h = true → ∀ w ∈ l, w ∈ zGt
  | [], _, _, w, hw => by cases hw
  | w0 :: l, i :: h, hc, w, hw => by
    simp only [cWs, Bool.and_eq_true] at hc
    rcases List.mem_cons.mp hw with rfl | hw
    · exact gI_ok hc.1
    · exact cWs_ok hc.2 w hw
  | _ :: _, [], hc, _, _ => by cases hc
def cCl : List vw_C → Nat → List (List Nat) → Bool
  | [], _, _ => true
  | (C, T, N) :: l, ci, h :: hs => cWs (u_ws C T N) h && Nat.beq (zft_ ci).length N && (List.range N).all (fun k => decide (parseFieldDescriptor (T k).2.2.1 = (zft_ ci)[k]?)) &&
      (List.range N).all (fun a => (List.range N).all fun b => Nat.beq a b || decide ((T a).2.1 ≠ (T b).2.1)) && cCl l (ci + 1) hs
  | _ :: _, _, [] => false
theorem cCl_ok : ∀ {l : List vw_C} {ci : Nat} {hs : List (List Nat)}, cCl l ci hs = true → ∀ (k : Nat) (C : String) (T : u_T) (N : Nat), l[k]? = some (C, T, N) → (∀ w ∈ u_ws C T N, w ∈ zGt) ∧ (zft_ (ci + k)).length = N ∧ (∀ j, j < N → parseFieldDescriptor (T j).2.2.1 = (zft_ (ci + k))[j]?) ∧ (∀ a, a < N → ∀ b, b < N → a ≠ b → (T a).2.1 ≠ (T b).2.1)
  | [], _, _, _, k, C, T, N, hk => by simp at hk
  | (C0, T0, N0) :: l, ci, h :: hs, hc, k, C, T, N, hk => by
    simp only [cCl, Bool.and_eq_true] at hc
    obtain ⟨⟨⟨⟨k1, k2⟩, k3⟩, k4⟩, k5⟩ := hc
    cases k with
    | zero =>
      simp only [List.getElem?_cons_zero, Option.some.injEq, Prod.mk.injEq] at hk
      obtain ⟨rfl, rfl, rfl⟩ := hk
      refine ⟨cWs_ok k1, zbe.mp k2, fun j hj => of_decide_eq_true (List.all_eq_true.mp k3 j (List.mem_range.mpr hj)), fun a ha b hb hab => ?_⟩
      have := List.all_eq_true.mp (List.all_eq_true.mp k4 a (List.mem_range.mpr ha)) b (List.mem_range.mpr hb)
      simp only [Bool.or_eq_true, zbe, decide_eq_true_eq] at this
      exact this.resolve_left hab
    | succ k =>
      have := cCl_ok k5 k C T N (by simpa using hk)
      rw [show ci + 1 + k = ci + (k + 1) by omega] at this
      exact this
  | _ :: _, _, [], hc, _, _, _, _, _ => by cases hc
