-- ===== PART A: goes FIRST, ahead of the names: the tables' words, and 'selects' of the private methods out of them =====
/-- a private method of a class that the tables say can be made, by its rows of tables_1 -/
def lw_okq (q : MethodName × Nat) : Prop := (q.1.cls ≠ "java/lang/invoke/MethodHandle" ∧ q.1.cls ≠ "java/lang/invoke/VarHandle") ∧ Cond.instantiable q.1.cls q.2 ∈ tables_1 ∧ Cond.privateMethod q.1 ∈ tables_1 ∧ Cond.instanceMethod q.1 ∈ tables_1
theorem lw_p0 : lw_okq (⟨"TrackedLetters", "startText", "([II)V"⟩, 13) := ⟨⟨by decide +kernel, by decide +kernel⟩, List.mem_of_getElem? (i := 9) (by decide +kernel), List.mem_of_getElem? (i := 148) (by decide +kernel), List.mem_of_getElem? (i := 149) (by decide +kernel)⟩
theorem lw_p1 : lw_okq (⟨"TrackedLetters", "addLetter", "(III)V"⟩, 13) := ⟨⟨by decide +kernel, by decide +kernel⟩, List.mem_of_getElem? (i := 9) (by decide +kernel), List.mem_of_getElem? (i := 152) (by decide +kernel), List.mem_of_getElem? (i := 153) (by decide +kernel)⟩
theorem lw_p2 : lw_okq (⟨"TrackedLetters", "setOf", "(I)I"⟩, 13) := ⟨⟨by decide +kernel, by decide +kernel⟩, List.mem_of_getElem? (i := 9) (by decide +kernel), List.mem_of_getElem? (i := 175) (by decide +kernel), List.mem_of_getElem? (i := 176) (by decide +kernel)⟩
theorem lw_p3 : lw_okq (⟨"TrackedLetters", "lineUp", "(I)I"⟩, 13) := ⟨⟨by decide +kernel, by decide +kernel⟩, List.mem_of_getElem? (i := 9) (by decide +kernel), List.mem_of_getElem? (i := 187) (by decide +kernel), List.mem_of_getElem? (i := 188) (by decide +kernel)⟩
theorem lw_p4 : lw_okq (⟨"TrackedLetters", "thereBy", "(I)J"⟩, 13) := ⟨⟨by decide +kernel, by decide +kernel⟩, List.mem_of_getElem? (i := 9) (by decide +kernel), List.mem_of_getElem? (i := 191) (by decide +kernel), List.mem_of_getElem? (i := 192) (by decide +kernel)⟩
theorem lw_p5 : lw_okq (⟨"TrackedLetters$Line", "leadsTo", "(II)Z"⟩, 5) := ⟨⟨by decide +kernel, by decide +kernel⟩, List.mem_of_getElem? (i := 17) (by decide +kernel), List.mem_of_getElem? (i := 199) (by decide +kernel), List.mem_of_getElem? (i := 200) (by decide +kernel)⟩
theorem lw_p6 : lw_okq (⟨"TrackedLetters", "placeAhead", "(II)I"⟩, 13) := ⟨⟨by decide +kernel, by decide +kernel⟩, List.mem_of_getElem? (i := 9) (by decide +kernel), List.mem_of_getElem? (i := 207) (by decide +kernel), List.mem_of_getElem? (i := 208) (by decide +kernel)⟩
theorem lw_p7 : lw_okq (⟨"TrackedLetters", "insertPage", "(II)I"⟩, 13) := ⟨⟨by decide +kernel, by decide +kernel⟩, List.mem_of_getElem? (i := 9) (by decide +kernel), List.mem_of_getElem? (i := 211) (by decide +kernel), List.mem_of_getElem? (i := 212) (by decide +kernel)⟩
theorem lw_p8 : lw_okq (⟨"TrackedLetters", "moveLetters", "(IIII)I"⟩, 13) := ⟨⟨by decide +kernel, by decide +kernel⟩, List.mem_of_getElem? (i := 9) (by decide +kernel), List.mem_of_getElem? (i := 234) (by decide +kernel), List.mem_of_getElem? (i := 235) (by decide +kernel)⟩
theorem lw_p9 : lw_okq (⟨"TrackedLetters", "letterFact", "(II)I"⟩, 13) := ⟨⟨by decide +kernel, by decide +kernel⟩, List.mem_of_getElem? (i := 9) (by decide +kernel), List.mem_of_getElem? (i := 265) (by decide +kernel), List.mem_of_getElem? (i := 266) (by decide +kernel)⟩
theorem lw_p10 : lw_okq (⟨"TrackedLetters", "placeFact", "(II)I"⟩, 13) := ⟨⟨by decide +kernel, by decide +kernel⟩, List.mem_of_getElem? (i := 9) (by decide +kernel), List.mem_of_getElem? (i := 277) (by decide +kernel), List.mem_of_getElem? (i := 278) (by decide +kernel)⟩
theorem lw_p11 : lw_okq (⟨"TrackedLetters", "markOf", "(I)I"⟩, 13) := ⟨⟨by decide +kernel, by decide +kernel⟩, List.mem_of_getElem? (i := 9) (by decide +kernel), List.mem_of_getElem? (i := 281) (by decide +kernel), List.mem_of_getElem? (i := 282) (by decide +kernel)⟩
theorem lw_p12 : lw_okq (⟨"TrackedLetters", "changeFact", "(II)I"⟩, 13) := ⟨⟨by decide +kernel, by decide +kernel⟩, List.mem_of_getElem? (i := 9) (by decide +kernel), List.mem_of_getElem? (i := 289) (by decide +kernel), List.mem_of_getElem? (i := 290) (by decide +kernel)⟩
theorem lw_p13 : lw_okq (⟨"TrackedLetters", "idleOf", "(I)I"⟩, 13) := ⟨⟨by decide +kernel, by decide +kernel⟩, List.mem_of_getElem? (i := 9) (by decide +kernel), List.mem_of_getElem? (i := 299) (by decide +kernel), List.mem_of_getElem? (i := 300) (by decide +kernel)⟩
theorem lw_p14 : lw_okq (⟨"TrackedLetters", "cutSpans", "()V"⟩, 13) := ⟨⟨by decide +kernel, by decide +kernel⟩, List.mem_of_getElem? (i := 9) (by decide +kernel), List.mem_of_getElem? (i := 315) (by decide +kernel), List.mem_of_getElem? (i := 316) (by decide +kernel)⟩
theorem lw_p15 : lw_okq (⟨"TrackedLetters", "seekPage", "()V"⟩, 13) := ⟨⟨by decide +kernel, by decide +kernel⟩, List.mem_of_getElem? (i := 9) (by decide +kernel), List.mem_of_getElem? (i := 331) (by decide +kernel), List.mem_of_getElem? (i := 332) (by decide +kernel)⟩
def lw_privs_1 : List (MethodName × Nat) := [(⟨"TrackedLetters", "startText", "([II)V"⟩, 13), (⟨"TrackedLetters", "addLetter", "(III)V"⟩, 13), (⟨"TrackedLetters", "setOf", "(I)I"⟩, 13), (⟨"TrackedLetters", "lineUp", "(I)I"⟩, 13), (⟨"TrackedLetters", "thereBy", "(I)J"⟩, 13), (⟨"TrackedLetters$Line", "leadsTo", "(II)Z"⟩, 5), (⟨"TrackedLetters", "placeAhead", "(II)I"⟩, 13), (⟨"TrackedLetters", "insertPage", "(II)I"⟩, 13), (⟨"TrackedLetters", "moveLetters", "(IIII)I"⟩, 13), (⟨"TrackedLetters", "letterFact", "(II)I"⟩, 13), (⟨"TrackedLetters", "placeFact", "(II)I"⟩, 13), (⟨"TrackedLetters", "markOf", "(I)I"⟩, 13), (⟨"TrackedLetters", "changeFact", "(II)I"⟩, 13), (⟨"TrackedLetters", "idleOf", "(I)I"⟩, 13), (⟨"TrackedLetters", "cutSpans", "()V"⟩, 13), (⟨"TrackedLetters", "seekPage", "()V"⟩, 13)]
theorem lw_r1 : ∀ q ∈ lw_privs_1, lw_okq q := List.forall_mem_cons.mpr ⟨lw_p0, List.forall_mem_cons.mpr ⟨lw_p1, List.forall_mem_cons.mpr ⟨lw_p2, List.forall_mem_cons.mpr ⟨lw_p3, List.forall_mem_cons.mpr ⟨lw_p4, List.forall_mem_cons.mpr ⟨lw_p5, List.forall_mem_cons.mpr ⟨lw_p6, List.forall_mem_cons.mpr ⟨lw_p7, List.forall_mem_cons.mpr ⟨lw_p8, List.forall_mem_cons.mpr ⟨lw_p9, List.forall_mem_cons.mpr ⟨lw_p10, List.forall_mem_cons.mpr ⟨lw_p11, List.forall_mem_cons.mpr ⟨lw_p12, List.forall_mem_cons.mpr ⟨lw_p13, List.forall_mem_cons.mpr ⟨lw_p14, List.forall_mem_cons.mpr ⟨lw_p15, fun _ h => absurd h List.not_mem_nil⟩⟩⟩⟩⟩⟩⟩⟩⟩⟩⟩⟩⟩⟩⟩⟩
theorem lw_p16 : lw_okq (⟨"TrackedLetters", "readsAsPage", "(I)Z"⟩, 13) := ⟨⟨by decide +kernel, by decide +kernel⟩, List.mem_of_getElem? (i := 9) (by decide +kernel), List.mem_of_getElem? (i := 335) (by decide +kernel), List.mem_of_getElem? (i := 336) (by decide +kernel)⟩
theorem lw_p17 : lw_okq (⟨"TrackedLetters", "withView", "(JI)J"⟩, 13) := ⟨⟨by decide +kernel, by decide +kernel⟩, List.mem_of_getElem? (i := 9) (by decide +kernel), List.mem_of_getElem? (i := 363) (by decide +kernel), List.mem_of_getElem? (i := 364) (by decide +kernel)⟩
theorem lw_p18 : lw_okq (⟨"TrackedLetters", "withPlaces", "(J)J"⟩, 13) := ⟨⟨by decide +kernel, by decide +kernel⟩, List.mem_of_getElem? (i := 9) (by decide +kernel), List.mem_of_getElem? (i := 371) (by decide +kernel), List.mem_of_getElem? (i := 372) (by decide +kernel)⟩
theorem lw_p19 : lw_okq (⟨"TrackedLetters", "withChanges", "(J)J"⟩, 13) := ⟨⟨by decide +kernel, by decide +kernel⟩, List.mem_of_getElem? (i := 9) (by decide +kernel), List.mem_of_getElem? (i := 375) (by decide +kernel), List.mem_of_getElem? (i := 376) (by decide +kernel)⟩
theorem lw_p20 : lw_okq (⟨"TrackedLetters", "withSpans", "(J)J"⟩, 13) := ⟨⟨by decide +kernel, by decide +kernel⟩, List.mem_of_getElem? (i := 9) (by decide +kernel), List.mem_of_getElem? (i := 379) (by decide +kernel), List.mem_of_getElem? (i := 380) (by decide +kernel)⟩
theorem lw_p21 : lw_okq (⟨"TrackedLettersModel", "comes", "(III)V"⟩, 32) := ⟨⟨by decide +kernel, by decide +kernel⟩, List.mem_of_getElem? (i := 384) (by decide +kernel), List.mem_of_getElem? (i := 503) (by decide +kernel), List.mem_of_getElem? (i := 504) (by decide +kernel)⟩
theorem lw_p22 : lw_okq (⟨"TrackedLettersModel", "layPlace", "(IIII)V"⟩, 32) := ⟨⟨by decide +kernel, by decide +kernel⟩, List.mem_of_getElem? (i := 384) (by decide +kernel), List.mem_of_getElem? (i := 507) (by decide +kernel), List.mem_of_getElem? (i := 508) (by decide +kernel)⟩
theorem lw_p23 : lw_okq (⟨"TrackedLettersModel", "layOn", "(II)V"⟩, 32) := ⟨⟨by decide +kernel, by decide +kernel⟩, List.mem_of_getElem? (i := 384) (by decide +kernel), List.mem_of_getElem? (i := 511) (by decide +kernel), List.mem_of_getElem? (i := 512) (by decide +kernel)⟩
theorem lw_p24 : lw_okq (⟨"TrackedLettersModel", "setOf", "(I)I"⟩, 32) := ⟨⟨by decide +kernel, by decide +kernel⟩, List.mem_of_getElem? (i := 384) (by decide +kernel), List.mem_of_getElem? (i := 522) (by decide +kernel), List.mem_of_getElem? (i := 523) (by decide +kernel)⟩
theorem lw_p25 : lw_okq (⟨"TrackedLettersModel", "layRead", "(I)V"⟩, 32) := ⟨⟨by decide +kernel, by decide +kernel⟩, List.mem_of_getElem? (i := 384) (by decide +kernel), List.mem_of_getElem? (i := 526) (by decide +kernel), List.mem_of_getElem? (i := 527) (by decide +kernel)⟩
theorem lw_p26 : lw_okq (⟨"TrackedLettersModel", "isThere", "(II)Z"⟩, 32) := ⟨⟨by decide +kernel, by decide +kernel⟩, List.mem_of_getElem? (i := 384) (by decide +kernel), List.mem_of_getElem? (i := 530) (by decide +kernel), List.mem_of_getElem? (i := 531) (by decide +kernel)⟩
theorem lw_p27 : lw_okq (⟨"TrackedLettersModel", "standsAt", "(II)I"⟩, 32) := ⟨⟨by decide +kernel, by decide +kernel⟩, List.mem_of_getElem? (i := 384) (by decide +kernel), List.mem_of_getElem? (i := 537) (by decide +kernel), List.mem_of_getElem? (i := 538) (by decide +kernel)⟩
theorem lw_p28 : lw_okq (⟨"TrackedLettersModel", "leadsOn", "(II)I"⟩, 32) := ⟨⟨by decide +kernel, by decide +kernel⟩, List.mem_of_getElem? (i := 384) (by decide +kernel), List.mem_of_getElem? (i := 541) (by decide +kernel), List.mem_of_getElem? (i := 542) (by decide +kernel)⟩
theorem lw_p29 : lw_okq (⟨"TrackedLettersModel", "ahead", "(I)I"⟩, 32) := ⟨⟨by decide +kernel, by decide +kernel⟩, List.mem_of_getElem? (i := 384) (by decide +kernel), List.mem_of_getElem? (i := 545) (by decide +kernel), List.mem_of_getElem? (i := 546) (by decide +kernel)⟩
theorem lw_p30 : lw_okq (⟨"TrackedLettersModel", "inLine", "(I)I"⟩, 32) := ⟨⟨by decide +kernel, by decide +kernel⟩, List.mem_of_getElem? (i := 384) (by decide +kernel), List.mem_of_getElem? (i := 549) (by decide +kernel), List.mem_of_getElem? (i := 550) (by decide +kernel)⟩
theorem lw_p31 : lw_okq (⟨"TrackedLettersModel", "layChange", "(II)I"⟩, 32) := ⟨⟨by decide +kernel, by decide +kernel⟩, List.mem_of_getElem? (i := 384) (by decide +kernel), List.mem_of_getElem? (i := 553) (by decide +kernel), List.mem_of_getElem? (i := 554) (by decide +kernel)⟩
def lw_privs_2 : List (MethodName × Nat) := [(⟨"TrackedLetters", "readsAsPage", "(I)Z"⟩, 13), (⟨"TrackedLetters", "withView", "(JI)J"⟩, 13), (⟨"TrackedLetters", "withPlaces", "(J)J"⟩, 13), (⟨"TrackedLetters", "withChanges", "(J)J"⟩, 13), (⟨"TrackedLetters", "withSpans", "(J)J"⟩, 13), (⟨"TrackedLettersModel", "comes", "(III)V"⟩, 32), (⟨"TrackedLettersModel", "layPlace", "(IIII)V"⟩, 32), (⟨"TrackedLettersModel", "layOn", "(II)V"⟩, 32), (⟨"TrackedLettersModel", "setOf", "(I)I"⟩, 32), (⟨"TrackedLettersModel", "layRead", "(I)V"⟩, 32), (⟨"TrackedLettersModel", "isThere", "(II)Z"⟩, 32), (⟨"TrackedLettersModel", "standsAt", "(II)I"⟩, 32), (⟨"TrackedLettersModel", "leadsOn", "(II)I"⟩, 32), (⟨"TrackedLettersModel", "ahead", "(I)I"⟩, 32), (⟨"TrackedLettersModel", "inLine", "(I)I"⟩, 32), (⟨"TrackedLettersModel", "layChange", "(II)I"⟩, 32)]
theorem lw_r2 : ∀ q ∈ lw_privs_2, lw_okq q := List.forall_mem_cons.mpr ⟨lw_p16, List.forall_mem_cons.mpr ⟨lw_p17, List.forall_mem_cons.mpr ⟨lw_p18, List.forall_mem_cons.mpr ⟨lw_p19, List.forall_mem_cons.mpr ⟨lw_p20, List.forall_mem_cons.mpr ⟨lw_p21, List.forall_mem_cons.mpr ⟨lw_p22, List.forall_mem_cons.mpr ⟨lw_p23, List.forall_mem_cons.mpr ⟨lw_p24, List.forall_mem_cons.mpr ⟨lw_p25, List.forall_mem_cons.mpr ⟨lw_p26, List.forall_mem_cons.mpr ⟨lw_p27, List.forall_mem_cons.mpr ⟨lw_p28, List.forall_mem_cons.mpr ⟨lw_p29, List.forall_mem_cons.mpr ⟨lw_p30, List.forall_mem_cons.mpr ⟨lw_p31, fun _ h => absurd h List.not_mem_nil⟩⟩⟩⟩⟩⟩⟩⟩⟩⟩⟩⟩⟩⟩⟩⟩
theorem lw_p32 : lw_okq (⟨"TrackedLettersModel", "isChange", "(I)Z"⟩, 32) := ⟨⟨by decide +kernel, by decide +kernel⟩, List.mem_of_getElem? (i := 384) (by decide +kernel), List.mem_of_getElem? (i := 569) (by decide +kernel), List.mem_of_getElem? (i := 570) (by decide +kernel)⟩
theorem lw_p33 : lw_okq (⟨"TrackedLettersModel", "inState", "(I)I"⟩, 32) := ⟨⟨by decide +kernel, by decide +kernel⟩, List.mem_of_getElem? (i := 384) (by decide +kernel), List.mem_of_getElem? (i := 581) (by decide +kernel), List.mem_of_getElem? (i := 582) (by decide +kernel)⟩
theorem lw_p34 : lw_okq (⟨"TrackedLettersModel", "lengthOf", "(I)I"⟩, 32) := ⟨⟨by decide +kernel, by decide +kernel⟩, List.mem_of_getElem? (i := 384) (by decide +kernel), List.mem_of_getElem? (i := 592) (by decide +kernel), List.mem_of_getElem? (i := 593) (by decide +kernel)⟩
theorem lw_p35 : lw_okq (⟨"TrackedLettersModel", "readNow", "(II)I"⟩, 32) := ⟨⟨by decide +kernel, by decide +kernel⟩, List.mem_of_getElem? (i := 384) (by decide +kernel), List.mem_of_getElem? (i := 600) (by decide +kernel), List.mem_of_getElem? (i := 601) (by decide +kernel)⟩
theorem lw_p36 : lw_okq (⟨"TrackedLettersModel", "movedBy", "(I)I"⟩, 32) := ⟨⟨by decide +kernel, by decide +kernel⟩, List.mem_of_getElem? (i := 384) (by decide +kernel), List.mem_of_getElem? (i := 607) (by decide +kernel), List.mem_of_getElem? (i := 608) (by decide +kernel)⟩
theorem lw_p37 : lw_okq (⟨"TrackedLettersModel", "placeNow", "(II)I"⟩, 32) := ⟨⟨by decide +kernel, by decide +kernel⟩, List.mem_of_getElem? (i := 384) (by decide +kernel), List.mem_of_getElem? (i := 615) (by decide +kernel), List.mem_of_getElem? (i := 616) (by decide +kernel)⟩
theorem lw_p38 : lw_okq (⟨"TrackedLettersModel", "markOf", "(I)I"⟩, 32) := ⟨⟨by decide +kernel, by decide +kernel⟩, List.mem_of_getElem? (i := 384) (by decide +kernel), List.mem_of_getElem? (i := 619) (by decide +kernel), List.mem_of_getElem? (i := 620) (by decide +kernel)⟩
theorem lw_p39 : lw_okq (⟨"TrackedLettersModel", "isAt", "(II)Z"⟩, 32) := ⟨⟨by decide +kernel, by decide +kernel⟩, List.mem_of_getElem? (i := 384) (by decide +kernel), List.mem_of_getElem? (i := 623) (by decide +kernel), List.mem_of_getElem? (i := 624) (by decide +kernel)⟩
theorem lw_p40 : lw_okq (⟨"TrackedLettersModel", "changeNow", "(II)I"⟩, 32) := ⟨⟨by decide +kernel, by decide +kernel⟩, List.mem_of_getElem? (i := 384) (by decide +kernel), List.mem_of_getElem? (i := 631) (by decide +kernel), List.mem_of_getElem? (i := 632) (by decide +kernel)⟩
theorem lw_p41 : lw_okq (⟨"TrackedLettersModel", "touchedBy", "(IZ)I"⟩, 32) := ⟨⟨by decide +kernel, by decide +kernel⟩, List.mem_of_getElem? (i := 384) (by decide +kernel), List.mem_of_getElem? (i := 635) (by decide +kernel), List.mem_of_getElem? (i := 636) (by decide +kernel)⟩
theorem lw_p42 : lw_okq (⟨"TrackedLettersModel", "isTouched", "(II)Z"⟩, 32) := ⟨⟨by decide +kernel, by decide +kernel⟩, List.mem_of_getElem? (i := 384) (by decide +kernel), List.mem_of_getElem? (i := 639) (by decide +kernel), List.mem_of_getElem? (i := 640) (by decide +kernel)⟩
theorem lw_p43 : lw_okq (⟨"TrackedLettersModel", "isIdle", "(II)Z"⟩, 32) := ⟨⟨by decide +kernel, by decide +kernel⟩, List.mem_of_getElem? (i := 384) (by decide +kernel), List.mem_of_getElem? (i := 643) (by decide +kernel), List.mem_of_getElem? (i := 644) (by decide +kernel)⟩
theorem lw_p44 : lw_okq (⟨"TrackedLettersModel", "leansOn", "(I)I"⟩, 32) := ⟨⟨by decide +kernel, by decide +kernel⟩, List.mem_of_getElem? (i := 384) (by decide +kernel), List.mem_of_getElem? (i := 647) (by decide +kernel), List.mem_of_getElem? (i := 648) (by decide +kernel)⟩
theorem lw_p45 : lw_okq (⟨"TrackedLettersModel", "laySpans", "()V"⟩, 32) := ⟨⟨by decide +kernel, by decide +kernel⟩, List.mem_of_getElem? (i := 384) (by decide +kernel), List.mem_of_getElem? (i := 655) (by decide +kernel), List.mem_of_getElem? (i := 656) (by decide +kernel)⟩
theorem lw_p46 : lw_okq (⟨"TrackedLettersModel", "layFound", "()V"⟩, 32) := ⟨⟨by decide +kernel, by decide +kernel⟩, List.mem_of_getElem? (i := 384) (by decide +kernel), List.mem_of_getElem? (i := 663) (by decide +kernel), List.mem_of_getElem? (i := 664) (by decide +kernel)⟩
theorem lw_p47 : lw_okq (⟨"TrackedLettersModel", "readsAsPage", "(I)Z"⟩, 32) := ⟨⟨by decide +kernel, by decide +kernel⟩, List.mem_of_getElem? (i := 384) (by decide +kernel), List.mem_of_getElem? (i := 667) (by decide +kernel), List.mem_of_getElem? (i := 668) (by decide +kernel)⟩
def lw_privs_3 : List (MethodName × Nat) := [(⟨"TrackedLettersModel", "isChange", "(I)Z"⟩, 32), (⟨"TrackedLettersModel", "inState", "(I)I"⟩, 32), (⟨"TrackedLettersModel", "lengthOf", "(I)I"⟩, 32), (⟨"TrackedLettersModel", "readNow", "(II)I"⟩, 32), (⟨"TrackedLettersModel", "movedBy", "(I)I"⟩, 32), (⟨"TrackedLettersModel", "placeNow", "(II)I"⟩, 32), (⟨"TrackedLettersModel", "markOf", "(I)I"⟩, 32), (⟨"TrackedLettersModel", "isAt", "(II)Z"⟩, 32), (⟨"TrackedLettersModel", "changeNow", "(II)I"⟩, 32), (⟨"TrackedLettersModel", "touchedBy", "(IZ)I"⟩, 32), (⟨"TrackedLettersModel", "isTouched", "(II)Z"⟩, 32), (⟨"TrackedLettersModel", "isIdle", "(II)Z"⟩, 32), (⟨"TrackedLettersModel", "leansOn", "(I)I"⟩, 32), (⟨"TrackedLettersModel", "laySpans", "()V"⟩, 32), (⟨"TrackedLettersModel", "layFound", "()V"⟩, 32), (⟨"TrackedLettersModel", "readsAsPage", "(I)Z"⟩, 32)]
theorem lw_r3 : ∀ q ∈ lw_privs_3, lw_okq q := List.forall_mem_cons.mpr ⟨lw_p32, List.forall_mem_cons.mpr ⟨lw_p33, List.forall_mem_cons.mpr ⟨lw_p34, List.forall_mem_cons.mpr ⟨lw_p35, List.forall_mem_cons.mpr ⟨lw_p36, List.forall_mem_cons.mpr ⟨lw_p37, List.forall_mem_cons.mpr ⟨lw_p38, List.forall_mem_cons.mpr ⟨lw_p39, List.forall_mem_cons.mpr ⟨lw_p40, List.forall_mem_cons.mpr ⟨lw_p41, List.forall_mem_cons.mpr ⟨lw_p42, List.forall_mem_cons.mpr ⟨lw_p43, List.forall_mem_cons.mpr ⟨lw_p44, List.forall_mem_cons.mpr ⟨lw_p45, List.forall_mem_cons.mpr ⟨lw_p46, List.forall_mem_cons.mpr ⟨lw_p47, fun _ h => absurd h List.not_mem_nil⟩⟩⟩⟩⟩⟩⟩⟩⟩⟩⟩⟩⟩⟩⟩⟩
theorem lw_p48 : lw_okq (⟨"TrackedLettersModel", "howMany", "(I)I"⟩, 32) := ⟨⟨by decide +kernel, by decide +kernel⟩, List.mem_of_getElem? (i := 384) (by decide +kernel), List.mem_of_getElem? (i := 675) (by decide +kernel), List.mem_of_getElem? (i := 676) (by decide +kernel)⟩
theorem lw_p49 : lw_okq (⟨"TrackedLettersModel", "tornMany", "()I"⟩, 32) := ⟨⟨by decide +kernel, by decide +kernel⟩, List.mem_of_getElem? (i := 384) (by decide +kernel), List.mem_of_getElem? (i := 679) (by decide +kernel), List.mem_of_getElem? (i := 680) (by decide +kernel)⟩
theorem lw_p50 : lw_okq (⟨"TrackedLettersModel", "isTorn", "(I)Z"⟩, 32) := ⟨⟨by decide +kernel, by decide +kernel⟩, List.mem_of_getElem? (i := 384) (by decide +kernel), List.mem_of_getElem? (i := 683) (by decide +kernel), List.mem_of_getElem? (i := 684) (by decide +kernel)⟩
theorem lw_p51 : lw_okq (⟨"TrackedLettersModel", "openFrom", "(II)I"⟩, 32) := ⟨⟨by decide +kernel, by decide +kernel⟩, List.mem_of_getElem? (i := 384) (by decide +kernel), List.mem_of_getElem? (i := 687) (by decide +kernel), List.mem_of_getElem? (i := 688) (by decide +kernel)⟩
theorem lw_p52 : lw_okq (⟨"TrackedLettersModel", "mixView", "(I)V"⟩, 32) := ⟨⟨by decide +kernel, by decide +kernel⟩, List.mem_of_getElem? (i := 384) (by decide +kernel), List.mem_of_getElem? (i := 696) (by decide +kernel), List.mem_of_getElem? (i := 697) (by decide +kernel)⟩
theorem lw_p53 : lw_okq (⟨"TrackedLettersModel", "mix", "(J)V"⟩, 32) := ⟨⟨by decide +kernel, by decide +kernel⟩, List.mem_of_getElem? (i := 384) (by decide +kernel), List.mem_of_getElem? (i := 700) (by decide +kernel), List.mem_of_getElem? (i := 701) (by decide +kernel)⟩
theorem lw_p54 : lw_okq (⟨"TrackedLettersModel", "mixSpans", "()V"⟩, 32) := ⟨⟨by decide +kernel, by decide +kernel⟩, List.mem_of_getElem? (i := 384) (by decide +kernel), List.mem_of_getElem? (i := 705) (by decide +kernel), List.mem_of_getElem? (i := 706) (by decide +kernel)⟩
def lw_privs_4 : List (MethodName × Nat) := [(⟨"TrackedLettersModel", "howMany", "(I)I"⟩, 32), (⟨"TrackedLettersModel", "tornMany", "()I"⟩, 32), (⟨"TrackedLettersModel", "isTorn", "(I)Z"⟩, 32), (⟨"TrackedLettersModel", "openFrom", "(II)I"⟩, 32), (⟨"TrackedLettersModel", "mixView", "(I)V"⟩, 32), (⟨"TrackedLettersModel", "mix", "(J)V"⟩, 32), (⟨"TrackedLettersModel", "mixSpans", "()V"⟩, 32)]
theorem lw_r4 : ∀ q ∈ lw_privs_4, lw_okq q := List.forall_mem_cons.mpr ⟨lw_p48, List.forall_mem_cons.mpr ⟨lw_p49, List.forall_mem_cons.mpr ⟨lw_p50, List.forall_mem_cons.mpr ⟨lw_p51, List.forall_mem_cons.mpr ⟨lw_p52, List.forall_mem_cons.mpr ⟨lw_p53, List.forall_mem_cons.mpr ⟨lw_p54, fun _ h => absurd h List.not_mem_nil⟩⟩⟩⟩⟩⟩⟩
def lw_privs : List (MethodName × Nat) := lw_privs_1 ++ (lw_privs_2 ++ (lw_privs_3 ++ (lw_privs_4)))
def lw_tbl : List Cond := k2_sels lw_privs ++ tables_1
theorem lw_privs_ok : ∀ q ∈ lw_privs, lw_okq q := by
  show ∀ q ∈ lw_privs_1 ++ (lw_privs_2 ++ (lw_privs_3 ++ (lw_privs_4))), lw_okq q
  exact List.forall_mem_append.mpr ⟨lw_r1, List.forall_mem_append.mpr ⟨lw_r2, List.forall_mem_append.mpr ⟨lw_r3, lw_r4⟩⟩⟩
/-! ===== BEGIN words of one list among another's, by their places ===== -/
theorem goodIn_r {big : List Cond} (ws : List Cond) (ps : List Nat) (hp : ws = ps.filterMap (fun i => big[i]?)) (h : ws.all goodWord = true) : GoodIn big ws := by
  intro w hw
  have h1 := List.all_eq_true.mp h w hw
  rw [hp] at hw
  obtain ⟨i, -, hi⟩ := List.mem_filterMap.mp hw
  have hm : w ∈ big := by first | exact List.mem_of_getElem? hi | exact List.getElem?_mem hi
  exact ⟨hm, good_of_word h1⟩
theorem goodIn_app {big a b : List Cond} (ha : GoodIn big a) (hb : GoodIn big b) : GoodIn big (a ++ b) := fun w h => (List.mem_append.mp h).elim (ha w) (hb w)
theorem goodIn_ca {big a b : List Cond} {c : Cond} (ha : GoodIn big (c :: a)) (hb : GoodIn big b) : GoodIn big (c :: (a ++ b)) := fun w h => (List.mem_cons.mp h).elim (fun e => ha w (List.mem_cons.mpr (Or.inl e))) (fun h => (List.mem_append.mp h).elim (fun h => ha w (List.mem_cons.mpr (Or.inr h))) (hb w))
theorem goodIn_sub {big ws : List Cond} (hm : ∀ w ∈ ws, w ∈ big) (h : ws.all goodWord = true) : GoodIn big ws := fun w hw => ⟨hm w hw, good_of_word (List.all_eq_true.mp h w hw)⟩
/-! ===== END ===== -/

/-! ===== BEGIN printed: names, fields, word lists, decode rows ===== -/
def RX0 : String := "TrackedLetters$Changes"
def TX0 : u_T := fun k => match k with
  | 0 => ("TrackedLetters$Changes", "kindOf", "[I", true)
  | 1 => ("TrackedLetters$Changes", "authorOf", "[I", true)
  | 2 => ("TrackedLetters$Changes", "statusOf", "[I", true)
  | 3 => ("TrackedLetters$Changes", "shownOf", "[I", true)
  | 4 => ("TrackedLetters$Changes", "touchedBy", "[J", true)
  | _ => ("TrackedLetters$Changes", "size", "I", false)
def tyX0 : Nat → FieldType := fun k => match k with
  | 0 => .array .int
  | 1 => .array .int
  | 2 => .array .int
  | 3 => .array .int
  | 4 => .array .long
  | _ => .int
abbrev wsX00 : List Cond := u_ws RX0 TX0 6
theorem nmX0 : ∀ a, a < 6 → ∀ b, b < 6 → a ≠ b → (TX0 a).2.1 ≠ (TX0 b).2.1 := by decide +kernel
theorem tyX0_ok : ∀ k, k < 6 → parseFieldDescriptor (TX0 k).2.2.1 = some (tyX0 k) := by decide +kernel
abbrev cX0_init : ByteArray := prog_2_method_1_code
def yX0_init : MethodName := ⟨RX0, "<init>", "()V"⟩
abbrev cX0_names : ByteArray := prog_2_method_2_code
def yX0_names : MethodName := ⟨RX0, "names", "(I)Z"⟩
abbrev cX0_isFull : ByteArray := prog_2_method_3_code
def yX0_isFull : MethodName := ⟨RX0, "isFull", "()Z"⟩
abbrev cX0_add : ByteArray := prog_2_method_4_code
def yX0_add : MethodName := ⟨RX0, "add", "(II)I"⟩
abbrev cX0_touch : ByteArray := prog_2_method_5_code
def yX0_touch : MethodName := ⟨RX0, "touch", "(II)V"⟩
abbrev cX0_inStatus : ByteArray := prog_2_method_6_code
def yX0_inStatus : MethodName := ⟨RX0, "inStatus", "(I)I"⟩
abbrev cX0_seenBy : ByteArray := prog_2_method_7_code
def yX0_seenBy : MethodName := ⟨RX0, "seenBy", "(I)I"⟩
abbrev cX0_openOnes : ByteArray := prog_2_method_8_code
def yX0_openOnes : MethodName := ⟨RX0, "openOnes", "(II)I"⟩
abbrev cX0_insertsUnder : ByteArray := prog_2_method_9_code
def yX0_insertsUnder : MethodName := ⟨RX0, "insertsUnder", "(I)I"⟩
abbrev cX0_deletedTwice : ByteArray := prog_2_method_10_code
def yX0_deletedTwice : MethodName := ⟨RX0, "deletedTwice", "()J"⟩
def RX1 : String := "TrackedLetters$Line"
def TX1 : u_T := fun k => match k with
  | 0 => ("TrackedLetters$Line", "letterOf", "[I", true)
  | 1 => ("TrackedLetters$Line", "fromOf", "[I", true)
  | 2 => ("TrackedLetters$Line", "byOf", "[I", true)
  | 3 => ("TrackedLetters$Line", "onwardOf", "[I", true)
  | _ => ("TrackedLetters$Line", "size", "I", false)
def tyX1 : Nat → FieldType := fun k => match k with
  | 0 => .array .int
  | 1 => .array .int
  | 2 => .array .int
  | 3 => .array .int
  | _ => .int
abbrev wsX10 : List Cond := u_ws RX1 TX1 5
theorem nmX1 : ∀ a, a < 5 → ∀ b, b < 5 → a ≠ b → (TX1 a).2.1 ≠ (TX1 b).2.1 := by decide +kernel
theorem tyX1_ok : ∀ k, k < 5 → parseFieldDescriptor (TX1 k).2.2.1 = some (tyX1 k) := by decide +kernel
abbrev cX1_init : ByteArray := prog_3_method_1_code
def yX1_init : MethodName := ⟨RX1, "<init>", "()V"⟩
abbrev cX1_openGap : ByteArray := prog_3_method_2_code
def yX1_openGap : MethodName := ⟨RX1, "openGap", "(II)V"⟩
abbrev cX1_put : ByteArray := prog_3_method_3_code
def yX1_put : MethodName := ⟨RX1, "put", "(IIII)V"⟩
abbrev cX1_holds : ByteArray := prog_3_method_4_code
def yX1_holds : MethodName := ⟨RX1, "holds", "(IJI)Z"⟩
abbrev cX1_leadsTo : ByteArray := prog_3_method_5_code
def yX1_leadsTo : MethodName := ⟨RX1, "leadsTo", "(II)Z"⟩
abbrev cX1_leadersUnder : ByteArray := prog_3_method_6_code
def yX1_leadersUnder : MethodName := ⟨RX1, "leadersUnder", "(I)I"⟩
abbrev cX1_tornBy : ByteArray := prog_3_method_7_code
def yX1_tornBy : MethodName := ⟨RX1, "tornBy", "(I)J"⟩
def RX2 : String := "TrackedLetters$Spans"
def TX2 : u_T := fun k => match k with
  | 0 => ("TrackedLetters$Spans", "markOf", "[I", true)
  | 1 => ("TrackedLetters$Spans", "placesOf", "[I", true)
  | 2 => ("TrackedLetters$Spans", "startOf", "[I", true)
  | _ => ("TrackedLetters$Spans", "size", "I", false)
def tyX2 : Nat → FieldType := fun k => match k with
  | 0 => .array .int
  | 1 => .array .int
  | 2 => .array .int
  | _ => .int
abbrev wsX20 : List Cond := u_ws RX2 TX2 4
theorem nmX2 : ∀ a, a < 4 → ∀ b, b < 4 → a ≠ b → (TX2 a).2.1 ≠ (TX2 b).2.1 := by decide +kernel
theorem tyX2_ok : ∀ k, k < 4 → parseFieldDescriptor (TX2 k).2.2.1 = some (tyX2 k) := by decide +kernel
abbrev cX2_init : ByteArray := prog_4_method_1_code
def yX2_init : MethodName := ⟨RX2, "<init>", "()V"⟩
abbrev cX2_take : ByteArray := prog_4_method_2_code
def yX2_take : MethodName := ⟨RX2, "take", "(II)V"⟩
abbrev cX2_factOf : ByteArray := prog_4_method_3_code
def yX2_factOf : MethodName := ⟨RX2, "factOf", "(II)I"⟩
def RX3 : String := "TrackedLetters"
def TX3 : u_T := fun k => match k with
  | 0 => ("TrackedLetters", "page", "[I", true)
  | 1 => ("TrackedLetters", "pageSize", "I", false)
  | 2 => ("TrackedLetters", "codeOf", "[I", true)
  | 3 => ("TrackedLetters", "letters", "I", false)
  | 4 => ("TrackedLetters", "firstText", "J", false)
  | 5 => ("TrackedLetters", "line", "LTrackedLetters$Line;", true)
  | 6 => ("TrackedLetters", "changes", "LTrackedLetters$Changes;", true)
  | 7 => ("TrackedLetters", "spans", "LTrackedLetters$Spans;", true)
  | 8 => ("TrackedLetters", "row", "[I", true)
  | 9 => ("TrackedLetters", "foundSets", "I", false)
  | 10 => ("TrackedLetters", "foundLeast", "I", false)
  | 11 => ("TrackedLetters", "begun", "I", false)
  | _ => ("TrackedLetters", "settled", "I", false)
def tyX3 : Nat → FieldType := fun k => match k with
  | 0 => .array .int
  | 1 => .int
  | 2 => .array .int
  | 3 => .int
  | 4 => .long
  | 5 => .object "TrackedLetters$Line"
  | 6 => .object "TrackedLetters$Changes"
  | 7 => .object "TrackedLetters$Spans"
  | 8 => .array .int
  | 9 => .int
  | 10 => .int
  | 11 => .int
  | _ => .int
abbrev wsX30 : List Cond := u_ws RX3 TX3 13
theorem nmX3 : ∀ a, a < 13 → ∀ b, b < 13 → a ≠ b → (TX3 a).2.1 ≠ (TX3 b).2.1 := by decide +kernel
theorem tyX3_ok : ∀ k, k < 13 → parseFieldDescriptor (TX3 k).2.2.1 = some (tyX3 k) := by decide +kernel
abbrev cX3_init : ByteArray := prog_1_method_1_code
def yX3_init : MethodName := ⟨RX3, "<init>", "()V"⟩
abbrev cX3_letter : ByteArray := prog_1_method_2_code
def yX3_letter : MethodName := ⟨RX3, "letter", "(I)I"⟩
abbrev cX3_blank : ByteArray := prog_1_method_3_code
def yX3_blank : MethodName := ⟨RX3, "blank", "()I"⟩
abbrev cX3_begin : ByteArray := prog_1_method_4_code
def yX3_begin : MethodName := ⟨RX3, "begin", "()I"⟩
abbrev cX3_startText : ByteArray := prog_1_method_5_code
def yX3_startText : MethodName := ⟨RX3, "startText", "([II)V"⟩
abbrev cX3_firstLetters : ByteArray := prog_1_method_6_code
def yX3_firstLetters : MethodName := ⟨RX3, "firstLetters", "(I)J"⟩
abbrev cX3_addLetter : ByteArray := prog_1_method_7_code
def yX3_addLetter : MethodName := ⟨RX3, "addLetter", "(III)V"⟩
abbrev cX3_insert : ByteArray := prog_1_method_8_code
def yX3_insert : MethodName := ⟨RX3, "insert", "(II)I"⟩
abbrev cX3_insertPage : ByteArray := prog_1_method_9_code
def yX3_insertPage : MethodName := ⟨RX3, "insertPage", "(II)I"⟩
abbrev cX3_remove : ByteArray := prog_1_method_10_code
def yX3_remove : MethodName := ⟨RX3, "remove", "(III)I"⟩
abbrev cX3_move : ByteArray := prog_1_method_11_code
def yX3_move : MethodName := ⟨RX3, "move", "(IIII)I"⟩
abbrev cX3_moveLetters : ByteArray := prog_1_method_12_code
def yX3_moveLetters : MethodName := ⟨RX3, "moveLetters", "(IIII)I"⟩
abbrev cX3_isAuthor : ByteArray := prog_1_method_13_code
def yX3_isAuthor : MethodName := ⟨RX3, "isAuthor", "(I)Z"⟩
abbrev cX3_refusalOfRange : ByteArray := prog_1_method_14_code
def yX3_refusalOfRange : MethodName := ⟨RX3, "refusalOfRange", "(III)I"⟩
abbrev cX3_placeAhead : ByteArray := prog_1_method_15_code
def yX3_placeAhead : MethodName := ⟨RX3, "placeAhead", "(II)I"⟩
abbrev cX3_show : ByteArray := prog_1_method_16_code
def yX3_show : MethodName := ⟨RX3, "show", "(IZ)I"⟩
abbrev cX3_decide : ByteArray := prog_1_method_17_code
def yX3_decide : MethodName := ⟨RX3, "decide", "(II)I"⟩
abbrev cX3_settle : ByteArray := prog_1_method_18_code
def yX3_settle : MethodName := ⟨RX3, "settle", "()I"⟩
abbrev cX3_setOf : ByteArray := prog_1_method_19_code
def yX3_setOf : MethodName := ⟨RX3, "setOf", "(I)I"⟩
abbrev cX3_thereBy : ByteArray := prog_1_method_20_code
def yX3_thereBy : MethodName := ⟨RX3, "thereBy", "(I)J"⟩
abbrev cX3_lineUp : ByteArray := prog_1_method_21_code
def yX3_lineUp : MethodName := ⟨RX3, "lineUp", "(I)I"⟩
abbrev cX3_readsAsPage : ByteArray := prog_1_method_22_code
def yX3_readsAsPage : MethodName := ⟨RX3, "readsAsPage", "(I)Z"⟩
abbrev cX3_length : ByteArray := prog_1_method_23_code
def yX3_length : MethodName := ⟨RX3, "length", "(I)I"⟩
abbrev cX3_isView : ByteArray := prog_1_method_24_code
def yX3_isView : MethodName := ⟨RX3, "isView", "(I)Z"⟩
abbrev cX3_read : ByteArray := prog_1_method_25_code
def yX3_read : MethodName := ⟨RX3, "read", "(III)I"⟩
abbrev cX3_letterFact : ByteArray := prog_1_method_26_code
def yX3_letterFact : MethodName := ⟨RX3, "letterFact", "(II)I"⟩
abbrev cX3_place : ByteArray := prog_1_method_27_code
def yX3_place : MethodName := ⟨RX3, "place", "(II)I"⟩
abbrev cX3_placeFact : ByteArray := prog_1_method_28_code
def yX3_placeFact : MethodName := ⟨RX3, "placeFact", "(II)I"⟩
abbrev cX3_markOf : ByteArray := prog_1_method_29_code
def yX3_markOf : MethodName := ⟨RX3, "markOf", "(I)I"⟩
abbrev cX3_change : ByteArray := prog_1_method_30_code
def yX3_change : MethodName := ⟨RX3, "change", "(II)I"⟩
abbrev cX3_changeFact : ByteArray := prog_1_method_31_code
def yX3_changeFact : MethodName := ⟨RX3, "changeFact", "(II)I"⟩
abbrev cX3_idleOf : ByteArray := prog_1_method_32_code
def yX3_idleOf : MethodName := ⟨RX3, "idleOf", "(I)I"⟩
abbrev cX3_span : ByteArray := prog_1_method_33_code
def yX3_span : MethodName := ⟨RX3, "span", "(II)I"⟩
abbrev cX3_cutSpans : ByteArray := prog_1_method_34_code
def yX3_cutSpans : MethodName := ⟨RX3, "cutSpans", "()V"⟩
abbrev cX3_found : ByteArray := prog_1_method_35_code
def yX3_found : MethodName := ⟨RX3, "found", "(I)I"⟩
abbrev cX3_seekPage : ByteArray := prog_1_method_36_code
def yX3_seekPage : MethodName := ⟨RX3, "seekPage", "()V"⟩
abbrev cX3_count : ByteArray := prog_1_method_37_code
def yX3_count : MethodName := ⟨RX3, "count", "(I)I"⟩
abbrev cX3_digest : ByteArray := prog_1_method_38_code
def yX3_digest : MethodName := ⟨RX3, "digest", "()J"⟩
abbrev cX3_with : ByteArray := prog_1_method_39_code
def yX3_with : MethodName := ⟨RX3, "with", "(JI)J"⟩
abbrev cX3_withView : ByteArray := prog_1_method_40_code
def yX3_withView : MethodName := ⟨RX3, "withView", "(JI)J"⟩
abbrev cX3_withPlaces : ByteArray := prog_1_method_41_code
def yX3_withPlaces : MethodName := ⟨RX3, "withPlaces", "(J)J"⟩
abbrev cX3_withChanges : ByteArray := prog_1_method_42_code
def yX3_withChanges : MethodName := ⟨RX3, "withChanges", "(J)J"⟩
abbrev cX3_withSpans : ByteArray := prog_1_method_43_code
def yX3_withSpans : MethodName := ⟨RX3, "withSpans", "(J)J"⟩
def RX4 : String := "TrackedLettersModel"
def TX4 : u_T := fun k => match k with
  | 0 => ("TrackedLettersModel", "pageLength", "I", false)
  | 1 => ("TrackedLettersModel", "page", "[I", true)
  | 2 => ("TrackedLettersModel", "letters", "I", false)
  | 3 => ("TrackedLettersModel", "sign", "[I", true)
  | 4 => ("TrackedLettersModel", "insertOf", "[I", true)
  | 5 => ("TrackedLettersModel", "homeOf", "[I", true)
  | 6 => ("TrackedLettersModel", "deletedBy", "[I", true)
  | 7 => ("TrackedLettersModel", "changes", "I", false)
  | 8 => ("TrackedLettersModel", "kindOf", "[I", true)
  | 9 => ("TrackedLettersModel", "authorOf", "[I", true)
  | 10 => ("TrackedLettersModel", "stateOf", "[I", true)
  | 11 => ("TrackedLettersModel", "isShown", "[Z", true)
  | 12 => ("TrackedLettersModel", "places", "I", false)
  | 13 => ("TrackedLettersModel", "letterOf", "[I", true)
  | 14 => ("TrackedLettersModel", "fromOf", "[I", true)
  | 15 => ("TrackedLettersModel", "byOf", "[I", true)
  | 16 => ("TrackedLettersModel", "line", "[I", true)
  | 17 => ("TrackedLettersModel", "firstOn", "[I", true)
  | 18 => ("TrackedLettersModel", "nextOn", "[I", true)
  | 19 => ("TrackedLettersModel", "begun", "I", false)
  | 20 => ("TrackedLettersModel", "settled", "I", false)
  | 21 => ("TrackedLettersModel", "reads", "I", false)
  | 22 => ("TrackedLettersModel", "readAt", "[I", true)
  | 23 => ("TrackedLettersModel", "isStood", "[Z", true)
  | 24 => ("TrackedLettersModel", "kept", "[I", true)
  | 25 => ("TrackedLettersModel", "spans", "I", false)
  | 26 => ("TrackedLettersModel", "spanMark", "[I", true)
  | 27 => ("TrackedLettersModel", "spanMany", "[I", true)
  | 28 => ("TrackedLettersModel", "spanFirst", "[I", true)
  | 29 => ("TrackedLettersModel", "sets", "I", false)
  | 30 => ("TrackedLettersModel", "best", "I", false)
  | _ => ("TrackedLettersModel", "h", "J", false)
def tyX4 : Nat → FieldType := fun k => match k with
  | 0 => .int
  | 1 => .array .int
  | 2 => .int
  | 3 => .array .int
  | 4 => .array .int
  | 5 => .array .int
  | 6 => .array .int
  | 7 => .int
  | 8 => .array .int
  | 9 => .array .int
  | 10 => .array .int
  | 11 => .array .boolean
  | 12 => .int
  | 13 => .array .int
  | 14 => .array .int
  | 15 => .array .int
  | 16 => .array .int
  | 17 => .array .int
  | 18 => .array .int
  | 19 => .int
  | 20 => .int
  | 21 => .int
  | 22 => .array .int
  | 23 => .array .boolean
  | 24 => .array .int
  | 25 => .int
  | 26 => .array .int
  | 27 => .array .int
  | 28 => .array .int
  | 29 => .int
  | 30 => .int
  | _ => .long
abbrev wsX40 : List Cond := u_ws RX4 TX4 32
theorem nmX4 : ∀ a, a < 32 → ∀ b, b < 32 → a ≠ b → (TX4 a).2.1 ≠ (TX4 b).2.1 := by decide +kernel
theorem tyX4_ok : ∀ k, k < 32 → parseFieldDescriptor (TX4 k).2.2.1 = some (tyX4 k) := by decide +kernel
abbrev cX4_init : ByteArray := prog_6_method_1_code
def yX4_init : MethodName := ⟨RX4, "<init>", "()V"⟩
abbrev cX4_within : ByteArray := prog_6_method_3_code
def yX4_within : MethodName := ⟨RX4, "within", "(III)Z"⟩
abbrev cX4_has : ByteArray := prog_6_method_4_code
def yX4_has : MethodName := ⟨RX4, "has", "(II)Z"⟩
abbrev cX4_letter : ByteArray := prog_6_method_5_code
def yX4_letter : MethodName := ⟨RX4, "letter", "(I)I"⟩
abbrev cX4_blank : ByteArray := prog_6_method_6_code
def yX4_blank : MethodName := ⟨RX4, "blank", "()I"⟩
abbrev cX4_comes : ByteArray := prog_6_method_7_code
def yX4_comes : MethodName := ⟨RX4, "comes", "(III)V"⟩
abbrev cX4_layPlace : ByteArray := prog_6_method_8_code
def yX4_layPlace : MethodName := ⟨RX4, "layPlace", "(IIII)V"⟩
abbrev cX4_layOn : ByteArray := prog_6_method_9_code
def yX4_layOn : MethodName := ⟨RX4, "layOn", "(II)V"⟩
abbrev cX4_begin : ByteArray := prog_6_method_10_code
def yX4_begin : MethodName := ⟨RX4, "begin", "()I"⟩
abbrev cX4_setOf : ByteArray := prog_6_method_11_code
def yX4_setOf : MethodName := ⟨RX4, "setOf", "(I)I"⟩
abbrev cX4_isThere : ByteArray := prog_6_method_12_code
def yX4_isThere : MethodName := ⟨RX4, "isThere", "(II)Z"⟩
abbrev cX4_leadsOn : ByteArray := prog_6_method_13_code
def yX4_leadsOn : MethodName := ⟨RX4, "leadsOn", "(II)I"⟩
abbrev cX4_standsAt : ByteArray := prog_6_method_14_code
def yX4_standsAt : MethodName := ⟨RX4, "standsAt", "(II)I"⟩
abbrev cX4_layRead : ByteArray := prog_6_method_15_code
def yX4_layRead : MethodName := ⟨RX4, "layRead", "(I)V"⟩
abbrev cX4_inLine : ByteArray := prog_6_method_16_code
def yX4_inLine : MethodName := ⟨RX4, "inLine", "(I)I"⟩
abbrev cX4_isAuthor : ByteArray := prog_6_method_17_code
def yX4_isAuthor : MethodName := ⟨RX4, "isAuthor", "(I)Z"⟩
abbrev cX4_layChange : ByteArray := prog_6_method_18_code
def yX4_layChange : MethodName := ⟨RX4, "layChange", "(II)I"⟩
abbrev cX4_ahead : ByteArray := prog_6_method_19_code
def yX4_ahead : MethodName := ⟨RX4, "ahead", "(I)I"⟩
abbrev cX4_insert : ByteArray := prog_6_method_20_code
def yX4_insert : MethodName := ⟨RX4, "insert", "(II)I"⟩
abbrev cX4_remove : ByteArray := prog_6_method_21_code
def yX4_remove : MethodName := ⟨RX4, "remove", "(III)I"⟩
abbrev cX4_move : ByteArray := prog_6_method_22_code
def yX4_move : MethodName := ⟨RX4, "move", "(IIII)I"⟩
abbrev cX4_isChange : ByteArray := prog_6_method_23_code
def yX4_isChange : MethodName := ⟨RX4, "isChange", "(I)Z"⟩
abbrev cX4_show : ByteArray := prog_6_method_24_code
def yX4_show : MethodName := ⟨RX4, "show", "(IZ)I"⟩
abbrev cX4_decide : ByteArray := prog_6_method_25_code
def yX4_decide : MethodName := ⟨RX4, "decide", "(II)I"⟩
abbrev cX4_inState : ByteArray := prog_6_method_26_code
def yX4_inState : MethodName := ⟨RX4, "inState", "(I)I"⟩
abbrev cX4_settle : ByteArray := prog_6_method_27_code
def yX4_settle : MethodName := ⟨RX4, "settle", "()I"⟩
abbrev cX4_isView : ByteArray := prog_6_method_28_code
def yX4_isView : MethodName := ⟨RX4, "isView", "(I)Z"⟩
abbrev cX4_lengthOf : ByteArray := prog_6_method_29_code
def yX4_lengthOf : MethodName := ⟨RX4, "lengthOf", "(I)I"⟩
abbrev cX4_length : ByteArray := prog_6_method_30_code
def yX4_length : MethodName := ⟨RX4, "length", "(I)I"⟩
abbrev cX4_ones : ByteArray := prog_6_method_31_code
def yX4_ones : MethodName := ⟨RX4, "ones", "(I)I"⟩
abbrev cX4_movedBy : ByteArray := prog_6_method_32_code
def yX4_movedBy : MethodName := ⟨RX4, "movedBy", "(I)I"⟩
abbrev cX4_readNow : ByteArray := prog_6_method_33_code
def yX4_readNow : MethodName := ⟨RX4, "readNow", "(II)I"⟩
abbrev cX4_read : ByteArray := prog_6_method_34_code
def yX4_read : MethodName := ⟨RX4, "read", "(III)I"⟩
abbrev cX4_isAt : ByteArray := prog_6_method_35_code
def yX4_isAt : MethodName := ⟨RX4, "isAt", "(II)Z"⟩
abbrev cX4_markOf : ByteArray := prog_6_method_36_code
def yX4_markOf : MethodName := ⟨RX4, "markOf", "(I)I"⟩
abbrev cX4_placeNow : ByteArray := prog_6_method_37_code
def yX4_placeNow : MethodName := ⟨RX4, "placeNow", "(II)I"⟩
abbrev cX4_place : ByteArray := prog_6_method_38_code
def yX4_place : MethodName := ⟨RX4, "place", "(II)I"⟩
abbrev cX4_isTouched : ByteArray := prog_6_method_39_code
def yX4_isTouched : MethodName := ⟨RX4, "isTouched", "(II)Z"⟩
abbrev cX4_isIdle : ByteArray := prog_6_method_40_code
def yX4_isIdle : MethodName := ⟨RX4, "isIdle", "(II)Z"⟩
abbrev cX4_touchedBy : ByteArray := prog_6_method_41_code
def yX4_touchedBy : MethodName := ⟨RX4, "touchedBy", "(IZ)I"⟩
abbrev cX4_leansOn : ByteArray := prog_6_method_42_code
def yX4_leansOn : MethodName := ⟨RX4, "leansOn", "(I)I"⟩
abbrev cX4_changeNow : ByteArray := prog_6_method_43_code
def yX4_changeNow : MethodName := ⟨RX4, "changeNow", "(II)I"⟩
abbrev cX4_change : ByteArray := prog_6_method_44_code
def yX4_change : MethodName := ⟨RX4, "change", "(II)I"⟩
abbrev cX4_laySpans : ByteArray := prog_6_method_45_code
def yX4_laySpans : MethodName := ⟨RX4, "laySpans", "()V"⟩
abbrev cX4_span : ByteArray := prog_6_method_46_code
def yX4_span : MethodName := ⟨RX4, "span", "(II)I"⟩
abbrev cX4_readsAsPage : ByteArray := prog_6_method_47_code
def yX4_readsAsPage : MethodName := ⟨RX4, "readsAsPage", "(I)Z"⟩
abbrev cX4_layFound : ByteArray := prog_6_method_48_code
def yX4_layFound : MethodName := ⟨RX4, "layFound", "()V"⟩
abbrev cX4_found : ByteArray := prog_6_method_49_code
def yX4_found : MethodName := ⟨RX4, "found", "(I)I"⟩
abbrev cX4_openFrom : ByteArray := prog_6_method_50_code
def yX4_openFrom : MethodName := ⟨RX4, "openFrom", "(II)I"⟩
abbrev cX4_isTorn : ByteArray := prog_6_method_51_code
def yX4_isTorn : MethodName := ⟨RX4, "isTorn", "(I)Z"⟩
abbrev cX4_tornMany : ByteArray := prog_6_method_52_code
def yX4_tornMany : MethodName := ⟨RX4, "tornMany", "()I"⟩
abbrev cX4_howMany : ByteArray := prog_6_method_53_code
def yX4_howMany : MethodName := ⟨RX4, "howMany", "(I)I"⟩
abbrev cX4_count : ByteArray := prog_6_method_54_code
def yX4_count : MethodName := ⟨RX4, "count", "(I)I"⟩
abbrev cX4_mix : ByteArray := prog_6_method_55_code
def yX4_mix : MethodName := ⟨RX4, "mix", "(J)V"⟩
abbrev cX4_mixView : ByteArray := prog_6_method_56_code
def yX4_mixView : MethodName := ⟨RX4, "mixView", "(I)V"⟩
abbrev cX4_mixSpans : ByteArray := prog_6_method_57_code
def yX4_mixSpans : MethodName := ⟨RX4, "mixSpans", "()V"⟩
abbrev cX4_digest : ByteArray := prog_6_method_58_code
def yX4_digest : MethodName := ⟨RX4, "digest", "()J"⟩
def RJ6 : String := "java/lang/Integer"
def TJ6 : u_T := fun k => match k with
  | _ => ("", "", "", false)
def tyJ6 : Nat → FieldType := fun k => match k with
  | _ => .int
abbrev wsJ60 : List Cond := u_ws RJ6 TJ6 0
theorem nmJ6 : ∀ a, a < 0 → ∀ b, b < 0 → a ≠ b → (TJ6 a).2.1 ≠ (TJ6 b).2.1 := by decide +kernel
theorem tyJ6_ok : ∀ k, k < 0 → parseFieldDescriptor (TJ6 k).2.2.1 = some (tyJ6 k) := by decide +kernel
abbrev cJ6_bitCount_0f7a4 : ByteArray := prog_7_method_49_code
def yJ6_bitCount_0f7a4 : MethodName := ⟨RJ6, "bitCount", "(I)I"⟩
def RJ13 : String := "java/lang/Long"
def TJ13 : u_T := fun k => match k with
  | _ => ("", "", "", false)
def tyJ13 : Nat → FieldType := fun k => match k with
  | _ => .int
abbrev wsJ130 : List Cond := u_ws RJ13 TJ13 0
theorem nmJ13 : ∀ a, a < 0 → ∀ b, b < 0 → a ≠ b → (TJ13 a).2.1 ≠ (TJ13 b).2.1 := by decide +kernel
theorem tyJ13_ok : ∀ k, k < 0 → parseFieldDescriptor (TJ13 k).2.2.1 = some (tyJ13 k) := by decide +kernel
abbrev cJ13_bitCount_95d88 : ByteArray := prog_8_method_50_code
def yJ13_bitCount_95d88 : MethodName := ⟨RJ13, "bitCount", "(J)I"⟩
def RL : String := "TrackedLettersLaw"
abbrev cL_law : ByteArray := code
def yL_law : MethodName := ⟨RL, "law", "([I)Z"⟩
def wsL_law_r1 : List Cond := [Cond.classLink RL 7 RX3, Cond.instantiable RX3 13, Cond.initialized RX3, Cond.classLink RL 10 RX4, Cond.instantiable RX4 32, Cond.initialized RX4, Cond.methodLink RL 9 yX3_init, Cond.instanceMethod yX3_init, Cond.code yX3_init cX3_init 1 none, Cond.methodLink RX3 1 objectInit, Cond.instanceMethod objectInit, Cond.code objectInit ⟨#[0xb1]⟩ 1 none, Cond.arrayClass .int, Cond.fieldLink RX3 9 "TrackedLetters" "page" "[I", Cond.fieldLink RX3 13 "TrackedLetters" "pageSize" "I", Cond.fieldLink RX3 17 "TrackedLetters" "codeOf" "[I", Cond.fieldLink RX3 20 "TrackedLetters" "letters" "I", Cond.fieldLink RX3 23 "TrackedLetters" "firstText" "J", Cond.classLink RX3 27 RX1, Cond.instantiable RX1 5, Cond.initialized RX1, Cond.fieldLink RX3 30 "TrackedLetters" "line" "LTrackedLetters$Line;", Cond.classLink RX3 34 RX0, Cond.instantiable RX0 6]
def wsL_law_r2 : List Cond := [Cond.initialized RX0, Cond.fieldLink RX3 37 "TrackedLetters" "changes" "LTrackedLetters$Changes;", Cond.classLink RX3 41 RX2, Cond.instantiable RX2 4, Cond.initialized RX2, Cond.fieldLink RX3 44 "TrackedLetters" "spans" "LTrackedLetters$Spans;", Cond.fieldLink RX3 48 "TrackedLetters" "row" "[I", Cond.fieldLink RX3 51 "TrackedLetters" "foundSets" "I", Cond.fieldLink RX3 54 "TrackedLetters" "foundLeast" "I", Cond.fieldLink RX3 57 "TrackedLetters" "begun" "I", Cond.fieldLink RX3 60 "TrackedLetters" "settled" "I", Cond.instanceMethod yX1_init, Cond.code yX1_init cX1_init 1 none, Cond.methodLink RX1 3 objectInit, Cond.fieldLink RX1 9 "TrackedLetters$Line" "letterOf" "[I", Cond.fieldLink RX1 15 "TrackedLetters$Line" "fromOf" "[I", Cond.fieldLink RX1 18 "TrackedLetters$Line" "byOf" "[I", Cond.fieldLink RX1 21 "TrackedLetters$Line" "onwardOf" "[I", Cond.fieldLink RX1 24 "TrackedLetters$Line" "size" "I", Cond.instanceMethod yX0_init, Cond.code yX0_init cX0_init 1 none, Cond.methodLink RX0 3 objectInit, Cond.fieldLink RX0 9 "TrackedLetters$Changes" "kindOf" "[I", Cond.fieldLink RX0 15 "TrackedLetters$Changes" "authorOf" "[I"]
def wsL_law_r3 : List Cond := [Cond.fieldLink RX0 18 "TrackedLetters$Changes" "statusOf" "[I", Cond.fieldLink RX0 21 "TrackedLetters$Changes" "shownOf" "[I", Cond.arrayClass .long, Cond.fieldLink RX0 24 "TrackedLetters$Changes" "touchedBy" "[J", Cond.fieldLink RX0 28 "TrackedLetters$Changes" "size" "I", Cond.instanceMethod yX2_init, Cond.code yX2_init cX2_init 1 none, Cond.methodLink RX2 3 objectInit, Cond.fieldLink RX2 9 "TrackedLetters$Spans" "markOf" "[I", Cond.fieldLink RX2 15 "TrackedLetters$Spans" "placesOf" "[I", Cond.fieldLink RX2 18 "TrackedLetters$Spans" "startOf" "[I", Cond.fieldLink RX2 21 "TrackedLetters$Spans" "size" "I", Cond.methodLink RL 12 yX4_init, Cond.instanceMethod yX4_init, Cond.code yX4_init cX4_init 1 none, Cond.methodLink RX4 1 objectInit, Cond.fieldLink RX4 7 "TrackedLettersModel" "page" "[I", Cond.fieldLink RX4 13 "TrackedLettersModel" "sign" "[I", Cond.fieldLink RX4 16 "TrackedLettersModel" "insertOf" "[I", Cond.fieldLink RX4 19 "TrackedLettersModel" "homeOf" "[I", Cond.fieldLink RX4 22 "TrackedLettersModel" "deletedBy" "[I", Cond.fieldLink RX4 25 "TrackedLettersModel" "kindOf" "[I", Cond.fieldLink RX4 28 "TrackedLettersModel" "authorOf" "[I", Cond.fieldLink RX4 31 "TrackedLettersModel" "stateOf" "[I"]
def wsL_law_r4 : List Cond := [Cond.arrayClass .boolean, Cond.fieldLink RX4 34 "TrackedLettersModel" "isShown" "[Z", Cond.fieldLink RX4 38 "TrackedLettersModel" "letterOf" "[I", Cond.fieldLink RX4 41 "TrackedLettersModel" "fromOf" "[I", Cond.fieldLink RX4 44 "TrackedLettersModel" "byOf" "[I", Cond.fieldLink RX4 47 "TrackedLettersModel" "line" "[I", Cond.fieldLink RX4 50 "TrackedLettersModel" "firstOn" "[I", Cond.fieldLink RX4 53 "TrackedLettersModel" "nextOn" "[I", Cond.fieldLink RX4 56 "TrackedLettersModel" "readAt" "[I", Cond.fieldLink RX4 59 "TrackedLettersModel" "isStood" "[Z", Cond.fieldLink RX4 62 "TrackedLettersModel" "kept" "[I", Cond.fieldLink RX4 65 "TrackedLettersModel" "spanMark" "[I", Cond.fieldLink RX4 68 "TrackedLettersModel" "spanMany" "[I", Cond.fieldLink RX4 71 "TrackedLettersModel" "spanFirst" "[I", Cond.methodLink RL 13 yX3_letter, Cond.instanceMethod yX3_letter, Cond.selects RX3 yX3_letter yX3_letter, Cond.code yX3_letter cX3_letter 2 (some .int), Cond.methodLink RL 17 yX4_letter, Cond.instanceMethod yX4_letter, Cond.selects RX4 yX4_letter yX4_letter, Cond.code yX4_letter cX4_letter 2 (some .int), Cond.fieldLink RX4 78 "TrackedLettersModel" "pageLength" "I", Cond.methodLink RX4 74 yX4_within]
def wsL_law_r5 : List Cond := [Cond.static yX4_within, Cond.code yX4_within cX4_within 3 (some .boolean), Cond.methodLink RL 18 yX3_blank, Cond.instanceMethod yX3_blank, Cond.selects RX3 yX3_blank yX3_blank, Cond.code yX3_blank cX3_blank 2 (some .int), Cond.methodLink RL 22 yX4_blank, Cond.instanceMethod yX4_blank, Cond.selects RX4 yX4_blank yX4_blank, Cond.code yX4_blank cX4_blank 2 (some .int), Cond.methodLink RL 23 yX3_begin, Cond.instanceMethod yX3_begin, Cond.selects RX3 yX3_begin yX3_begin, Cond.code yX3_begin cX3_begin 1 (some .int), Cond.methodLink RX3 63 yX3_startText, Cond.instanceMethod yX3_startText, Cond.selects RX3 yX3_startText yX3_startText, Cond.code yX3_startText cX3_startText 4 none, Cond.fieldLink RX3 67 "TrackedLetters$Line" "size" "I", Cond.fieldLink RX3 70 "TrackedLetters$Changes" "size" "I", Cond.methodLink RX3 71 yX3_addLetter, Cond.instanceMethod yX3_addLetter, Cond.selects RX3 yX3_addLetter yX3_addLetter, Cond.code yX3_addLetter cX3_addLetter 4 none]
def wsL_law_r6 : List Cond := [Cond.methodLink RX3 81 yX1_openGap, Cond.instanceMethod yX1_openGap, Cond.selects RX1 yX1_openGap yX1_openGap, Cond.code yX1_openGap cX1_openGap 4 none, Cond.methodLink RX3 85 yX1_put, Cond.instanceMethod yX1_put, Cond.selects RX1 yX1_put yX1_put, Cond.code yX1_put cX1_put 5 none, Cond.methodLink RX3 75 yX3_firstLetters, Cond.static yX3_firstLetters, Cond.code yX3_firstLetters cX3_firstLetters 1 (some .long), Cond.constantLong RX3 79 (-1), Cond.methodLink RL 26 yX4_begin, Cond.instanceMethod yX4_begin, Cond.selects RX4 yX4_begin yX4_begin, Cond.code yX4_begin cX4_begin 2 (some .int), Cond.fieldLink RX4 82 "TrackedLettersModel" "letters" "I", Cond.fieldLink RX4 85 "TrackedLettersModel" "places" "I", Cond.fieldLink RX4 96 "TrackedLettersModel" "changes" "I", Cond.fieldLink RX4 103 "TrackedLettersModel" "begun" "I", Cond.methodLink RX4 99 yX4_comes, Cond.instanceMethod yX4_comes, Cond.selects RX4 yX4_comes yX4_comes, Cond.code yX4_comes cX4_comes 4 none]
def wsL_law_r7 : List Cond := [Cond.methodLink RX4 88 yX4_layPlace, Cond.instanceMethod yX4_layPlace, Cond.selects RX4 yX4_layPlace yX4_layPlace, Cond.code yX4_layPlace cX4_layPlace 6 none, Cond.methodLink RX4 92 yX4_layOn, Cond.instanceMethod yX4_layOn, Cond.selects RX4 yX4_layOn yX4_layOn, Cond.code yX4_layOn cX4_layOn 4 none, Cond.methodLink RL 27 yX3_insert, Cond.instanceMethod yX3_insert, Cond.selects RX3 yX3_insert yX3_insert, Cond.code yX3_insert cX3_insert 4 (some .int), Cond.methodLink RX3 89 yX3_isAuthor, Cond.static yX3_isAuthor, Cond.code yX3_isAuthor cX3_isAuthor 1 (some .boolean), Cond.methodLink RX3 93 yX3_setOf, Cond.instanceMethod yX3_setOf, Cond.selects RX3 yX3_setOf yX3_setOf, Cond.code yX3_setOf cX3_setOf 4 (some .int), Cond.methodLink RX3 137 yX0_inStatus, Cond.instanceMethod yX0_inStatus, Cond.selects RX0 yX0_inStatus yX0_inStatus, Cond.code yX0_inStatus cX0_inStatus 4 (some .int), Cond.methodLink RX3 140 yX0_seenBy]
def wsL_law_r8 : List Cond := [Cond.instanceMethod yX0_seenBy, Cond.selects RX0 yX0_seenBy yX0_seenBy, Cond.code yX0_seenBy cX0_seenBy 4 (some .int), Cond.methodLink RX3 97 yX3_lineUp, Cond.instanceMethod yX3_lineUp, Cond.selects RX3 yX3_lineUp yX3_lineUp, Cond.code yX3_lineUp cX3_lineUp 6 (some .int), Cond.methodLink RX3 150 yX3_thereBy, Cond.instanceMethod yX3_thereBy, Cond.selects RX3 yX3_thereBy yX3_thereBy, Cond.code yX3_thereBy cX3_thereBy 7 (some .long), Cond.fieldLink RX3 143 "TrackedLetters$Changes" "kindOf" "[I", Cond.fieldLink RX3 146 "TrackedLetters$Changes" "touchedBy" "[J", Cond.methodLink RX3 153 yX1_holds, Cond.instanceMethod yX1_holds, Cond.selects RX1 yX1_holds yX1_holds, Cond.code yX1_holds cX1_holds 5 (some .boolean), Cond.methodLink RX1 28 yX1_leadsTo, Cond.instanceMethod yX1_leadsTo, Cond.selects RX1 yX1_leadsTo yX1_leadsTo, Cond.code yX1_leadsTo cX1_leadsTo 6 (some .boolean), Cond.methodLink RX3 100 yX0_isFull, Cond.instanceMethod yX0_isFull, Cond.selects RX0 yX0_isFull yX0_isFull]
def wsL_law_r9 : List Cond := [Cond.code yX0_isFull cX0_isFull 1 (some .boolean), Cond.methodLink RX3 104 yX3_placeAhead, Cond.instanceMethod yX3_placeAhead, Cond.selects RX3 yX3_placeAhead yX3_placeAhead, Cond.code yX3_placeAhead cX3_placeAhead 3 (some .int), Cond.methodLink RX3 108 yX3_insertPage, Cond.instanceMethod yX3_insertPage, Cond.selects RX3 yX3_insertPage yX3_insertPage, Cond.code yX3_insertPage cX3_insertPage 5 (some .int), Cond.methodLink RX3 111 yX0_add, Cond.instanceMethod yX0_add, Cond.selects RX0 yX0_add yX0_add, Cond.code yX0_add cX0_add 4 (some .int), Cond.methodLink RX3 114 yX0_touch, Cond.instanceMethod yX0_touch, Cond.selects RX0 yX0_touch yX0_touch, Cond.code yX0_touch cX0_touch 3 none, Cond.methodLink RL 31 yX4_insert, Cond.instanceMethod yX4_insert, Cond.selects RX4 yX4_insert yX4_insert, Cond.code yX4_insert cX4_insert 6 (some .int), Cond.fieldLink RX4 120 "TrackedLettersModel" "reads" "I", Cond.methodLink RX4 127 yX4_isAuthor, Cond.static yX4_isAuthor]
def wsL_law_r10 : List Cond := [Cond.code yX4_isAuthor cX4_isAuthor 1 (some .boolean), Cond.methodLink RX4 131 yX4_setOf, Cond.instanceMethod yX4_setOf, Cond.selects RX4 yX4_setOf yX4_setOf, Cond.code yX4_setOf cX4_setOf 5 (some .int), Cond.methodLink RX4 134 yX4_layRead, Cond.instanceMethod yX4_layRead, Cond.selects RX4 yX4_layRead yX4_layRead, Cond.code yX4_layRead cX4_layRead 3 none, Cond.methodLink RX4 114 yX4_isThere, Cond.instanceMethod yX4_isThere, Cond.selects RX4 yX4_isThere yX4_isThere, Cond.code yX4_isThere cX4_isThere 4 (some .boolean), Cond.methodLink RX4 106 yX4_has, Cond.static yX4_has, Cond.code yX4_has cX4_has 2 (some .boolean), Cond.methodLink RX4 117 yX4_standsAt, Cond.instanceMethod yX4_standsAt, Cond.selects RX4 yX4_standsAt yX4_standsAt, Cond.code yX4_standsAt cX4_standsAt 5 (some .int), Cond.methodLink RX4 110 yX4_leadsOn, Cond.instanceMethod yX4_leadsOn, Cond.selects RX4 yX4_leadsOn yX4_leadsOn, Cond.code yX4_leadsOn cX4_leadsOn 4 (some .int)]
def wsL_law_r11 : List Cond := [Cond.methodLink RX4 138 yX4_ahead, Cond.instanceMethod yX4_ahead, Cond.selects RX4 yX4_ahead yX4_ahead, Cond.code yX4_ahead cX4_ahead 2 (some .int), Cond.methodLink RX4 123 yX4_inLine, Cond.instanceMethod yX4_inLine, Cond.selects RX4 yX4_inLine yX4_inLine, Cond.code yX4_inLine cX4_inLine 3 (some .int), Cond.methodLink RX4 141 yX4_layChange, Cond.instanceMethod yX4_layChange, Cond.selects RX4 yX4_layChange yX4_layChange, Cond.code yX4_layChange cX4_layChange 3 (some .int), Cond.methodLink RL 32 yX3_remove, Cond.instanceMethod yX3_remove, Cond.selects RX3 yX3_remove yX3_remove, Cond.code yX3_remove cX3_remove 8 (some .int), Cond.fieldLink RX3 121 "TrackedLetters$Line" "letterOf" "[I", Cond.methodLink RX3 117 yX3_refusalOfRange, Cond.static yX3_refusalOfRange, Cond.code yX3_refusalOfRange cX3_refusalOfRange 3 (some .int), Cond.methodLink RL 36 yX4_remove, Cond.instanceMethod yX4_remove, Cond.selects RX4 yX4_remove yX4_remove, Cond.code yX4_remove cX4_remove 6 (some .int)]
def wsL_law_r12 : List Cond := [Cond.methodLink RL 37 yX3_move, Cond.instanceMethod yX3_move, Cond.selects RX3 yX3_move yX3_move, Cond.code yX3_move cX3_move 7 (some .int), Cond.methodLink RX3 124 yX3_moveLetters, Cond.instanceMethod yX3_moveLetters, Cond.selects RX3 yX3_moveLetters yX3_moveLetters, Cond.code yX3_moveLetters cX3_moveLetters 8 (some .int), Cond.methodLink RL 41 yX4_move, Cond.instanceMethod yX4_move, Cond.selects RX4 yX4_move yX4_move, Cond.code yX4_move cX4_move 8 (some .int), Cond.methodLink RL 42 yX3_show, Cond.instanceMethod yX3_show, Cond.selects RX3 yX3_show yX3_show, Cond.code yX3_show cX3_show 4 (some .int), Cond.fieldLink RX3 131 "TrackedLetters$Changes" "shownOf" "[I", Cond.methodLink RX3 128 yX0_names, Cond.instanceMethod yX0_names, Cond.selects RX0 yX0_names yX0_names, Cond.code yX0_names cX0_names 2 (some .boolean), Cond.methodLink RL 46 yX4_show, Cond.instanceMethod yX4_show, Cond.selects RX4 yX4_show yX4_show]
def wsL_law_r13 : List Cond := [Cond.code yX4_show cX4_show 4 (some .int), Cond.methodLink RX4 144 yX4_isChange, Cond.instanceMethod yX4_isChange, Cond.selects RX4 yX4_isChange yX4_isChange, Cond.code yX4_isChange cX4_isChange 2 (some .boolean), Cond.methodLink RL 47 yX3_decide, Cond.instanceMethod yX3_decide, Cond.selects RX3 yX3_decide yX3_decide, Cond.code yX3_decide cX3_decide 4 (some .int), Cond.fieldLink RX3 134 "TrackedLetters$Changes" "statusOf" "[I", Cond.methodLink RL 50 yX4_decide, Cond.instanceMethod yX4_decide, Cond.selects RX4 yX4_decide yX4_decide, Cond.code yX4_decide cX4_decide 4 (some .int), Cond.methodLink RL 51 yX3_settle, Cond.instanceMethod yX3_settle, Cond.selects RX3 yX3_settle yX3_settle, Cond.code yX3_settle cX3_settle 3 (some .int), Cond.methodLink RL 54 yX4_settle, Cond.instanceMethod yX4_settle, Cond.selects RX4 yX4_settle yX4_settle, Cond.code yX4_settle cX4_settle 2 (some .int), Cond.fieldLink RX4 150 "TrackedLettersModel" "settled" "I", Cond.methodLink RX4 147 yX4_inState]
def wsL_law_r14 : List Cond := [Cond.instanceMethod yX4_inState, Cond.selects RX4 yX4_inState yX4_inState, Cond.code yX4_inState cX4_inState 4 (some .int), Cond.methodLink RL 55 yX3_length, Cond.instanceMethod yX3_length, Cond.selects RX3 yX3_length yX3_length, Cond.code yX3_length cX3_length 2 (some .int), Cond.methodLink RX3 163 yX3_isView, Cond.static yX3_isView, Cond.code yX3_isView cX3_isView 1 (some .boolean), Cond.methodLink RL 58 yX4_length, Cond.instanceMethod yX4_length, Cond.selects RX4 yX4_length yX4_length, Cond.code yX4_length cX4_length 2 (some .int), Cond.methodLink RX4 153 yX4_isView, Cond.static yX4_isView, Cond.code yX4_isView cX4_isView 1 (some .boolean), Cond.methodLink RX4 156 yX4_lengthOf, Cond.instanceMethod yX4_lengthOf, Cond.selects RX4 yX4_lengthOf yX4_lengthOf, Cond.code yX4_lengthOf cX4_lengthOf 2 (some .int), Cond.methodLink RL 59 yX3_read, Cond.instanceMethod yX3_read, Cond.selects RX3 yX3_read yX3_read]
def wsL_law_r15 : List Cond := [Cond.code yX3_read cX3_read 5 (some .int), Cond.methodLink RX3 166 yX3_letterFact, Cond.instanceMethod yX3_letterFact, Cond.selects RX3 yX3_letterFact yX3_letterFact, Cond.code yX3_letterFact cX3_letterFact 4 (some .int), Cond.fieldLink RX3 169 "TrackedLetters$Line" "byOf" "[I", Cond.methodLink RX3 172 yX0_openOnes, Cond.instanceMethod yX0_openOnes, Cond.selects RX0 yX0_openOnes yX0_openOnes, Cond.code yX0_openOnes cX0_openOnes 5 (some .int), Cond.methodLink RL 62 yX4_read, Cond.instanceMethod yX4_read, Cond.selects RX4 yX4_read yX4_read, Cond.code yX4_read cX4_read 4 (some .int), Cond.methodLink RX4 165 yX4_readNow, Cond.instanceMethod yX4_readNow, Cond.selects RX4 yX4_readNow yX4_readNow, Cond.code yX4_readNow cX4_readNow 4 (some .int), Cond.methodLink RX4 159 yX4_ones, Cond.static yX4_ones, Cond.code yX4_ones cX4_ones 3 (some .int), Cond.methodLink RX4 162 yX4_movedBy, Cond.instanceMethod yX4_movedBy, Cond.selects RX4 yX4_movedBy yX4_movedBy]
def wsL_law_r16 : List Cond := [Cond.code yX4_movedBy cX4_movedBy 4 (some .int), Cond.methodLink RL 63 yX3_place, Cond.instanceMethod yX3_place, Cond.selects RX3 yX3_place yX3_place, Cond.code yX3_place cX3_place 3 (some .int), Cond.methodLink RX3 175 yX3_placeFact, Cond.instanceMethod yX3_placeFact, Cond.selects RX3 yX3_placeFact yX3_placeFact, Cond.code yX3_placeFact cX3_placeFact 3 (some .int), Cond.fieldLink RX3 178 "TrackedLetters$Line" "fromOf" "[I", Cond.methodLink RX3 181 yX3_markOf, Cond.instanceMethod yX3_markOf, Cond.selects RX3 yX3_markOf yX3_markOf, Cond.code yX3_markOf cX3_markOf 6 (some .int), Cond.methodLink RL 66 yX4_place, Cond.instanceMethod yX4_place, Cond.selects RX4 yX4_place yX4_place, Cond.code yX4_place cX4_place 3 (some .int), Cond.methodLink RX4 174 yX4_placeNow, Cond.instanceMethod yX4_placeNow, Cond.selects RX4 yX4_placeNow yX4_placeNow, Cond.code yX4_placeNow cX4_placeNow 3 (some .int), Cond.methodLink RX4 171 yX4_markOf, Cond.instanceMethod yX4_markOf]
def wsL_law_r17 : List Cond := [Cond.selects RX4 yX4_markOf yX4_markOf, Cond.code yX4_markOf cX4_markOf 4 (some .int), Cond.methodLink RX4 168 yX4_isAt, Cond.instanceMethod yX4_isAt, Cond.selects RX4 yX4_isAt yX4_isAt, Cond.code yX4_isAt cX4_isAt 4 (some .boolean), Cond.methodLink RL 67 yX3_change, Cond.instanceMethod yX3_change, Cond.selects RX3 yX3_change yX3_change, Cond.code yX3_change cX3_change 3 (some .int), Cond.methodLink RX3 184 yX3_changeFact, Cond.instanceMethod yX3_changeFact, Cond.selects RX3 yX3_changeFact yX3_changeFact, Cond.code yX3_changeFact cX3_changeFact 3 (some .int), Cond.fieldLink RX3 187 "TrackedLetters$Changes" "authorOf" "[I", Cond.methodLink RX3 157 yJ13_bitCount_95d88, Cond.static yJ13_bitCount_95d88, Cond.initialized RJ13, Cond.code yJ13_bitCount_95d88 cJ13_bitCount_95d88 2 (some .int), Cond.constantLong RJ13 314 (6148914691236517205), Cond.constantLong RJ13 316 (3689348814741910323), Cond.constantLong RJ13 318 (1085102592571150095), Cond.methodLink RX3 190 yX3_idleOf, Cond.instanceMethod yX3_idleOf]
def wsL_law_r18 : List Cond := [Cond.selects RX3 yX3_idleOf yX3_idleOf, Cond.code yX3_idleOf cX3_idleOf 12 (some .int), Cond.methodLink RX3 193 yX0_insertsUnder, Cond.instanceMethod yX0_insertsUnder, Cond.selects RX0 yX0_insertsUnder yX0_insertsUnder, Cond.code yX0_insertsUnder cX0_insertsUnder 4 (some .int), Cond.methodLink RX3 196 yX1_leadersUnder, Cond.instanceMethod yX1_leadersUnder, Cond.selects RX1 yX1_leadersUnder yX1_leadersUnder, Cond.code yX1_leadersUnder cX1_leadersUnder 4 (some .int), Cond.methodLink RL 70 yX4_change, Cond.instanceMethod yX4_change, Cond.selects RX4 yX4_change yX4_change, Cond.code yX4_change cX4_change 3 (some .int), Cond.methodLink RX4 190 yX4_changeNow, Cond.instanceMethod yX4_changeNow, Cond.selects RX4 yX4_changeNow yX4_changeNow, Cond.code yX4_changeNow cX4_changeNow 3 (some .int), Cond.methodLink RX4 183 yX4_touchedBy, Cond.instanceMethod yX4_touchedBy, Cond.selects RX4 yX4_touchedBy yX4_touchedBy, Cond.code yX4_touchedBy cX4_touchedBy 5 (some .int), Cond.methodLink RX4 177 yX4_isTouched, Cond.instanceMethod yX4_isTouched]
def wsL_law_r19 : List Cond := [Cond.selects RX4 yX4_isTouched yX4_isTouched, Cond.code yX4_isTouched cX4_isTouched 3 (some .boolean), Cond.methodLink RX4 180 yX4_isIdle, Cond.instanceMethod yX4_isIdle, Cond.selects RX4 yX4_isIdle yX4_isIdle, Cond.code yX4_isIdle cX4_isIdle 6 (some .boolean), Cond.methodLink RX4 187 yX4_leansOn, Cond.instanceMethod yX4_leansOn, Cond.selects RX4 yX4_leansOn yX4_leansOn, Cond.code yX4_leansOn cX4_leansOn 5 (some .int), Cond.methodLink RL 71 yX3_span, Cond.instanceMethod yX3_span, Cond.selects RX3 yX3_span yX3_span, Cond.code yX3_span cX3_span 3 (some .int), Cond.fieldLink RX3 202 "TrackedLetters$Spans" "size" "I", Cond.methodLink RX3 199 yX3_cutSpans, Cond.instanceMethod yX3_cutSpans, Cond.selects RX3 yX3_cutSpans yX3_cutSpans, Cond.code yX3_cutSpans cX3_cutSpans 3 none, Cond.methodLink RX3 206 yX2_take, Cond.instanceMethod yX2_take, Cond.selects RX2 yX2_take yX2_take, Cond.code yX2_take cX2_take 3 none, Cond.methodLink RX3 203 yX2_factOf]
def wsL_law_r20 : List Cond := [Cond.instanceMethod yX2_factOf, Cond.selects RX2 yX2_factOf yX2_factOf, Cond.code yX2_factOf cX2_factOf 3 (some .int), Cond.methodLink RL 74 yX4_span, Cond.instanceMethod yX4_span, Cond.selects RX4 yX4_span yX4_span, Cond.code yX4_span cX4_span 3 (some .int), Cond.fieldLink RX4 193 "TrackedLettersModel" "spans" "I", Cond.methodLink RX4 196 yX4_laySpans, Cond.instanceMethod yX4_laySpans, Cond.selects RX4 yX4_laySpans yX4_laySpans, Cond.code yX4_laySpans cX4_laySpans 4 none, Cond.methodLink RL 75 yX3_found, Cond.instanceMethod yX3_found, Cond.selects RX3 yX3_found yX3_found, Cond.code yX3_found cX3_found 2 (some .int), Cond.methodLink RX3 209 yX3_seekPage, Cond.instanceMethod yX3_seekPage, Cond.selects RX3 yX3_seekPage yX3_seekPage, Cond.code yX3_seekPage cX3_seekPage 4 none, Cond.methodLink RX3 212 yX3_readsAsPage, Cond.instanceMethod yX3_readsAsPage, Cond.selects RX3 yX3_readsAsPage yX3_readsAsPage, Cond.code yX3_readsAsPage cX3_readsAsPage 6 (some .boolean)]
def wsL_law_r21 : List Cond := [Cond.methodLink RX3 215 yJ6_bitCount_0f7a4, Cond.static yJ6_bitCount_0f7a4, Cond.initialized RJ6, Cond.code yJ6_bitCount_0f7a4 cJ6_bitCount_0f7a4 1 (some .int), Cond.constant RJ6 265 (1431655765), Cond.constant RJ6 266 (858993459), Cond.constant RJ6 267 (252645135), Cond.methodLink RL 78 yX4_found, Cond.instanceMethod yX4_found, Cond.selects RX4 yX4_found yX4_found, Cond.code yX4_found cX4_found 2 (some .int), Cond.fieldLink RX4 199 "TrackedLettersModel" "sets" "I", Cond.fieldLink RX4 202 "TrackedLettersModel" "best" "I", Cond.methodLink RX4 208 yX4_layFound, Cond.instanceMethod yX4_layFound, Cond.selects RX4 yX4_layFound yX4_layFound, Cond.code yX4_layFound cX4_layFound 4 none, Cond.methodLink RX4 205 yX4_readsAsPage, Cond.instanceMethod yX4_readsAsPage, Cond.selects RX4 yX4_readsAsPage yX4_readsAsPage, Cond.code yX4_readsAsPage cX4_readsAsPage 4 (some .boolean), Cond.methodLink RL 79 yX3_count, Cond.instanceMethod yX3_count, Cond.selects RX3 yX3_count yX3_count]
def wsL_law_r22 : List Cond := [Cond.code yX3_count cX3_count 2 (some .int), Cond.methodLink RX3 219 yX1_tornBy, Cond.instanceMethod yX1_tornBy, Cond.selects RX1 yX1_tornBy yX1_tornBy, Cond.code yX1_tornBy cX1_tornBy 5 (some .long), Cond.methodLink RX1 32 yJ6_bitCount_0f7a4, Cond.methodLink RX3 222 yX0_deletedTwice, Cond.instanceMethod yX0_deletedTwice, Cond.selects RX0 yX0_deletedTwice yX0_deletedTwice, Cond.code yX0_deletedTwice cX0_deletedTwice 6 (some .long), Cond.methodLink RL 82 yX4_count, Cond.instanceMethod yX4_count, Cond.selects RX4 yX4_count yX4_count, Cond.code yX4_count cX4_count 2 (some .int), Cond.methodLink RX4 221 yX4_howMany, Cond.instanceMethod yX4_howMany, Cond.selects RX4 yX4_howMany yX4_howMany, Cond.code yX4_howMany cX4_howMany 2 (some .int), Cond.methodLink RX4 217 yX4_tornMany, Cond.instanceMethod yX4_tornMany, Cond.selects RX4 yX4_tornMany yX4_tornMany, Cond.code yX4_tornMany cX4_tornMany 3 (some .int), Cond.methodLink RX4 214 yX4_isTorn, Cond.instanceMethod yX4_isTorn]
def wsL_law_r23 : List Cond := [Cond.selects RX4 yX4_isTorn yX4_isTorn, Cond.code yX4_isTorn cX4_isTorn 5 (some .boolean), Cond.methodLink RX4 211 yX4_openFrom, Cond.instanceMethod yX4_openFrom, Cond.selects RX4 yX4_openFrom yX4_openFrom, Cond.code yX4_openFrom cX4_openFrom 5 (some .int), Cond.methodLink RL 83 yX3_digest, Cond.instanceMethod yX3_digest, Cond.selects RX3 yX3_digest yX3_digest, Cond.code yX3_digest cX3_digest 4 (some .long), Cond.constantLong RX3 226 (1619), Cond.methodLink RX3 228 yX3_withView, Cond.instanceMethod yX3_withView, Cond.selects RX3 yX3_withView yX3_withView, Cond.code yX3_withView cX3_withView 9 (some .long), Cond.methodLink RX3 242 yX3_with, Cond.static yX3_with, Cond.code yX3_with cX3_with 3 (some .long), Cond.constantLong RX3 248 (31), Cond.methodLink RX3 232 yX3_withPlaces, Cond.instanceMethod yX3_withPlaces, Cond.selects RX3 yX3_withPlaces yX3_withPlaces, Cond.code yX3_withPlaces cX3_withPlaces 7 (some .long), Cond.methodLink RX3 236 yX3_withChanges]
def wsL_law_r24 : List Cond := [Cond.instanceMethod yX3_withChanges, Cond.selects RX3 yX3_withChanges yX3_withChanges, Cond.code yX3_withChanges cX3_withChanges 7 (some .long), Cond.methodLink RX3 239 yX3_withSpans, Cond.instanceMethod yX3_withSpans, Cond.selects RX3 yX3_withSpans yX3_withSpans, Cond.code yX3_withSpans cX3_withSpans 7 (some .long), Cond.methodLink RX3 245 yX3_count, Cond.methodLink RL 87 yX4_digest, Cond.instanceMethod yX4_digest, Cond.selects RX4 yX4_digest yX4_digest, Cond.code yX4_digest cX4_digest 2 (some .long), Cond.constantLong RX4 234 (1619), Cond.fieldLink RX4 226 "TrackedLettersModel" "h" "J", Cond.methodLink RX4 236 yX4_mixView, Cond.instanceMethod yX4_mixView, Cond.selects RX4 yX4_mixView yX4_mixView, Cond.code yX4_mixView cX4_mixView 4 none, Cond.methodLink RX4 230 yX4_mix, Cond.instanceMethod yX4_mix, Cond.selects RX4 yX4_mix yX4_mix, Cond.code yX4_mix cX4_mix 3 none, Cond.constantLong RX4 224 (31), Cond.methodLink RX4 239 yX4_mixSpans]
def wsL_law_r25 : List Cond := [Cond.instanceMethod yX4_mixSpans, Cond.selects RX4 yX4_mixSpans yX4_mixSpans, Cond.code yX4_mixSpans cX4_mixSpans 2 none]
def wsL_law : List Cond := (wsL_law_r1 ++ (wsL_law_r2 ++ (wsL_law_r3 ++ (wsL_law_r4 ++ (wsL_law_r5 ++ (wsL_law_r6 ++ (wsL_law_r7 ++ (wsL_law_r8 ++ (wsL_law_r9 ++ (wsL_law_r10 ++ (wsL_law_r11 ++ (wsL_law_r12 ++ (wsL_law_r13 ++ (wsL_law_r14 ++ (wsL_law_r15 ++ (wsL_law_r16 ++ (wsL_law_r17 ++ (wsL_law_r18 ++ (wsL_law_r19 ++ (wsL_law_r20 ++ (wsL_law_r21 ++ (wsL_law_r22 ++ (wsL_law_r23 ++ (wsL_law_r24 ++ wsL_law_r25)))))))))))))))))))))))) ++ wsX30 ++ wsX40 ++ wsX10 ++ wsX00 ++ wsX20 ++ ([] : List Cond)
theorem tk_inr {ws : List Cond} (ps : List Nat) (h : ws = ps.filterMap (fun i => lw_tbl[i]?)) : ∀ w ∈ ws, w ∈ lw_tbl := by
  intro w hw
  rw [h] at hw
  obtain ⟨i, -, hi⟩ := List.mem_filterMap.mp hw
  exact List.mem_of_getElem? hi
theorem nwi_wsL_law_r1 : ∀ w ∈ wsL_law_r1, w ∈ lw_tbl := tk_inr [63, 64, 56, 438, 439, 60, 65, 66, 67, 68, 69, 70, 97, 150, 151, 152, 153, 154, 71, 72, 57, 155, 98, 99] (by decide +kernel)
theorem nwi_wsL_law_r2 : ∀ w ∈ wsL_law_r2, w ∈ lw_tbl := tk_inr [58, 156, 130, 131, 59, 157, 158, 159, 160, 161, 162, 74, 75, 76, 77, 79, 81, 83, 84, 101, 102, 103, 104, 106] (by decide +kernel)
theorem nwi_wsL_law_r3 : ∀ w ∈ wsL_law_r3, w ∈ lw_tbl := tk_inr [108, 110, 129, 112, 114, 133, 134, 135, 136, 137, 138, 139, 440, 441, 442, 443, 445, 447, 448, 449, 450, 452, 453, 454] (by decide +kernel)
theorem nwi_wsL_law_r4 : ∀ w ∈ wsL_law_r4, w ∈ lw_tbl := tk_inr [541, 455, 457, 458, 459, 460, 461, 462, 466, 467, 468, 470, 471, 472, 190, 191, 192, 193, 542, 543, 544, 545, 444, 546] (by decide +kernel)
theorem nwi_wsL_law_r5 : ∀ w ∈ wsL_law_r5, w ∈ lw_tbl := tk_inr [547, 548, 194, 195, 196, 197, 549, 550, 551, 552, 198, 199, 200, 201, 202, 204, 0, 205, 85, 115, 206, 208, 1, 209] (by decide +kernel)
theorem nwi_wsL_law_r6 : ∀ w ∈ wsL_law_r6, w ∈ lw_tbl := tk_inr [210, 211, 212, 213, 214, 215, 216, 217, 218, 219, 220, 221, 553, 554, 555, 556, 446, 456, 451, 463, 557, 559, 21, 560] (by decide +kernel)
theorem nwi_wsL_law_r7 : ∀ w ∈ wsL_law_r7, w ∈ lw_tbl := tk_inr [561, 563, 22, 564, 565, 567, 23, 568, 222, 223, 224, 225, 226, 227, 228, 229, 231, 2, 232, 233, 234, 235, 236, 237] (by decide +kernel)
theorem nwi_wsL_law_r8 : ∀ w ∈ wsL_law_r8, w ∈ lw_tbl := tk_inr [238, 239, 240, 241, 243, 3, 244, 245, 247, 4, 248, 105, 113, 249, 250, 251, 252, 253, 255, 5, 256, 257, 258, 259] (by decide +kernel)
theorem nwi_wsL_law_r9 : ∀ w ∈ wsL_law_r9, w ∈ lw_tbl := tk_inr [260, 261, 263, 6, 264, 265, 267, 7, 268, 269, 270, 271, 272, 273, 274, 275, 276, 569, 570, 571, 572, 465, 573, 574] (by decide +kernel)
theorem nwi_wsL_law_r10 : ∀ w ∈ wsL_law_r10, w ∈ lw_tbl := tk_inr [575, 576, 578, 24, 579, 580, 582, 25, 583, 584, 586, 26, 587, 588, 589, 590, 591, 593, 27, 594, 595, 597, 28, 598] (by decide +kernel)
theorem nwi_wsL_law_r11 : ∀ w ∈ wsL_law_r11, w ∈ lw_tbl := tk_inr [599, 601, 29, 602, 603, 605, 30, 606, 607, 609, 31, 610, 277, 278, 279, 280, 78, 281, 282, 283, 611, 612, 613, 614] (by decide +kernel)
theorem nwi_wsL_law_r12 : ∀ w ∈ wsL_law_r12, w ∈ lw_tbl := tk_inr [284, 285, 286, 287, 288, 290, 8, 291, 615, 616, 617, 618, 292, 293, 294, 295, 111, 296, 297, 298, 299, 619, 620, 621] (by decide +kernel)
theorem nwi_wsL_law_r13 : ∀ w ∈ wsL_law_r13, w ∈ lw_tbl := tk_inr [622, 623, 625, 32, 626, 300, 301, 302, 303, 109, 627, 628, 629, 630, 304, 305, 306, 307, 631, 632, 633, 634, 464, 635] (by decide +kernel)
theorem nwi_wsL_law_r14 : ∀ w ∈ wsL_law_r14, w ∈ lw_tbl := tk_inr [637, 33, 638, 308, 309, 310, 311, 312, 313, 314, 639, 640, 641, 642, 643, 644, 645, 646, 648, 34, 649, 315, 316, 317] (by decide +kernel)
theorem nwi_wsL_law_r15 : ∀ w ∈ wsL_law_r15, w ∈ lw_tbl := tk_inr [318, 319, 321, 9, 322, 82, 323, 324, 325, 326, 650, 651, 652, 653, 654, 656, 35, 657, 658, 659, 660, 661, 663, 36] (by decide +kernel)
theorem nwi_wsL_law_r16 : ∀ w ∈ wsL_law_r16, w ∈ lw_tbl := tk_inr [664, 327, 328, 329, 330, 331, 333, 10, 334, 80, 335, 337, 11, 338, 665, 666, 667, 668, 669, 671, 37, 672, 673, 675] (by decide +kernel)
theorem nwi_wsL_law_r17 : ∀ w ∈ wsL_law_r17, w ∈ lw_tbl := tk_inr [38, 676, 677, 679, 39, 680, 339, 340, 341, 342, 343, 345, 12, 346, 107, 347, 348, 61, 349, 350, 351, 352, 353, 355] (by decide +kernel)
theorem nwi_wsL_law_r18 : ∀ w ∈ wsL_law_r18, w ∈ lw_tbl := tk_inr [13, 356, 357, 358, 359, 360, 361, 362, 363, 364, 681, 682, 683, 684, 685, 687, 40, 688, 689, 691, 41, 692, 693, 695] (by decide +kernel)
theorem nwi_wsL_law_r19 : ∀ w ∈ wsL_law_r19, w ∈ lw_tbl := tk_inr [42, 696, 697, 699, 43, 700, 701, 703, 44, 704, 365, 366, 367, 368, 140, 369, 371, 14, 372, 373, 374, 375, 376, 377] (by decide +kernel)
theorem nwi_wsL_law_r20 : ∀ w ∈ wsL_law_r20, w ∈ lw_tbl := tk_inr [378, 379, 380, 705, 706, 707, 708, 469, 709, 711, 45, 712, 381, 382, 383, 384, 385, 387, 15, 388, 389, 391, 16, 392] (by decide +kernel)
theorem nwi_wsL_law_r21 : ∀ w ∈ wsL_law_r21, w ∈ lw_tbl := tk_inr [393, 394, 62, 395, 396, 397, 398, 713, 714, 715, 716, 473, 474, 717, 719, 46, 720, 721, 723, 47, 724, 399, 400, 401] (by decide +kernel)
theorem nwi_wsL_law_r22 : ∀ w ∈ wsL_law_r22, w ∈ lw_tbl := tk_inr [402, 403, 404, 405, 406, 407, 408, 409, 410, 411, 725, 726, 727, 728, 729, 731, 48, 732, 733, 735, 49, 736, 737, 739] (by decide +kernel)
theorem nwi_wsL_law_r23 : ∀ w ∈ wsL_law_r23, w ∈ lw_tbl := tk_inr [50, 740, 741, 743, 51, 744, 412, 413, 414, 415, 416, 417, 419, 17, 420, 421, 422, 423, 424, 425, 427, 18, 428, 429] (by decide +kernel)
theorem nwi_wsL_law_r24 : ∀ w ∈ wsL_law_r24, w ∈ lw_tbl := tk_inr [431, 19, 432, 433, 435, 20, 436, 437, 745, 746, 747, 748, 749, 475, 750, 752, 52, 753, 754, 756, 53, 757, 758, 759] (by decide +kernel)
theorem nwi_wsL_law_r25 : ∀ w ∈ wsL_law_r25, w ∈ lw_tbl := tk_inr [761, 54, 762] (by decide +kernel)
theorem nwi_X3 : ∀ w ∈ wsX30, w ∈ lw_tbl := tk_inr [163, 165, 167, 169, 171, 173, 175, 177, 179, 181, 183, 185, 187] (by decide +kernel)
theorem nwi_X4 : ∀ w ∈ wsX40, w ∈ lw_tbl := tk_inr [476, 478, 480, 482, 484, 486, 488, 490, 492, 494, 496, 498, 500, 502, 504, 506, 508, 510, 512, 514, 516, 518, 520, 522, 524, 526, 528, 530, 532, 534, 536, 538] (by decide +kernel)
theorem nwi_X1 : ∀ w ∈ wsX10, w ∈ lw_tbl := tk_inr [86, 88, 90, 92, 94] (by decide +kernel)
theorem nwi_X0 : ∀ w ∈ wsX00, w ∈ lw_tbl := tk_inr [116, 118, 120, 122, 124, 126] (by decide +kernel)
theorem nwi_X2 : ∀ w ∈ wsX20, w ∈ lw_tbl := tk_inr [141, 143, 145, 147] (by decide +kernel)
theorem wsL_law_in : ∀ w ∈ wsL_law, w ∈ lw_tbl := by
  intro w h
  unfold wsL_law at h
  simp only [List.mem_append, List.append_nil, or_assoc] at h
  rcases h with h | h | h | h | h | h | h | h | h | h | h | h | h | h | h | h | h | h | h | h | h | h | h | h | h | h | h | h | h | h
  · exact nwi_wsL_law_r1 w h
  · exact nwi_wsL_law_r2 w h
  · exact nwi_wsL_law_r3 w h
  · exact nwi_wsL_law_r4 w h
  · exact nwi_wsL_law_r5 w h
  · exact nwi_wsL_law_r6 w h
  · exact nwi_wsL_law_r7 w h
  · exact nwi_wsL_law_r8 w h
  · exact nwi_wsL_law_r9 w h
  · exact nwi_wsL_law_r10 w h
  · exact nwi_wsL_law_r11 w h
  · exact nwi_wsL_law_r12 w h
  · exact nwi_wsL_law_r13 w h
  · exact nwi_wsL_law_r14 w h
  · exact nwi_wsL_law_r15 w h
  · exact nwi_wsL_law_r16 w h
  · exact nwi_wsL_law_r17 w h
  · exact nwi_wsL_law_r18 w h
  · exact nwi_wsL_law_r19 w h
  · exact nwi_wsL_law_r20 w h
  · exact nwi_wsL_law_r21 w h
  · exact nwi_wsL_law_r22 w h
  · exact nwi_wsL_law_r23 w h
  · exact nwi_wsL_law_r24 w h
  · exact nwi_wsL_law_r25 w h
  · exact nwi_X3 w h
  · exact nwi_X4 w h
  · exact nwi_X1 w h
  · exact nwi_X0 w h
  · exact nwi_X2 w h
theorem inlX0 : ∀ w ∈ wsX00, w ∈ wsL_law := fun _ h => List.mem_append_left _ (List.mem_append_left _ (List.mem_append_right _ h))
theorem inX0 : ∀ w ∈ wsX00, w ∈ lw_tbl := fun w h => wsL_law_in w (inlX0 w h)
theorem inlX1 : ∀ w ∈ wsX10, w ∈ wsL_law := fun _ h => List.mem_append_left _ (List.mem_append_left _ (List.mem_append_left _ (List.mem_append_right _ h)))
theorem inX1 : ∀ w ∈ wsX10, w ∈ lw_tbl := fun w h => wsL_law_in w (inlX1 w h)
theorem inlX2 : ∀ w ∈ wsX20, w ∈ wsL_law := fun _ h => List.mem_append_left _ (List.mem_append_right _ h)
theorem inX2 : ∀ w ∈ wsX20, w ∈ lw_tbl := fun w h => wsL_law_in w (inlX2 w h)
theorem inlX3 : ∀ w ∈ wsX30, w ∈ wsL_law := fun _ h => List.mem_append_left _ (List.mem_append_left _ (List.mem_append_left _ (List.mem_append_left _ (List.mem_append_left _ (List.mem_append_right _ h)))))
theorem inX3 : ∀ w ∈ wsX30, w ∈ lw_tbl := fun w h => wsL_law_in w (inlX3 w h)
theorem inlX4 : ∀ w ∈ wsX40, w ∈ wsL_law := fun _ h => List.mem_append_left _ (List.mem_append_left _ (List.mem_append_left _ (List.mem_append_left _ (List.mem_append_right _ h))))
theorem inX4 : ∀ w ∈ wsX40, w ∈ lw_tbl := fun w h => wsL_law_in w (inlX4 w h)
theorem inJ6 : ∀ w ∈ wsJ60, w ∈ lw_tbl := by decide +kernel
theorem inJ13 : ∀ w ∈ wsJ130, w ∈ lw_tbl := by decide +kernel
theorem mw_0 : Cond.classLink RL 7 RX3 ∈ wsL_law := List.mem_of_getElem? (i := 0) (by decide +kernel)
theorem mw_1 : Cond.instantiable RX3 13 ∈ wsL_law := List.mem_of_getElem? (i := 1) (by decide +kernel)
theorem mw_2 : Cond.initialized RX3 ∈ wsL_law := List.mem_of_getElem? (i := 2) (by decide +kernel)
theorem mw_3 : Cond.classLink RL 10 RX4 ∈ wsL_law := List.mem_of_getElem? (i := 3) (by decide +kernel)
theorem mw_4 : Cond.instantiable RX4 32 ∈ wsL_law := List.mem_of_getElem? (i := 4) (by decide +kernel)
theorem mw_5 : Cond.initialized RX4 ∈ wsL_law := List.mem_of_getElem? (i := 5) (by decide +kernel)
theorem mw_6 : Cond.methodLink RL 9 yX3_init ∈ wsL_law := List.mem_of_getElem? (i := 6) (by decide +kernel)
theorem mw_7 : Cond.instanceMethod yX3_init ∈ wsL_law := List.mem_of_getElem? (i := 7) (by decide +kernel)
theorem mw_8 : Cond.code yX3_init cX3_init 1 none ∈ wsL_law := List.mem_of_getElem? (i := 8) (by decide +kernel)
theorem mw_9 : Cond.methodLink RX3 1 objectInit ∈ wsL_law := List.mem_of_getElem? (i := 9) (by decide +kernel)
theorem mw_10 : Cond.instanceMethod objectInit ∈ wsL_law := List.mem_of_getElem? (i := 10) (by decide +kernel)
theorem mw_11 : Cond.code objectInit ⟨#[0xb1]⟩ 1 none ∈ wsL_law := List.mem_of_getElem? (i := 11) (by decide +kernel)
theorem mw_12 : Cond.arrayClass .int ∈ wsL_law := List.mem_of_getElem? (i := 12) (by decide +kernel)
theorem mw_13 : Cond.fieldLink RX3 9 "TrackedLetters" "page" "[I" ∈ wsL_law := List.mem_of_getElem? (i := 13) (by decide +kernel)
theorem mw_14 : Cond.fieldLink RX3 13 "TrackedLetters" "pageSize" "I" ∈ wsL_law := List.mem_of_getElem? (i := 14) (by decide +kernel)
theorem mw_15 : Cond.fieldLink RX3 17 "TrackedLetters" "codeOf" "[I" ∈ wsL_law := List.mem_of_getElem? (i := 15) (by decide +kernel)
theorem mw_16 : Cond.fieldLink RX3 20 "TrackedLetters" "letters" "I" ∈ wsL_law := List.mem_of_getElem? (i := 16) (by decide +kernel)
theorem mw_17 : Cond.fieldLink RX3 23 "TrackedLetters" "firstText" "J" ∈ wsL_law := List.mem_of_getElem? (i := 17) (by decide +kernel)
theorem mw_18 : Cond.classLink RX3 27 RX1 ∈ wsL_law := List.mem_of_getElem? (i := 18) (by decide +kernel)
theorem mw_19 : Cond.instantiable RX1 5 ∈ wsL_law := List.mem_of_getElem? (i := 19) (by decide +kernel)
theorem mw_20 : Cond.initialized RX1 ∈ wsL_law := List.mem_of_getElem? (i := 20) (by decide +kernel)
theorem mw_21 : Cond.fieldLink RX3 30 "TrackedLetters" "line" "LTrackedLetters$Line;" ∈ wsL_law := List.mem_of_getElem? (i := 21) (by decide +kernel)
theorem mw_22 : Cond.classLink RX3 34 RX0 ∈ wsL_law := List.mem_of_getElem? (i := 22) (by decide +kernel)
theorem mw_23 : Cond.instantiable RX0 6 ∈ wsL_law := List.mem_of_getElem? (i := 23) (by decide +kernel)
theorem mw_24 : Cond.initialized RX0 ∈ wsL_law := List.mem_of_getElem? (i := 24) (by decide +kernel)
theorem mw_25 : Cond.fieldLink RX3 37 "TrackedLetters" "changes" "LTrackedLetters$Changes;" ∈ wsL_law := List.mem_of_getElem? (i := 25) (by decide +kernel)
theorem mw_26 : Cond.classLink RX3 41 RX2 ∈ wsL_law := List.mem_of_getElem? (i := 26) (by decide +kernel)
theorem mw_27 : Cond.instantiable RX2 4 ∈ wsL_law := List.mem_of_getElem? (i := 27) (by decide +kernel)
theorem mw_28 : Cond.initialized RX2 ∈ wsL_law := List.mem_of_getElem? (i := 28) (by decide +kernel)
theorem mw_29 : Cond.fieldLink RX3 44 "TrackedLetters" "spans" "LTrackedLetters$Spans;" ∈ wsL_law := List.mem_of_getElem? (i := 29) (by decide +kernel)
theorem mw_30 : Cond.fieldLink RX3 48 "TrackedLetters" "row" "[I" ∈ wsL_law := List.mem_of_getElem? (i := 30) (by decide +kernel)
theorem mw_31 : Cond.fieldLink RX3 51 "TrackedLetters" "foundSets" "I" ∈ wsL_law := List.mem_of_getElem? (i := 31) (by decide +kernel)
theorem mw_32 : Cond.fieldLink RX3 54 "TrackedLetters" "foundLeast" "I" ∈ wsL_law := List.mem_of_getElem? (i := 32) (by decide +kernel)
theorem mw_33 : Cond.fieldLink RX3 57 "TrackedLetters" "begun" "I" ∈ wsL_law := List.mem_of_getElem? (i := 33) (by decide +kernel)
theorem mw_34 : Cond.fieldLink RX3 60 "TrackedLetters" "settled" "I" ∈ wsL_law := List.mem_of_getElem? (i := 34) (by decide +kernel)
theorem mw_35 : Cond.instanceMethod yX1_init ∈ wsL_law := List.mem_of_getElem? (i := 35) (by decide +kernel)
theorem mw_36 : Cond.code yX1_init cX1_init 1 none ∈ wsL_law := List.mem_of_getElem? (i := 36) (by decide +kernel)
theorem mw_37 : Cond.methodLink RX1 3 objectInit ∈ wsL_law := List.mem_of_getElem? (i := 37) (by decide +kernel)
theorem mw_38 : Cond.fieldLink RX1 9 "TrackedLetters$Line" "letterOf" "[I" ∈ wsL_law := List.mem_of_getElem? (i := 38) (by decide +kernel)
theorem mw_39 : Cond.fieldLink RX1 15 "TrackedLetters$Line" "fromOf" "[I" ∈ wsL_law := List.mem_of_getElem? (i := 39) (by decide +kernel)
theorem mw_40 : Cond.fieldLink RX1 18 "TrackedLetters$Line" "byOf" "[I" ∈ wsL_law := List.mem_of_getElem? (i := 40) (by decide +kernel)
theorem mw_41 : Cond.fieldLink RX1 21 "TrackedLetters$Line" "onwardOf" "[I" ∈ wsL_law := List.mem_of_getElem? (i := 41) (by decide +kernel)
theorem mw_42 : Cond.fieldLink RX1 24 "TrackedLetters$Line" "size" "I" ∈ wsL_law := List.mem_of_getElem? (i := 42) (by decide +kernel)
theorem mw_43 : Cond.instanceMethod yX0_init ∈ wsL_law := List.mem_of_getElem? (i := 43) (by decide +kernel)
theorem mw_44 : Cond.code yX0_init cX0_init 1 none ∈ wsL_law := List.mem_of_getElem? (i := 44) (by decide +kernel)
theorem mw_45 : Cond.methodLink RX0 3 objectInit ∈ wsL_law := List.mem_of_getElem? (i := 45) (by decide +kernel)
theorem mw_46 : Cond.fieldLink RX0 9 "TrackedLetters$Changes" "kindOf" "[I" ∈ wsL_law := List.mem_of_getElem? (i := 46) (by decide +kernel)
theorem mw_47 : Cond.fieldLink RX0 15 "TrackedLetters$Changes" "authorOf" "[I" ∈ wsL_law := List.mem_of_getElem? (i := 47) (by decide +kernel)
theorem mw_48 : Cond.fieldLink RX0 18 "TrackedLetters$Changes" "statusOf" "[I" ∈ wsL_law := List.mem_of_getElem? (i := 48) (by decide +kernel)
theorem mw_49 : Cond.fieldLink RX0 21 "TrackedLetters$Changes" "shownOf" "[I" ∈ wsL_law := List.mem_of_getElem? (i := 49) (by decide +kernel)
theorem mw_50 : Cond.arrayClass .long ∈ wsL_law := List.mem_of_getElem? (i := 50) (by decide +kernel)
theorem mw_51 : Cond.fieldLink RX0 24 "TrackedLetters$Changes" "touchedBy" "[J" ∈ wsL_law := List.mem_of_getElem? (i := 51) (by decide +kernel)
theorem mw_52 : Cond.fieldLink RX0 28 "TrackedLetters$Changes" "size" "I" ∈ wsL_law := List.mem_of_getElem? (i := 52) (by decide +kernel)
theorem mw_53 : Cond.instanceMethod yX2_init ∈ wsL_law := List.mem_of_getElem? (i := 53) (by decide +kernel)
theorem mw_54 : Cond.code yX2_init cX2_init 1 none ∈ wsL_law := List.mem_of_getElem? (i := 54) (by decide +kernel)
theorem mw_55 : Cond.methodLink RX2 3 objectInit ∈ wsL_law := List.mem_of_getElem? (i := 55) (by decide +kernel)
theorem mw_56 : Cond.fieldLink RX2 9 "TrackedLetters$Spans" "markOf" "[I" ∈ wsL_law := List.mem_of_getElem? (i := 56) (by decide +kernel)
theorem mw_57 : Cond.fieldLink RX2 15 "TrackedLetters$Spans" "placesOf" "[I" ∈ wsL_law := List.mem_of_getElem? (i := 57) (by decide +kernel)
theorem mw_58 : Cond.fieldLink RX2 18 "TrackedLetters$Spans" "startOf" "[I" ∈ wsL_law := List.mem_of_getElem? (i := 58) (by decide +kernel)
theorem mw_59 : Cond.fieldLink RX2 21 "TrackedLetters$Spans" "size" "I" ∈ wsL_law := List.mem_of_getElem? (i := 59) (by decide +kernel)
theorem mw_60 : Cond.methodLink RL 12 yX4_init ∈ wsL_law := List.mem_of_getElem? (i := 60) (by decide +kernel)
theorem mw_61 : Cond.instanceMethod yX4_init ∈ wsL_law := List.mem_of_getElem? (i := 61) (by decide +kernel)
theorem mw_62 : Cond.code yX4_init cX4_init 1 none ∈ wsL_law := List.mem_of_getElem? (i := 62) (by decide +kernel)
theorem mw_63 : Cond.methodLink RX4 1 objectInit ∈ wsL_law := List.mem_of_getElem? (i := 63) (by decide +kernel)
theorem mw_64 : Cond.fieldLink RX4 7 "TrackedLettersModel" "page" "[I" ∈ wsL_law := List.mem_of_getElem? (i := 64) (by decide +kernel)
theorem mw_65 : Cond.fieldLink RX4 13 "TrackedLettersModel" "sign" "[I" ∈ wsL_law := List.mem_of_getElem? (i := 65) (by decide +kernel)
theorem mw_66 : Cond.fieldLink RX4 16 "TrackedLettersModel" "insertOf" "[I" ∈ wsL_law := List.mem_of_getElem? (i := 66) (by decide +kernel)
theorem mw_67 : Cond.fieldLink RX4 19 "TrackedLettersModel" "homeOf" "[I" ∈ wsL_law := List.mem_of_getElem? (i := 67) (by decide +kernel)
theorem mw_68 : Cond.fieldLink RX4 22 "TrackedLettersModel" "deletedBy" "[I" ∈ wsL_law := List.mem_of_getElem? (i := 68) (by decide +kernel)
theorem mw_69 : Cond.fieldLink RX4 25 "TrackedLettersModel" "kindOf" "[I" ∈ wsL_law := List.mem_of_getElem? (i := 69) (by decide +kernel)
theorem mw_70 : Cond.fieldLink RX4 28 "TrackedLettersModel" "authorOf" "[I" ∈ wsL_law := List.mem_of_getElem? (i := 70) (by decide +kernel)
theorem mw_71 : Cond.fieldLink RX4 31 "TrackedLettersModel" "stateOf" "[I" ∈ wsL_law := List.mem_of_getElem? (i := 71) (by decide +kernel)
theorem mw_72 : Cond.arrayClass .boolean ∈ wsL_law := List.mem_of_getElem? (i := 72) (by decide +kernel)
theorem mw_73 : Cond.fieldLink RX4 34 "TrackedLettersModel" "isShown" "[Z" ∈ wsL_law := List.mem_of_getElem? (i := 73) (by decide +kernel)
theorem mw_74 : Cond.fieldLink RX4 38 "TrackedLettersModel" "letterOf" "[I" ∈ wsL_law := List.mem_of_getElem? (i := 74) (by decide +kernel)
theorem mw_75 : Cond.fieldLink RX4 41 "TrackedLettersModel" "fromOf" "[I" ∈ wsL_law := List.mem_of_getElem? (i := 75) (by decide +kernel)
theorem mw_76 : Cond.fieldLink RX4 44 "TrackedLettersModel" "byOf" "[I" ∈ wsL_law := List.mem_of_getElem? (i := 76) (by decide +kernel)
theorem mw_77 : Cond.fieldLink RX4 47 "TrackedLettersModel" "line" "[I" ∈ wsL_law := List.mem_of_getElem? (i := 77) (by decide +kernel)
theorem mw_78 : Cond.fieldLink RX4 50 "TrackedLettersModel" "firstOn" "[I" ∈ wsL_law := List.mem_of_getElem? (i := 78) (by decide +kernel)
theorem mw_79 : Cond.fieldLink RX4 53 "TrackedLettersModel" "nextOn" "[I" ∈ wsL_law := List.mem_of_getElem? (i := 79) (by decide +kernel)
theorem mw_80 : Cond.fieldLink RX4 56 "TrackedLettersModel" "readAt" "[I" ∈ wsL_law := List.mem_of_getElem? (i := 80) (by decide +kernel)
theorem mw_81 : Cond.fieldLink RX4 59 "TrackedLettersModel" "isStood" "[Z" ∈ wsL_law := List.mem_of_getElem? (i := 81) (by decide +kernel)
theorem mw_82 : Cond.fieldLink RX4 62 "TrackedLettersModel" "kept" "[I" ∈ wsL_law := List.mem_of_getElem? (i := 82) (by decide +kernel)
theorem mw_83 : Cond.fieldLink RX4 65 "TrackedLettersModel" "spanMark" "[I" ∈ wsL_law := List.mem_of_getElem? (i := 83) (by decide +kernel)
theorem mw_84 : Cond.fieldLink RX4 68 "TrackedLettersModel" "spanMany" "[I" ∈ wsL_law := List.mem_of_getElem? (i := 84) (by decide +kernel)
theorem mw_85 : Cond.fieldLink RX4 71 "TrackedLettersModel" "spanFirst" "[I" ∈ wsL_law := List.mem_of_getElem? (i := 85) (by decide +kernel)
theorem mw_86 : Cond.methodLink RL 13 yX3_letter ∈ wsL_law := List.mem_of_getElem? (i := 86) (by decide +kernel)
theorem mw_87 : Cond.instanceMethod yX3_letter ∈ wsL_law := List.mem_of_getElem? (i := 87) (by decide +kernel)
theorem mw_88 : Cond.selects RX3 yX3_letter yX3_letter ∈ wsL_law := List.mem_of_getElem? (i := 88) (by decide +kernel)
theorem mw_89 : Cond.code yX3_letter cX3_letter 2 (some .int) ∈ wsL_law := List.mem_of_getElem? (i := 89) (by decide +kernel)
theorem mw_90 : Cond.methodLink RL 17 yX4_letter ∈ wsL_law := List.mem_of_getElem? (i := 90) (by decide +kernel)
theorem mw_91 : Cond.instanceMethod yX4_letter ∈ wsL_law := List.mem_of_getElem? (i := 91) (by decide +kernel)
theorem mw_92 : Cond.selects RX4 yX4_letter yX4_letter ∈ wsL_law := List.mem_of_getElem? (i := 92) (by decide +kernel)
theorem mw_93 : Cond.code yX4_letter cX4_letter 2 (some .int) ∈ wsL_law := List.mem_of_getElem? (i := 93) (by decide +kernel)
theorem mw_94 : Cond.fieldLink RX4 78 "TrackedLettersModel" "pageLength" "I" ∈ wsL_law := List.mem_of_getElem? (i := 94) (by decide +kernel)
theorem mw_95 : Cond.methodLink RX4 74 yX4_within ∈ wsL_law := List.mem_of_getElem? (i := 95) (by decide +kernel)
theorem mw_96 : Cond.static yX4_within ∈ wsL_law := List.mem_of_getElem? (i := 96) (by decide +kernel)
theorem mw_97 : Cond.code yX4_within cX4_within 3 (some .boolean) ∈ wsL_law := List.mem_of_getElem? (i := 97) (by decide +kernel)
theorem mw_98 : Cond.methodLink RL 18 yX3_blank ∈ wsL_law := List.mem_of_getElem? (i := 98) (by decide +kernel)
theorem mw_99 : Cond.instanceMethod yX3_blank ∈ wsL_law := List.mem_of_getElem? (i := 99) (by decide +kernel)
theorem mw_100 : Cond.selects RX3 yX3_blank yX3_blank ∈ wsL_law := List.mem_of_getElem? (i := 100) (by decide +kernel)
theorem mw_101 : Cond.code yX3_blank cX3_blank 2 (some .int) ∈ wsL_law := List.mem_of_getElem? (i := 101) (by decide +kernel)
theorem mw_102 : Cond.methodLink RL 22 yX4_blank ∈ wsL_law := List.mem_of_getElem? (i := 102) (by decide +kernel)
theorem mw_103 : Cond.instanceMethod yX4_blank ∈ wsL_law := List.mem_of_getElem? (i := 103) (by decide +kernel)
theorem mw_104 : Cond.selects RX4 yX4_blank yX4_blank ∈ wsL_law := List.mem_of_getElem? (i := 104) (by decide +kernel)
theorem mw_105 : Cond.code yX4_blank cX4_blank 2 (some .int) ∈ wsL_law := List.mem_of_getElem? (i := 105) (by decide +kernel)
theorem mw_106 : Cond.methodLink RL 23 yX3_begin ∈ wsL_law := List.mem_of_getElem? (i := 106) (by decide +kernel)
theorem mw_107 : Cond.instanceMethod yX3_begin ∈ wsL_law := List.mem_of_getElem? (i := 107) (by decide +kernel)
theorem mw_108 : Cond.selects RX3 yX3_begin yX3_begin ∈ wsL_law := List.mem_of_getElem? (i := 108) (by decide +kernel)
theorem mw_109 : Cond.code yX3_begin cX3_begin 1 (some .int) ∈ wsL_law := List.mem_of_getElem? (i := 109) (by decide +kernel)
theorem mw_110 : Cond.methodLink RX3 63 yX3_startText ∈ wsL_law := List.mem_of_getElem? (i := 110) (by decide +kernel)
theorem mw_111 : Cond.instanceMethod yX3_startText ∈ wsL_law := List.mem_of_getElem? (i := 111) (by decide +kernel)
theorem mw_112 : Cond.selects RX3 yX3_startText yX3_startText ∈ wsL_law := List.mem_of_getElem? (i := 112) (by decide +kernel)
theorem mw_113 : Cond.code yX3_startText cX3_startText 4 none ∈ wsL_law := List.mem_of_getElem? (i := 113) (by decide +kernel)
theorem mw_114 : Cond.fieldLink RX3 67 "TrackedLetters$Line" "size" "I" ∈ wsL_law := List.mem_of_getElem? (i := 114) (by decide +kernel)
theorem mw_115 : Cond.fieldLink RX3 70 "TrackedLetters$Changes" "size" "I" ∈ wsL_law := List.mem_of_getElem? (i := 115) (by decide +kernel)
theorem mw_116 : Cond.methodLink RX3 71 yX3_addLetter ∈ wsL_law := List.mem_of_getElem? (i := 116) (by decide +kernel)
theorem mw_117 : Cond.instanceMethod yX3_addLetter ∈ wsL_law := List.mem_of_getElem? (i := 117) (by decide +kernel)
theorem mw_118 : Cond.selects RX3 yX3_addLetter yX3_addLetter ∈ wsL_law := List.mem_of_getElem? (i := 118) (by decide +kernel)
theorem mw_119 : Cond.code yX3_addLetter cX3_addLetter 4 none ∈ wsL_law := List.mem_of_getElem? (i := 119) (by decide +kernel)
theorem mw_120 : Cond.methodLink RX3 81 yX1_openGap ∈ wsL_law := List.mem_of_getElem? (i := 120) (by decide +kernel)
theorem mw_121 : Cond.instanceMethod yX1_openGap ∈ wsL_law := List.mem_of_getElem? (i := 121) (by decide +kernel)
theorem mw_122 : Cond.selects RX1 yX1_openGap yX1_openGap ∈ wsL_law := List.mem_of_getElem? (i := 122) (by decide +kernel)
theorem mw_123 : Cond.code yX1_openGap cX1_openGap 4 none ∈ wsL_law := List.mem_of_getElem? (i := 123) (by decide +kernel)
theorem mw_124 : Cond.methodLink RX3 85 yX1_put ∈ wsL_law := List.mem_of_getElem? (i := 124) (by decide +kernel)
theorem mw_125 : Cond.instanceMethod yX1_put ∈ wsL_law := List.mem_of_getElem? (i := 125) (by decide +kernel)
theorem mw_126 : Cond.selects RX1 yX1_put yX1_put ∈ wsL_law := List.mem_of_getElem? (i := 126) (by decide +kernel)
theorem mw_127 : Cond.code yX1_put cX1_put 5 none ∈ wsL_law := List.mem_of_getElem? (i := 127) (by decide +kernel)
theorem mw_128 : Cond.methodLink RX3 75 yX3_firstLetters ∈ wsL_law := List.mem_of_getElem? (i := 128) (by decide +kernel)
theorem mw_129 : Cond.static yX3_firstLetters ∈ wsL_law := List.mem_of_getElem? (i := 129) (by decide +kernel)
theorem mw_130 : Cond.code yX3_firstLetters cX3_firstLetters 1 (some .long) ∈ wsL_law := List.mem_of_getElem? (i := 130) (by decide +kernel)
theorem mw_131 : Cond.constantLong RX3 79 (-1) ∈ wsL_law := List.mem_of_getElem? (i := 131) (by decide +kernel)
theorem mw_132 : Cond.methodLink RL 26 yX4_begin ∈ wsL_law := List.mem_of_getElem? (i := 132) (by decide +kernel)
theorem mw_133 : Cond.instanceMethod yX4_begin ∈ wsL_law := List.mem_of_getElem? (i := 133) (by decide +kernel)
theorem mw_134 : Cond.selects RX4 yX4_begin yX4_begin ∈ wsL_law := List.mem_of_getElem? (i := 134) (by decide +kernel)
theorem mw_135 : Cond.code yX4_begin cX4_begin 2 (some .int) ∈ wsL_law := List.mem_of_getElem? (i := 135) (by decide +kernel)
theorem mw_136 : Cond.fieldLink RX4 82 "TrackedLettersModel" "letters" "I" ∈ wsL_law := List.mem_of_getElem? (i := 136) (by decide +kernel)
theorem mw_137 : Cond.fieldLink RX4 85 "TrackedLettersModel" "places" "I" ∈ wsL_law := List.mem_of_getElem? (i := 137) (by decide +kernel)
theorem mw_138 : Cond.fieldLink RX4 96 "TrackedLettersModel" "changes" "I" ∈ wsL_law := List.mem_of_getElem? (i := 138) (by decide +kernel)
theorem mw_139 : Cond.fieldLink RX4 103 "TrackedLettersModel" "begun" "I" ∈ wsL_law := List.mem_of_getElem? (i := 139) (by decide +kernel)
theorem mw_140 : Cond.methodLink RX4 99 yX4_comes ∈ wsL_law := List.mem_of_getElem? (i := 140) (by decide +kernel)
theorem mw_141 : Cond.instanceMethod yX4_comes ∈ wsL_law := List.mem_of_getElem? (i := 141) (by decide +kernel)
theorem mw_142 : Cond.selects RX4 yX4_comes yX4_comes ∈ wsL_law := List.mem_of_getElem? (i := 142) (by decide +kernel)
theorem mw_143 : Cond.code yX4_comes cX4_comes 4 none ∈ wsL_law := List.mem_of_getElem? (i := 143) (by decide +kernel)
theorem mw_144 : Cond.methodLink RX4 88 yX4_layPlace ∈ wsL_law := List.mem_of_getElem? (i := 144) (by decide +kernel)
theorem mw_145 : Cond.instanceMethod yX4_layPlace ∈ wsL_law := List.mem_of_getElem? (i := 145) (by decide +kernel)
theorem mw_146 : Cond.selects RX4 yX4_layPlace yX4_layPlace ∈ wsL_law := List.mem_of_getElem? (i := 146) (by decide +kernel)
theorem mw_147 : Cond.code yX4_layPlace cX4_layPlace 6 none ∈ wsL_law := List.mem_of_getElem? (i := 147) (by decide +kernel)
theorem mw_148 : Cond.methodLink RX4 92 yX4_layOn ∈ wsL_law := List.mem_of_getElem? (i := 148) (by decide +kernel)
theorem mw_149 : Cond.instanceMethod yX4_layOn ∈ wsL_law := List.mem_of_getElem? (i := 149) (by decide +kernel)
theorem mw_150 : Cond.selects RX4 yX4_layOn yX4_layOn ∈ wsL_law := List.mem_of_getElem? (i := 150) (by decide +kernel)
theorem mw_151 : Cond.code yX4_layOn cX4_layOn 4 none ∈ wsL_law := List.mem_of_getElem? (i := 151) (by decide +kernel)
theorem mw_152 : Cond.methodLink RL 27 yX3_insert ∈ wsL_law := List.mem_of_getElem? (i := 152) (by decide +kernel)
theorem mw_153 : Cond.instanceMethod yX3_insert ∈ wsL_law := List.mem_of_getElem? (i := 153) (by decide +kernel)
theorem mw_154 : Cond.selects RX3 yX3_insert yX3_insert ∈ wsL_law := List.mem_of_getElem? (i := 154) (by decide +kernel)
theorem mw_155 : Cond.code yX3_insert cX3_insert 4 (some .int) ∈ wsL_law := List.mem_of_getElem? (i := 155) (by decide +kernel)
theorem mw_156 : Cond.methodLink RX3 89 yX3_isAuthor ∈ wsL_law := List.mem_of_getElem? (i := 156) (by decide +kernel)
theorem mw_157 : Cond.static yX3_isAuthor ∈ wsL_law := List.mem_of_getElem? (i := 157) (by decide +kernel)
theorem mw_158 : Cond.code yX3_isAuthor cX3_isAuthor 1 (some .boolean) ∈ wsL_law := List.mem_of_getElem? (i := 158) (by decide +kernel)
theorem mw_159 : Cond.methodLink RX3 93 yX3_setOf ∈ wsL_law := List.mem_of_getElem? (i := 159) (by decide +kernel)
theorem mw_160 : Cond.instanceMethod yX3_setOf ∈ wsL_law := List.mem_of_getElem? (i := 160) (by decide +kernel)
theorem mw_161 : Cond.selects RX3 yX3_setOf yX3_setOf ∈ wsL_law := List.mem_of_getElem? (i := 161) (by decide +kernel)
theorem mw_162 : Cond.code yX3_setOf cX3_setOf 4 (some .int) ∈ wsL_law := List.mem_of_getElem? (i := 162) (by decide +kernel)
theorem mw_163 : Cond.methodLink RX3 137 yX0_inStatus ∈ wsL_law := List.mem_of_getElem? (i := 163) (by decide +kernel)
theorem mw_164 : Cond.instanceMethod yX0_inStatus ∈ wsL_law := List.mem_of_getElem? (i := 164) (by decide +kernel)
theorem mw_165 : Cond.selects RX0 yX0_inStatus yX0_inStatus ∈ wsL_law := List.mem_of_getElem? (i := 165) (by decide +kernel)
theorem mw_166 : Cond.code yX0_inStatus cX0_inStatus 4 (some .int) ∈ wsL_law := List.mem_of_getElem? (i := 166) (by decide +kernel)
theorem mw_167 : Cond.methodLink RX3 140 yX0_seenBy ∈ wsL_law := List.mem_of_getElem? (i := 167) (by decide +kernel)
theorem mw_168 : Cond.instanceMethod yX0_seenBy ∈ wsL_law := List.mem_of_getElem? (i := 168) (by decide +kernel)
theorem mw_169 : Cond.selects RX0 yX0_seenBy yX0_seenBy ∈ wsL_law := List.mem_of_getElem? (i := 169) (by decide +kernel)
theorem mw_170 : Cond.code yX0_seenBy cX0_seenBy 4 (some .int) ∈ wsL_law := List.mem_of_getElem? (i := 170) (by decide +kernel)
theorem mw_171 : Cond.methodLink RX3 97 yX3_lineUp ∈ wsL_law := List.mem_of_getElem? (i := 171) (by decide +kernel)
theorem mw_172 : Cond.instanceMethod yX3_lineUp ∈ wsL_law := List.mem_of_getElem? (i := 172) (by decide +kernel)
theorem mw_173 : Cond.selects RX3 yX3_lineUp yX3_lineUp ∈ wsL_law := List.mem_of_getElem? (i := 173) (by decide +kernel)
theorem mw_174 : Cond.code yX3_lineUp cX3_lineUp 6 (some .int) ∈ wsL_law := List.mem_of_getElem? (i := 174) (by decide +kernel)
theorem mw_175 : Cond.methodLink RX3 150 yX3_thereBy ∈ wsL_law := List.mem_of_getElem? (i := 175) (by decide +kernel)
theorem mw_176 : Cond.instanceMethod yX3_thereBy ∈ wsL_law := List.mem_of_getElem? (i := 176) (by decide +kernel)
theorem mw_177 : Cond.selects RX3 yX3_thereBy yX3_thereBy ∈ wsL_law := List.mem_of_getElem? (i := 177) (by decide +kernel)
theorem mw_178 : Cond.code yX3_thereBy cX3_thereBy 7 (some .long) ∈ wsL_law := List.mem_of_getElem? (i := 178) (by decide +kernel)
theorem mw_179 : Cond.fieldLink RX3 143 "TrackedLetters$Changes" "kindOf" "[I" ∈ wsL_law := List.mem_of_getElem? (i := 179) (by decide +kernel)
theorem mw_180 : Cond.fieldLink RX3 146 "TrackedLetters$Changes" "touchedBy" "[J" ∈ wsL_law := List.mem_of_getElem? (i := 180) (by decide +kernel)
theorem mw_181 : Cond.methodLink RX3 153 yX1_holds ∈ wsL_law := List.mem_of_getElem? (i := 181) (by decide +kernel)
theorem mw_182 : Cond.instanceMethod yX1_holds ∈ wsL_law := List.mem_of_getElem? (i := 182) (by decide +kernel)
theorem mw_183 : Cond.selects RX1 yX1_holds yX1_holds ∈ wsL_law := List.mem_of_getElem? (i := 183) (by decide +kernel)
theorem mw_184 : Cond.code yX1_holds cX1_holds 5 (some .boolean) ∈ wsL_law := List.mem_of_getElem? (i := 184) (by decide +kernel)
theorem mw_185 : Cond.methodLink RX1 28 yX1_leadsTo ∈ wsL_law := List.mem_of_getElem? (i := 185) (by decide +kernel)
theorem mw_186 : Cond.instanceMethod yX1_leadsTo ∈ wsL_law := List.mem_of_getElem? (i := 186) (by decide +kernel)
theorem mw_187 : Cond.selects RX1 yX1_leadsTo yX1_leadsTo ∈ wsL_law := List.mem_of_getElem? (i := 187) (by decide +kernel)
theorem mw_188 : Cond.code yX1_leadsTo cX1_leadsTo 6 (some .boolean) ∈ wsL_law := List.mem_of_getElem? (i := 188) (by decide +kernel)
theorem mw_189 : Cond.methodLink RX3 100 yX0_isFull ∈ wsL_law := List.mem_of_getElem? (i := 189) (by decide +kernel)
theorem mw_190 : Cond.instanceMethod yX0_isFull ∈ wsL_law := List.mem_of_getElem? (i := 190) (by decide +kernel)
theorem mw_191 : Cond.selects RX0 yX0_isFull yX0_isFull ∈ wsL_law := List.mem_of_getElem? (i := 191) (by decide +kernel)
theorem mw_192 : Cond.code yX0_isFull cX0_isFull 1 (some .boolean) ∈ wsL_law := List.mem_of_getElem? (i := 192) (by decide +kernel)
theorem mw_193 : Cond.methodLink RX3 104 yX3_placeAhead ∈ wsL_law := List.mem_of_getElem? (i := 193) (by decide +kernel)
theorem mw_194 : Cond.instanceMethod yX3_placeAhead ∈ wsL_law := List.mem_of_getElem? (i := 194) (by decide +kernel)
theorem mw_195 : Cond.selects RX3 yX3_placeAhead yX3_placeAhead ∈ wsL_law := List.mem_of_getElem? (i := 195) (by decide +kernel)
theorem mw_196 : Cond.code yX3_placeAhead cX3_placeAhead 3 (some .int) ∈ wsL_law := List.mem_of_getElem? (i := 196) (by decide +kernel)
theorem mw_197 : Cond.methodLink RX3 108 yX3_insertPage ∈ wsL_law := List.mem_of_getElem? (i := 197) (by decide +kernel)
theorem mw_198 : Cond.instanceMethod yX3_insertPage ∈ wsL_law := List.mem_of_getElem? (i := 198) (by decide +kernel)
theorem mw_199 : Cond.selects RX3 yX3_insertPage yX3_insertPage ∈ wsL_law := List.mem_of_getElem? (i := 199) (by decide +kernel)
theorem mw_200 : Cond.code yX3_insertPage cX3_insertPage 5 (some .int) ∈ wsL_law := List.mem_of_getElem? (i := 200) (by decide +kernel)
theorem mw_201 : Cond.methodLink RX3 111 yX0_add ∈ wsL_law := List.mem_of_getElem? (i := 201) (by decide +kernel)
theorem mw_202 : Cond.instanceMethod yX0_add ∈ wsL_law := List.mem_of_getElem? (i := 202) (by decide +kernel)
theorem mw_203 : Cond.selects RX0 yX0_add yX0_add ∈ wsL_law := List.mem_of_getElem? (i := 203) (by decide +kernel)
theorem mw_204 : Cond.code yX0_add cX0_add 4 (some .int) ∈ wsL_law := List.mem_of_getElem? (i := 204) (by decide +kernel)
theorem mw_205 : Cond.methodLink RX3 114 yX0_touch ∈ wsL_law := List.mem_of_getElem? (i := 205) (by decide +kernel)
theorem mw_206 : Cond.instanceMethod yX0_touch ∈ wsL_law := List.mem_of_getElem? (i := 206) (by decide +kernel)
theorem mw_207 : Cond.selects RX0 yX0_touch yX0_touch ∈ wsL_law := List.mem_of_getElem? (i := 207) (by decide +kernel)
theorem mw_208 : Cond.code yX0_touch cX0_touch 3 none ∈ wsL_law := List.mem_of_getElem? (i := 208) (by decide +kernel)
theorem mw_209 : Cond.methodLink RL 31 yX4_insert ∈ wsL_law := List.mem_of_getElem? (i := 209) (by decide +kernel)
theorem mw_210 : Cond.instanceMethod yX4_insert ∈ wsL_law := List.mem_of_getElem? (i := 210) (by decide +kernel)
theorem mw_211 : Cond.selects RX4 yX4_insert yX4_insert ∈ wsL_law := List.mem_of_getElem? (i := 211) (by decide +kernel)
theorem mw_212 : Cond.code yX4_insert cX4_insert 6 (some .int) ∈ wsL_law := List.mem_of_getElem? (i := 212) (by decide +kernel)
theorem mw_213 : Cond.fieldLink RX4 120 "TrackedLettersModel" "reads" "I" ∈ wsL_law := List.mem_of_getElem? (i := 213) (by decide +kernel)
theorem mw_214 : Cond.methodLink RX4 127 yX4_isAuthor ∈ wsL_law := List.mem_of_getElem? (i := 214) (by decide +kernel)
theorem mw_215 : Cond.static yX4_isAuthor ∈ wsL_law := List.mem_of_getElem? (i := 215) (by decide +kernel)
theorem mw_216 : Cond.code yX4_isAuthor cX4_isAuthor 1 (some .boolean) ∈ wsL_law := List.mem_of_getElem? (i := 216) (by decide +kernel)
theorem mw_217 : Cond.methodLink RX4 131 yX4_setOf ∈ wsL_law := List.mem_of_getElem? (i := 217) (by decide +kernel)
theorem mw_218 : Cond.instanceMethod yX4_setOf ∈ wsL_law := List.mem_of_getElem? (i := 218) (by decide +kernel)
theorem mw_219 : Cond.selects RX4 yX4_setOf yX4_setOf ∈ wsL_law := List.mem_of_getElem? (i := 219) (by decide +kernel)
theorem mw_220 : Cond.code yX4_setOf cX4_setOf 5 (some .int) ∈ wsL_law := List.mem_of_getElem? (i := 220) (by decide +kernel)
theorem mw_221 : Cond.methodLink RX4 134 yX4_layRead ∈ wsL_law := List.mem_of_getElem? (i := 221) (by decide +kernel)
theorem mw_222 : Cond.instanceMethod yX4_layRead ∈ wsL_law := List.mem_of_getElem? (i := 222) (by decide +kernel)
theorem mw_223 : Cond.selects RX4 yX4_layRead yX4_layRead ∈ wsL_law := List.mem_of_getElem? (i := 223) (by decide +kernel)
theorem mw_224 : Cond.code yX4_layRead cX4_layRead 3 none ∈ wsL_law := List.mem_of_getElem? (i := 224) (by decide +kernel)
theorem mw_225 : Cond.methodLink RX4 114 yX4_isThere ∈ wsL_law := List.mem_of_getElem? (i := 225) (by decide +kernel)
theorem mw_226 : Cond.instanceMethod yX4_isThere ∈ wsL_law := List.mem_of_getElem? (i := 226) (by decide +kernel)
theorem mw_227 : Cond.selects RX4 yX4_isThere yX4_isThere ∈ wsL_law := List.mem_of_getElem? (i := 227) (by decide +kernel)
theorem mw_228 : Cond.code yX4_isThere cX4_isThere 4 (some .boolean) ∈ wsL_law := List.mem_of_getElem? (i := 228) (by decide +kernel)
theorem mw_229 : Cond.methodLink RX4 106 yX4_has ∈ wsL_law := List.mem_of_getElem? (i := 229) (by decide +kernel)
theorem mw_230 : Cond.static yX4_has ∈ wsL_law := List.mem_of_getElem? (i := 230) (by decide +kernel)
theorem mw_231 : Cond.code yX4_has cX4_has 2 (some .boolean) ∈ wsL_law := List.mem_of_getElem? (i := 231) (by decide +kernel)
theorem mw_232 : Cond.methodLink RX4 117 yX4_standsAt ∈ wsL_law := List.mem_of_getElem? (i := 232) (by decide +kernel)
theorem mw_233 : Cond.instanceMethod yX4_standsAt ∈ wsL_law := List.mem_of_getElem? (i := 233) (by decide +kernel)
theorem mw_234 : Cond.selects RX4 yX4_standsAt yX4_standsAt ∈ wsL_law := List.mem_of_getElem? (i := 234) (by decide +kernel)
theorem mw_235 : Cond.code yX4_standsAt cX4_standsAt 5 (some .int) ∈ wsL_law := List.mem_of_getElem? (i := 235) (by decide +kernel)
theorem mw_236 : Cond.methodLink RX4 110 yX4_leadsOn ∈ wsL_law := List.mem_of_getElem? (i := 236) (by decide +kernel)
theorem mw_237 : Cond.instanceMethod yX4_leadsOn ∈ wsL_law := List.mem_of_getElem? (i := 237) (by decide +kernel)
theorem mw_238 : Cond.selects RX4 yX4_leadsOn yX4_leadsOn ∈ wsL_law := List.mem_of_getElem? (i := 238) (by decide +kernel)
theorem mw_239 : Cond.code yX4_leadsOn cX4_leadsOn 4 (some .int) ∈ wsL_law := List.mem_of_getElem? (i := 239) (by decide +kernel)
theorem mw_240 : Cond.methodLink RX4 138 yX4_ahead ∈ wsL_law := List.mem_of_getElem? (i := 240) (by decide +kernel)
theorem mw_241 : Cond.instanceMethod yX4_ahead ∈ wsL_law := List.mem_of_getElem? (i := 241) (by decide +kernel)
theorem mw_242 : Cond.selects RX4 yX4_ahead yX4_ahead ∈ wsL_law := List.mem_of_getElem? (i := 242) (by decide +kernel)
theorem mw_243 : Cond.code yX4_ahead cX4_ahead 2 (some .int) ∈ wsL_law := List.mem_of_getElem? (i := 243) (by decide +kernel)
theorem mw_244 : Cond.methodLink RX4 123 yX4_inLine ∈ wsL_law := List.mem_of_getElem? (i := 244) (by decide +kernel)
theorem mw_245 : Cond.instanceMethod yX4_inLine ∈ wsL_law := List.mem_of_getElem? (i := 245) (by decide +kernel)
theorem mw_246 : Cond.selects RX4 yX4_inLine yX4_inLine ∈ wsL_law := List.mem_of_getElem? (i := 246) (by decide +kernel)
theorem mw_247 : Cond.code yX4_inLine cX4_inLine 3 (some .int) ∈ wsL_law := List.mem_of_getElem? (i := 247) (by decide +kernel)
theorem mw_248 : Cond.methodLink RX4 141 yX4_layChange ∈ wsL_law := List.mem_of_getElem? (i := 248) (by decide +kernel)
theorem mw_249 : Cond.instanceMethod yX4_layChange ∈ wsL_law := List.mem_of_getElem? (i := 249) (by decide +kernel)
theorem mw_250 : Cond.selects RX4 yX4_layChange yX4_layChange ∈ wsL_law := List.mem_of_getElem? (i := 250) (by decide +kernel)
theorem mw_251 : Cond.code yX4_layChange cX4_layChange 3 (some .int) ∈ wsL_law := List.mem_of_getElem? (i := 251) (by decide +kernel)
theorem mw_252 : Cond.methodLink RL 32 yX3_remove ∈ wsL_law := List.mem_of_getElem? (i := 252) (by decide +kernel)
theorem mw_253 : Cond.instanceMethod yX3_remove ∈ wsL_law := List.mem_of_getElem? (i := 253) (by decide +kernel)
theorem mw_254 : Cond.selects RX3 yX3_remove yX3_remove ∈ wsL_law := List.mem_of_getElem? (i := 254) (by decide +kernel)
theorem mw_255 : Cond.code yX3_remove cX3_remove 8 (some .int) ∈ wsL_law := List.mem_of_getElem? (i := 255) (by decide +kernel)
theorem mw_256 : Cond.fieldLink RX3 121 "TrackedLetters$Line" "letterOf" "[I" ∈ wsL_law := List.mem_of_getElem? (i := 256) (by decide +kernel)
theorem mw_257 : Cond.methodLink RX3 117 yX3_refusalOfRange ∈ wsL_law := List.mem_of_getElem? (i := 257) (by decide +kernel)
theorem mw_258 : Cond.static yX3_refusalOfRange ∈ wsL_law := List.mem_of_getElem? (i := 258) (by decide +kernel)
theorem mw_259 : Cond.code yX3_refusalOfRange cX3_refusalOfRange 3 (some .int) ∈ wsL_law := List.mem_of_getElem? (i := 259) (by decide +kernel)
theorem mw_260 : Cond.methodLink RL 36 yX4_remove ∈ wsL_law := List.mem_of_getElem? (i := 260) (by decide +kernel)
theorem mw_261 : Cond.instanceMethod yX4_remove ∈ wsL_law := List.mem_of_getElem? (i := 261) (by decide +kernel)
theorem mw_262 : Cond.selects RX4 yX4_remove yX4_remove ∈ wsL_law := List.mem_of_getElem? (i := 262) (by decide +kernel)
theorem mw_263 : Cond.code yX4_remove cX4_remove 6 (some .int) ∈ wsL_law := List.mem_of_getElem? (i := 263) (by decide +kernel)
theorem mw_264 : Cond.methodLink RL 37 yX3_move ∈ wsL_law := List.mem_of_getElem? (i := 264) (by decide +kernel)
theorem mw_265 : Cond.instanceMethod yX3_move ∈ wsL_law := List.mem_of_getElem? (i := 265) (by decide +kernel)
theorem mw_266 : Cond.selects RX3 yX3_move yX3_move ∈ wsL_law := List.mem_of_getElem? (i := 266) (by decide +kernel)
theorem mw_267 : Cond.code yX3_move cX3_move 7 (some .int) ∈ wsL_law := List.mem_of_getElem? (i := 267) (by decide +kernel)
theorem mw_268 : Cond.methodLink RX3 124 yX3_moveLetters ∈ wsL_law := List.mem_of_getElem? (i := 268) (by decide +kernel)
theorem mw_269 : Cond.instanceMethod yX3_moveLetters ∈ wsL_law := List.mem_of_getElem? (i := 269) (by decide +kernel)
theorem mw_270 : Cond.selects RX3 yX3_moveLetters yX3_moveLetters ∈ wsL_law := List.mem_of_getElem? (i := 270) (by decide +kernel)
theorem mw_271 : Cond.code yX3_moveLetters cX3_moveLetters 8 (some .int) ∈ wsL_law := List.mem_of_getElem? (i := 271) (by decide +kernel)
theorem mw_272 : Cond.methodLink RL 41 yX4_move ∈ wsL_law := List.mem_of_getElem? (i := 272) (by decide +kernel)
theorem mw_273 : Cond.instanceMethod yX4_move ∈ wsL_law := List.mem_of_getElem? (i := 273) (by decide +kernel)
theorem mw_274 : Cond.selects RX4 yX4_move yX4_move ∈ wsL_law := List.mem_of_getElem? (i := 274) (by decide +kernel)
theorem mw_275 : Cond.code yX4_move cX4_move 8 (some .int) ∈ wsL_law := List.mem_of_getElem? (i := 275) (by decide +kernel)
theorem mw_276 : Cond.methodLink RL 42 yX3_show ∈ wsL_law := List.mem_of_getElem? (i := 276) (by decide +kernel)
theorem mw_277 : Cond.instanceMethod yX3_show ∈ wsL_law := List.mem_of_getElem? (i := 277) (by decide +kernel)
theorem mw_278 : Cond.selects RX3 yX3_show yX3_show ∈ wsL_law := List.mem_of_getElem? (i := 278) (by decide +kernel)
theorem mw_279 : Cond.code yX3_show cX3_show 4 (some .int) ∈ wsL_law := List.mem_of_getElem? (i := 279) (by decide +kernel)
theorem mw_280 : Cond.fieldLink RX3 131 "TrackedLetters$Changes" "shownOf" "[I" ∈ wsL_law := List.mem_of_getElem? (i := 280) (by decide +kernel)
theorem mw_281 : Cond.methodLink RX3 128 yX0_names ∈ wsL_law := List.mem_of_getElem? (i := 281) (by decide +kernel)
theorem mw_282 : Cond.instanceMethod yX0_names ∈ wsL_law := List.mem_of_getElem? (i := 282) (by decide +kernel)
theorem mw_283 : Cond.selects RX0 yX0_names yX0_names ∈ wsL_law := List.mem_of_getElem? (i := 283) (by decide +kernel)
theorem mw_284 : Cond.code yX0_names cX0_names 2 (some .boolean) ∈ wsL_law := List.mem_of_getElem? (i := 284) (by decide +kernel)
theorem mw_285 : Cond.methodLink RL 46 yX4_show ∈ wsL_law := List.mem_of_getElem? (i := 285) (by decide +kernel)
theorem mw_286 : Cond.instanceMethod yX4_show ∈ wsL_law := List.mem_of_getElem? (i := 286) (by decide +kernel)
theorem mw_287 : Cond.selects RX4 yX4_show yX4_show ∈ wsL_law := List.mem_of_getElem? (i := 287) (by decide +kernel)
theorem mw_288 : Cond.code yX4_show cX4_show 4 (some .int) ∈ wsL_law := List.mem_of_getElem? (i := 288) (by decide +kernel)
theorem mw_289 : Cond.methodLink RX4 144 yX4_isChange ∈ wsL_law := List.mem_of_getElem? (i := 289) (by decide +kernel)
theorem mw_290 : Cond.instanceMethod yX4_isChange ∈ wsL_law := List.mem_of_getElem? (i := 290) (by decide +kernel)
theorem mw_291 : Cond.selects RX4 yX4_isChange yX4_isChange ∈ wsL_law := List.mem_of_getElem? (i := 291) (by decide +kernel)
theorem mw_292 : Cond.code yX4_isChange cX4_isChange 2 (some .boolean) ∈ wsL_law := List.mem_of_getElem? (i := 292) (by decide +kernel)
theorem mw_293 : Cond.methodLink RL 47 yX3_decide ∈ wsL_law := List.mem_of_getElem? (i := 293) (by decide +kernel)
theorem mw_294 : Cond.instanceMethod yX3_decide ∈ wsL_law := List.mem_of_getElem? (i := 294) (by decide +kernel)
theorem mw_295 : Cond.selects RX3 yX3_decide yX3_decide ∈ wsL_law := List.mem_of_getElem? (i := 295) (by decide +kernel)
theorem mw_296 : Cond.code yX3_decide cX3_decide 4 (some .int) ∈ wsL_law := List.mem_of_getElem? (i := 296) (by decide +kernel)
theorem mw_297 : Cond.fieldLink RX3 134 "TrackedLetters$Changes" "statusOf" "[I" ∈ wsL_law := List.mem_of_getElem? (i := 297) (by decide +kernel)
theorem mw_298 : Cond.methodLink RL 50 yX4_decide ∈ wsL_law := List.mem_of_getElem? (i := 298) (by decide +kernel)
theorem mw_299 : Cond.instanceMethod yX4_decide ∈ wsL_law := List.mem_of_getElem? (i := 299) (by decide +kernel)
theorem mw_300 : Cond.selects RX4 yX4_decide yX4_decide ∈ wsL_law := List.mem_of_getElem? (i := 300) (by decide +kernel)
theorem mw_301 : Cond.code yX4_decide cX4_decide 4 (some .int) ∈ wsL_law := List.mem_of_getElem? (i := 301) (by decide +kernel)
theorem mw_302 : Cond.methodLink RL 51 yX3_settle ∈ wsL_law := List.mem_of_getElem? (i := 302) (by decide +kernel)
theorem mw_303 : Cond.instanceMethod yX3_settle ∈ wsL_law := List.mem_of_getElem? (i := 303) (by decide +kernel)
theorem mw_304 : Cond.selects RX3 yX3_settle yX3_settle ∈ wsL_law := List.mem_of_getElem? (i := 304) (by decide +kernel)
theorem mw_305 : Cond.code yX3_settle cX3_settle 3 (some .int) ∈ wsL_law := List.mem_of_getElem? (i := 305) (by decide +kernel)
theorem mw_306 : Cond.methodLink RL 54 yX4_settle ∈ wsL_law := List.mem_of_getElem? (i := 306) (by decide +kernel)
theorem mw_307 : Cond.instanceMethod yX4_settle ∈ wsL_law := List.mem_of_getElem? (i := 307) (by decide +kernel)
theorem mw_308 : Cond.selects RX4 yX4_settle yX4_settle ∈ wsL_law := List.mem_of_getElem? (i := 308) (by decide +kernel)
theorem mw_309 : Cond.code yX4_settle cX4_settle 2 (some .int) ∈ wsL_law := List.mem_of_getElem? (i := 309) (by decide +kernel)
theorem mw_310 : Cond.fieldLink RX4 150 "TrackedLettersModel" "settled" "I" ∈ wsL_law := List.mem_of_getElem? (i := 310) (by decide +kernel)
theorem mw_311 : Cond.methodLink RX4 147 yX4_inState ∈ wsL_law := List.mem_of_getElem? (i := 311) (by decide +kernel)
theorem mw_312 : Cond.instanceMethod yX4_inState ∈ wsL_law := List.mem_of_getElem? (i := 312) (by decide +kernel)
theorem mw_313 : Cond.selects RX4 yX4_inState yX4_inState ∈ wsL_law := List.mem_of_getElem? (i := 313) (by decide +kernel)
theorem mw_314 : Cond.code yX4_inState cX4_inState 4 (some .int) ∈ wsL_law := List.mem_of_getElem? (i := 314) (by decide +kernel)
theorem mw_315 : Cond.methodLink RL 55 yX3_length ∈ wsL_law := List.mem_of_getElem? (i := 315) (by decide +kernel)
theorem mw_316 : Cond.instanceMethod yX3_length ∈ wsL_law := List.mem_of_getElem? (i := 316) (by decide +kernel)
theorem mw_317 : Cond.selects RX3 yX3_length yX3_length ∈ wsL_law := List.mem_of_getElem? (i := 317) (by decide +kernel)
theorem mw_318 : Cond.code yX3_length cX3_length 2 (some .int) ∈ wsL_law := List.mem_of_getElem? (i := 318) (by decide +kernel)
theorem mw_319 : Cond.methodLink RX3 163 yX3_isView ∈ wsL_law := List.mem_of_getElem? (i := 319) (by decide +kernel)
theorem mw_320 : Cond.static yX3_isView ∈ wsL_law := List.mem_of_getElem? (i := 320) (by decide +kernel)
theorem mw_321 : Cond.code yX3_isView cX3_isView 1 (some .boolean) ∈ wsL_law := List.mem_of_getElem? (i := 321) (by decide +kernel)
theorem mw_322 : Cond.methodLink RL 58 yX4_length ∈ wsL_law := List.mem_of_getElem? (i := 322) (by decide +kernel)
theorem mw_323 : Cond.instanceMethod yX4_length ∈ wsL_law := List.mem_of_getElem? (i := 323) (by decide +kernel)
theorem mw_324 : Cond.selects RX4 yX4_length yX4_length ∈ wsL_law := List.mem_of_getElem? (i := 324) (by decide +kernel)
theorem mw_325 : Cond.code yX4_length cX4_length 2 (some .int) ∈ wsL_law := List.mem_of_getElem? (i := 325) (by decide +kernel)
theorem mw_326 : Cond.methodLink RX4 153 yX4_isView ∈ wsL_law := List.mem_of_getElem? (i := 326) (by decide +kernel)
theorem mw_327 : Cond.static yX4_isView ∈ wsL_law := List.mem_of_getElem? (i := 327) (by decide +kernel)
theorem mw_328 : Cond.code yX4_isView cX4_isView 1 (some .boolean) ∈ wsL_law := List.mem_of_getElem? (i := 328) (by decide +kernel)
theorem mw_329 : Cond.methodLink RX4 156 yX4_lengthOf ∈ wsL_law := List.mem_of_getElem? (i := 329) (by decide +kernel)
theorem mw_330 : Cond.instanceMethod yX4_lengthOf ∈ wsL_law := List.mem_of_getElem? (i := 330) (by decide +kernel)
theorem mw_331 : Cond.selects RX4 yX4_lengthOf yX4_lengthOf ∈ wsL_law := List.mem_of_getElem? (i := 331) (by decide +kernel)
theorem mw_332 : Cond.code yX4_lengthOf cX4_lengthOf 2 (some .int) ∈ wsL_law := List.mem_of_getElem? (i := 332) (by decide +kernel)
theorem mw_333 : Cond.methodLink RL 59 yX3_read ∈ wsL_law := List.mem_of_getElem? (i := 333) (by decide +kernel)
theorem mw_334 : Cond.instanceMethod yX3_read ∈ wsL_law := List.mem_of_getElem? (i := 334) (by decide +kernel)
theorem mw_335 : Cond.selects RX3 yX3_read yX3_read ∈ wsL_law := List.mem_of_getElem? (i := 335) (by decide +kernel)
theorem mw_336 : Cond.code yX3_read cX3_read 5 (some .int) ∈ wsL_law := List.mem_of_getElem? (i := 336) (by decide +kernel)
theorem mw_337 : Cond.methodLink RX3 166 yX3_letterFact ∈ wsL_law := List.mem_of_getElem? (i := 337) (by decide +kernel)
theorem mw_338 : Cond.instanceMethod yX3_letterFact ∈ wsL_law := List.mem_of_getElem? (i := 338) (by decide +kernel)
theorem mw_339 : Cond.selects RX3 yX3_letterFact yX3_letterFact ∈ wsL_law := List.mem_of_getElem? (i := 339) (by decide +kernel)
theorem mw_340 : Cond.code yX3_letterFact cX3_letterFact 4 (some .int) ∈ wsL_law := List.mem_of_getElem? (i := 340) (by decide +kernel)
theorem mw_341 : Cond.fieldLink RX3 169 "TrackedLetters$Line" "byOf" "[I" ∈ wsL_law := List.mem_of_getElem? (i := 341) (by decide +kernel)
theorem mw_342 : Cond.methodLink RX3 172 yX0_openOnes ∈ wsL_law := List.mem_of_getElem? (i := 342) (by decide +kernel)
theorem mw_343 : Cond.instanceMethod yX0_openOnes ∈ wsL_law := List.mem_of_getElem? (i := 343) (by decide +kernel)
theorem mw_344 : Cond.selects RX0 yX0_openOnes yX0_openOnes ∈ wsL_law := List.mem_of_getElem? (i := 344) (by decide +kernel)
theorem mw_345 : Cond.code yX0_openOnes cX0_openOnes 5 (some .int) ∈ wsL_law := List.mem_of_getElem? (i := 345) (by decide +kernel)
theorem mw_346 : Cond.methodLink RL 62 yX4_read ∈ wsL_law := List.mem_of_getElem? (i := 346) (by decide +kernel)
theorem mw_347 : Cond.instanceMethod yX4_read ∈ wsL_law := List.mem_of_getElem? (i := 347) (by decide +kernel)
theorem mw_348 : Cond.selects RX4 yX4_read yX4_read ∈ wsL_law := List.mem_of_getElem? (i := 348) (by decide +kernel)
theorem mw_349 : Cond.code yX4_read cX4_read 4 (some .int) ∈ wsL_law := List.mem_of_getElem? (i := 349) (by decide +kernel)
theorem mw_350 : Cond.methodLink RX4 165 yX4_readNow ∈ wsL_law := List.mem_of_getElem? (i := 350) (by decide +kernel)
theorem mw_351 : Cond.instanceMethod yX4_readNow ∈ wsL_law := List.mem_of_getElem? (i := 351) (by decide +kernel)
theorem mw_352 : Cond.selects RX4 yX4_readNow yX4_readNow ∈ wsL_law := List.mem_of_getElem? (i := 352) (by decide +kernel)
theorem mw_353 : Cond.code yX4_readNow cX4_readNow 4 (some .int) ∈ wsL_law := List.mem_of_getElem? (i := 353) (by decide +kernel)
theorem mw_354 : Cond.methodLink RX4 159 yX4_ones ∈ wsL_law := List.mem_of_getElem? (i := 354) (by decide +kernel)
theorem mw_355 : Cond.static yX4_ones ∈ wsL_law := List.mem_of_getElem? (i := 355) (by decide +kernel)
theorem mw_356 : Cond.code yX4_ones cX4_ones 3 (some .int) ∈ wsL_law := List.mem_of_getElem? (i := 356) (by decide +kernel)
theorem mw_357 : Cond.methodLink RX4 162 yX4_movedBy ∈ wsL_law := List.mem_of_getElem? (i := 357) (by decide +kernel)
theorem mw_358 : Cond.instanceMethod yX4_movedBy ∈ wsL_law := List.mem_of_getElem? (i := 358) (by decide +kernel)
theorem mw_359 : Cond.selects RX4 yX4_movedBy yX4_movedBy ∈ wsL_law := List.mem_of_getElem? (i := 359) (by decide +kernel)
theorem mw_360 : Cond.code yX4_movedBy cX4_movedBy 4 (some .int) ∈ wsL_law := List.mem_of_getElem? (i := 360) (by decide +kernel)
theorem mw_361 : Cond.methodLink RL 63 yX3_place ∈ wsL_law := List.mem_of_getElem? (i := 361) (by decide +kernel)
theorem mw_362 : Cond.instanceMethod yX3_place ∈ wsL_law := List.mem_of_getElem? (i := 362) (by decide +kernel)
theorem mw_363 : Cond.selects RX3 yX3_place yX3_place ∈ wsL_law := List.mem_of_getElem? (i := 363) (by decide +kernel)
theorem mw_364 : Cond.code yX3_place cX3_place 3 (some .int) ∈ wsL_law := List.mem_of_getElem? (i := 364) (by decide +kernel)
theorem mw_365 : Cond.methodLink RX3 175 yX3_placeFact ∈ wsL_law := List.mem_of_getElem? (i := 365) (by decide +kernel)
theorem mw_366 : Cond.instanceMethod yX3_placeFact ∈ wsL_law := List.mem_of_getElem? (i := 366) (by decide +kernel)
theorem mw_367 : Cond.selects RX3 yX3_placeFact yX3_placeFact ∈ wsL_law := List.mem_of_getElem? (i := 367) (by decide +kernel)
theorem mw_368 : Cond.code yX3_placeFact cX3_placeFact 3 (some .int) ∈ wsL_law := List.mem_of_getElem? (i := 368) (by decide +kernel)
theorem mw_369 : Cond.fieldLink RX3 178 "TrackedLetters$Line" "fromOf" "[I" ∈ wsL_law := List.mem_of_getElem? (i := 369) (by decide +kernel)
theorem mw_370 : Cond.methodLink RX3 181 yX3_markOf ∈ wsL_law := List.mem_of_getElem? (i := 370) (by decide +kernel)
theorem mw_371 : Cond.instanceMethod yX3_markOf ∈ wsL_law := List.mem_of_getElem? (i := 371) (by decide +kernel)
theorem mw_372 : Cond.selects RX3 yX3_markOf yX3_markOf ∈ wsL_law := List.mem_of_getElem? (i := 372) (by decide +kernel)
theorem mw_373 : Cond.code yX3_markOf cX3_markOf 6 (some .int) ∈ wsL_law := List.mem_of_getElem? (i := 373) (by decide +kernel)
theorem mw_374 : Cond.methodLink RL 66 yX4_place ∈ wsL_law := List.mem_of_getElem? (i := 374) (by decide +kernel)
theorem mw_375 : Cond.instanceMethod yX4_place ∈ wsL_law := List.mem_of_getElem? (i := 375) (by decide +kernel)
theorem mw_376 : Cond.selects RX4 yX4_place yX4_place ∈ wsL_law := List.mem_of_getElem? (i := 376) (by decide +kernel)
theorem mw_377 : Cond.code yX4_place cX4_place 3 (some .int) ∈ wsL_law := List.mem_of_getElem? (i := 377) (by decide +kernel)
theorem mw_378 : Cond.methodLink RX4 174 yX4_placeNow ∈ wsL_law := List.mem_of_getElem? (i := 378) (by decide +kernel)
theorem mw_379 : Cond.instanceMethod yX4_placeNow ∈ wsL_law := List.mem_of_getElem? (i := 379) (by decide +kernel)
theorem mw_380 : Cond.selects RX4 yX4_placeNow yX4_placeNow ∈ wsL_law := List.mem_of_getElem? (i := 380) (by decide +kernel)
theorem mw_381 : Cond.code yX4_placeNow cX4_placeNow 3 (some .int) ∈ wsL_law := List.mem_of_getElem? (i := 381) (by decide +kernel)
theorem mw_382 : Cond.methodLink RX4 171 yX4_markOf ∈ wsL_law := List.mem_of_getElem? (i := 382) (by decide +kernel)
theorem mw_383 : Cond.instanceMethod yX4_markOf ∈ wsL_law := List.mem_of_getElem? (i := 383) (by decide +kernel)
theorem mw_384 : Cond.selects RX4 yX4_markOf yX4_markOf ∈ wsL_law := List.mem_of_getElem? (i := 384) (by decide +kernel)
theorem mw_385 : Cond.code yX4_markOf cX4_markOf 4 (some .int) ∈ wsL_law := List.mem_of_getElem? (i := 385) (by decide +kernel)
theorem mw_386 : Cond.methodLink RX4 168 yX4_isAt ∈ wsL_law := List.mem_of_getElem? (i := 386) (by decide +kernel)
theorem mw_387 : Cond.instanceMethod yX4_isAt ∈ wsL_law := List.mem_of_getElem? (i := 387) (by decide +kernel)
theorem mw_388 : Cond.selects RX4 yX4_isAt yX4_isAt ∈ wsL_law := List.mem_of_getElem? (i := 388) (by decide +kernel)
theorem mw_389 : Cond.code yX4_isAt cX4_isAt 4 (some .boolean) ∈ wsL_law := List.mem_of_getElem? (i := 389) (by decide +kernel)
theorem mw_390 : Cond.methodLink RL 67 yX3_change ∈ wsL_law := List.mem_of_getElem? (i := 390) (by decide +kernel)
theorem mw_391 : Cond.instanceMethod yX3_change ∈ wsL_law := List.mem_of_getElem? (i := 391) (by decide +kernel)
theorem mw_392 : Cond.selects RX3 yX3_change yX3_change ∈ wsL_law := List.mem_of_getElem? (i := 392) (by decide +kernel)
theorem mw_393 : Cond.code yX3_change cX3_change 3 (some .int) ∈ wsL_law := List.mem_of_getElem? (i := 393) (by decide +kernel)
theorem mw_394 : Cond.methodLink RX3 184 yX3_changeFact ∈ wsL_law := List.mem_of_getElem? (i := 394) (by decide +kernel)
theorem mw_395 : Cond.instanceMethod yX3_changeFact ∈ wsL_law := List.mem_of_getElem? (i := 395) (by decide +kernel)
theorem mw_396 : Cond.selects RX3 yX3_changeFact yX3_changeFact ∈ wsL_law := List.mem_of_getElem? (i := 396) (by decide +kernel)
theorem mw_397 : Cond.code yX3_changeFact cX3_changeFact 3 (some .int) ∈ wsL_law := List.mem_of_getElem? (i := 397) (by decide +kernel)
theorem mw_398 : Cond.fieldLink RX3 187 "TrackedLetters$Changes" "authorOf" "[I" ∈ wsL_law := List.mem_of_getElem? (i := 398) (by decide +kernel)
theorem mw_399 : Cond.methodLink RX3 157 yJ13_bitCount_95d88 ∈ wsL_law := List.mem_of_getElem? (i := 399) (by decide +kernel)
theorem mw_400 : Cond.static yJ13_bitCount_95d88 ∈ wsL_law := List.mem_of_getElem? (i := 400) (by decide +kernel)
theorem mw_401 : Cond.initialized RJ13 ∈ wsL_law := List.mem_of_getElem? (i := 401) (by decide +kernel)
theorem mw_402 : Cond.code yJ13_bitCount_95d88 cJ13_bitCount_95d88 2 (some .int) ∈ wsL_law := List.mem_of_getElem? (i := 402) (by decide +kernel)
theorem mw_403 : Cond.constantLong RJ13 314 (6148914691236517205) ∈ wsL_law := List.mem_of_getElem? (i := 403) (by decide +kernel)
theorem mw_404 : Cond.constantLong RJ13 316 (3689348814741910323) ∈ wsL_law := List.mem_of_getElem? (i := 404) (by decide +kernel)
theorem mw_405 : Cond.constantLong RJ13 318 (1085102592571150095) ∈ wsL_law := List.mem_of_getElem? (i := 405) (by decide +kernel)
theorem mw_406 : Cond.methodLink RX3 190 yX3_idleOf ∈ wsL_law := List.mem_of_getElem? (i := 406) (by decide +kernel)
theorem mw_407 : Cond.instanceMethod yX3_idleOf ∈ wsL_law := List.mem_of_getElem? (i := 407) (by decide +kernel)
theorem mw_408 : Cond.selects RX3 yX3_idleOf yX3_idleOf ∈ wsL_law := List.mem_of_getElem? (i := 408) (by decide +kernel)
theorem mw_409 : Cond.code yX3_idleOf cX3_idleOf 12 (some .int) ∈ wsL_law := List.mem_of_getElem? (i := 409) (by decide +kernel)
theorem mw_410 : Cond.methodLink RX3 193 yX0_insertsUnder ∈ wsL_law := List.mem_of_getElem? (i := 410) (by decide +kernel)
theorem mw_411 : Cond.instanceMethod yX0_insertsUnder ∈ wsL_law := List.mem_of_getElem? (i := 411) (by decide +kernel)
theorem mw_412 : Cond.selects RX0 yX0_insertsUnder yX0_insertsUnder ∈ wsL_law := List.mem_of_getElem? (i := 412) (by decide +kernel)
theorem mw_413 : Cond.code yX0_insertsUnder cX0_insertsUnder 4 (some .int) ∈ wsL_law := List.mem_of_getElem? (i := 413) (by decide +kernel)
theorem mw_414 : Cond.methodLink RX3 196 yX1_leadersUnder ∈ wsL_law := List.mem_of_getElem? (i := 414) (by decide +kernel)
theorem mw_415 : Cond.instanceMethod yX1_leadersUnder ∈ wsL_law := List.mem_of_getElem? (i := 415) (by decide +kernel)
theorem mw_416 : Cond.selects RX1 yX1_leadersUnder yX1_leadersUnder ∈ wsL_law := List.mem_of_getElem? (i := 416) (by decide +kernel)
theorem mw_417 : Cond.code yX1_leadersUnder cX1_leadersUnder 4 (some .int) ∈ wsL_law := List.mem_of_getElem? (i := 417) (by decide +kernel)
theorem mw_418 : Cond.methodLink RL 70 yX4_change ∈ wsL_law := List.mem_of_getElem? (i := 418) (by decide +kernel)
theorem mw_419 : Cond.instanceMethod yX4_change ∈ wsL_law := List.mem_of_getElem? (i := 419) (by decide +kernel)
theorem mw_420 : Cond.selects RX4 yX4_change yX4_change ∈ wsL_law := List.mem_of_getElem? (i := 420) (by decide +kernel)
theorem mw_421 : Cond.code yX4_change cX4_change 3 (some .int) ∈ wsL_law := List.mem_of_getElem? (i := 421) (by decide +kernel)
theorem mw_422 : Cond.methodLink RX4 190 yX4_changeNow ∈ wsL_law := List.mem_of_getElem? (i := 422) (by decide +kernel)
theorem mw_423 : Cond.instanceMethod yX4_changeNow ∈ wsL_law := List.mem_of_getElem? (i := 423) (by decide +kernel)
theorem mw_424 : Cond.selects RX4 yX4_changeNow yX4_changeNow ∈ wsL_law := List.mem_of_getElem? (i := 424) (by decide +kernel)
theorem mw_425 : Cond.code yX4_changeNow cX4_changeNow 3 (some .int) ∈ wsL_law := List.mem_of_getElem? (i := 425) (by decide +kernel)
theorem mw_426 : Cond.methodLink RX4 183 yX4_touchedBy ∈ wsL_law := List.mem_of_getElem? (i := 426) (by decide +kernel)
theorem mw_427 : Cond.instanceMethod yX4_touchedBy ∈ wsL_law := List.mem_of_getElem? (i := 427) (by decide +kernel)
theorem mw_428 : Cond.selects RX4 yX4_touchedBy yX4_touchedBy ∈ wsL_law := List.mem_of_getElem? (i := 428) (by decide +kernel)
theorem mw_429 : Cond.code yX4_touchedBy cX4_touchedBy 5 (some .int) ∈ wsL_law := List.mem_of_getElem? (i := 429) (by decide +kernel)
theorem mw_430 : Cond.methodLink RX4 177 yX4_isTouched ∈ wsL_law := List.mem_of_getElem? (i := 430) (by decide +kernel)
theorem mw_431 : Cond.instanceMethod yX4_isTouched ∈ wsL_law := List.mem_of_getElem? (i := 431) (by decide +kernel)
theorem mw_432 : Cond.selects RX4 yX4_isTouched yX4_isTouched ∈ wsL_law := List.mem_of_getElem? (i := 432) (by decide +kernel)
theorem mw_433 : Cond.code yX4_isTouched cX4_isTouched 3 (some .boolean) ∈ wsL_law := List.mem_of_getElem? (i := 433) (by decide +kernel)
theorem mw_434 : Cond.methodLink RX4 180 yX4_isIdle ∈ wsL_law := List.mem_of_getElem? (i := 434) (by decide +kernel)
theorem mw_435 : Cond.instanceMethod yX4_isIdle ∈ wsL_law := List.mem_of_getElem? (i := 435) (by decide +kernel)
theorem mw_436 : Cond.selects RX4 yX4_isIdle yX4_isIdle ∈ wsL_law := List.mem_of_getElem? (i := 436) (by decide +kernel)
theorem mw_437 : Cond.code yX4_isIdle cX4_isIdle 6 (some .boolean) ∈ wsL_law := List.mem_of_getElem? (i := 437) (by decide +kernel)
theorem mw_438 : Cond.methodLink RX4 187 yX4_leansOn ∈ wsL_law := List.mem_of_getElem? (i := 438) (by decide +kernel)
theorem mw_439 : Cond.instanceMethod yX4_leansOn ∈ wsL_law := List.mem_of_getElem? (i := 439) (by decide +kernel)
theorem mw_440 : Cond.selects RX4 yX4_leansOn yX4_leansOn ∈ wsL_law := List.mem_of_getElem? (i := 440) (by decide +kernel)
theorem mw_441 : Cond.code yX4_leansOn cX4_leansOn 5 (some .int) ∈ wsL_law := List.mem_of_getElem? (i := 441) (by decide +kernel)
theorem mw_442 : Cond.methodLink RL 71 yX3_span ∈ wsL_law := List.mem_of_getElem? (i := 442) (by decide +kernel)
theorem mw_443 : Cond.instanceMethod yX3_span ∈ wsL_law := List.mem_of_getElem? (i := 443) (by decide +kernel)
theorem mw_444 : Cond.selects RX3 yX3_span yX3_span ∈ wsL_law := List.mem_of_getElem? (i := 444) (by decide +kernel)
theorem mw_445 : Cond.code yX3_span cX3_span 3 (some .int) ∈ wsL_law := List.mem_of_getElem? (i := 445) (by decide +kernel)
theorem mw_446 : Cond.fieldLink RX3 202 "TrackedLetters$Spans" "size" "I" ∈ wsL_law := List.mem_of_getElem? (i := 446) (by decide +kernel)
theorem mw_447 : Cond.methodLink RX3 199 yX3_cutSpans ∈ wsL_law := List.mem_of_getElem? (i := 447) (by decide +kernel)
theorem mw_448 : Cond.instanceMethod yX3_cutSpans ∈ wsL_law := List.mem_of_getElem? (i := 448) (by decide +kernel)
theorem mw_449 : Cond.selects RX3 yX3_cutSpans yX3_cutSpans ∈ wsL_law := List.mem_of_getElem? (i := 449) (by decide +kernel)
theorem mw_450 : Cond.code yX3_cutSpans cX3_cutSpans 3 none ∈ wsL_law := List.mem_of_getElem? (i := 450) (by decide +kernel)
theorem mw_451 : Cond.methodLink RX3 206 yX2_take ∈ wsL_law := List.mem_of_getElem? (i := 451) (by decide +kernel)
theorem mw_452 : Cond.instanceMethod yX2_take ∈ wsL_law := List.mem_of_getElem? (i := 452) (by decide +kernel)
theorem mw_453 : Cond.selects RX2 yX2_take yX2_take ∈ wsL_law := List.mem_of_getElem? (i := 453) (by decide +kernel)
theorem mw_454 : Cond.code yX2_take cX2_take 3 none ∈ wsL_law := List.mem_of_getElem? (i := 454) (by decide +kernel)
theorem mw_455 : Cond.methodLink RX3 203 yX2_factOf ∈ wsL_law := List.mem_of_getElem? (i := 455) (by decide +kernel)
theorem mw_456 : Cond.instanceMethod yX2_factOf ∈ wsL_law := List.mem_of_getElem? (i := 456) (by decide +kernel)
theorem mw_457 : Cond.selects RX2 yX2_factOf yX2_factOf ∈ wsL_law := List.mem_of_getElem? (i := 457) (by decide +kernel)
theorem mw_458 : Cond.code yX2_factOf cX2_factOf 3 (some .int) ∈ wsL_law := List.mem_of_getElem? (i := 458) (by decide +kernel)
theorem mw_459 : Cond.methodLink RL 74 yX4_span ∈ wsL_law := List.mem_of_getElem? (i := 459) (by decide +kernel)
theorem mw_460 : Cond.instanceMethod yX4_span ∈ wsL_law := List.mem_of_getElem? (i := 460) (by decide +kernel)
theorem mw_461 : Cond.selects RX4 yX4_span yX4_span ∈ wsL_law := List.mem_of_getElem? (i := 461) (by decide +kernel)
theorem mw_462 : Cond.code yX4_span cX4_span 3 (some .int) ∈ wsL_law := List.mem_of_getElem? (i := 462) (by decide +kernel)
theorem mw_463 : Cond.fieldLink RX4 193 "TrackedLettersModel" "spans" "I" ∈ wsL_law := List.mem_of_getElem? (i := 463) (by decide +kernel)
theorem mw_464 : Cond.methodLink RX4 196 yX4_laySpans ∈ wsL_law := List.mem_of_getElem? (i := 464) (by decide +kernel)
theorem mw_465 : Cond.instanceMethod yX4_laySpans ∈ wsL_law := List.mem_of_getElem? (i := 465) (by decide +kernel)
theorem mw_466 : Cond.selects RX4 yX4_laySpans yX4_laySpans ∈ wsL_law := List.mem_of_getElem? (i := 466) (by decide +kernel)
theorem mw_467 : Cond.code yX4_laySpans cX4_laySpans 4 none ∈ wsL_law := List.mem_of_getElem? (i := 467) (by decide +kernel)
theorem mw_468 : Cond.methodLink RL 75 yX3_found ∈ wsL_law := List.mem_of_getElem? (i := 468) (by decide +kernel)
theorem mw_469 : Cond.instanceMethod yX3_found ∈ wsL_law := List.mem_of_getElem? (i := 469) (by decide +kernel)
theorem mw_470 : Cond.selects RX3 yX3_found yX3_found ∈ wsL_law := List.mem_of_getElem? (i := 470) (by decide +kernel)
theorem mw_471 : Cond.code yX3_found cX3_found 2 (some .int) ∈ wsL_law := List.mem_of_getElem? (i := 471) (by decide +kernel)
theorem mw_472 : Cond.methodLink RX3 209 yX3_seekPage ∈ wsL_law := List.mem_of_getElem? (i := 472) (by decide +kernel)
theorem mw_473 : Cond.instanceMethod yX3_seekPage ∈ wsL_law := List.mem_of_getElem? (i := 473) (by decide +kernel)
theorem mw_474 : Cond.selects RX3 yX3_seekPage yX3_seekPage ∈ wsL_law := List.mem_of_getElem? (i := 474) (by decide +kernel)
theorem mw_475 : Cond.code yX3_seekPage cX3_seekPage 4 none ∈ wsL_law := List.mem_of_getElem? (i := 475) (by decide +kernel)
theorem mw_476 : Cond.methodLink RX3 212 yX3_readsAsPage ∈ wsL_law := List.mem_of_getElem? (i := 476) (by decide +kernel)
theorem mw_477 : Cond.instanceMethod yX3_readsAsPage ∈ wsL_law := List.mem_of_getElem? (i := 477) (by decide +kernel)
theorem mw_478 : Cond.selects RX3 yX3_readsAsPage yX3_readsAsPage ∈ wsL_law := List.mem_of_getElem? (i := 478) (by decide +kernel)
theorem mw_479 : Cond.code yX3_readsAsPage cX3_readsAsPage 6 (some .boolean) ∈ wsL_law := List.mem_of_getElem? (i := 479) (by decide +kernel)
theorem mw_480 : Cond.methodLink RX3 215 yJ6_bitCount_0f7a4 ∈ wsL_law := List.mem_of_getElem? (i := 480) (by decide +kernel)
theorem mw_481 : Cond.static yJ6_bitCount_0f7a4 ∈ wsL_law := List.mem_of_getElem? (i := 481) (by decide +kernel)
theorem mw_482 : Cond.initialized RJ6 ∈ wsL_law := List.mem_of_getElem? (i := 482) (by decide +kernel)
theorem mw_483 : Cond.code yJ6_bitCount_0f7a4 cJ6_bitCount_0f7a4 1 (some .int) ∈ wsL_law := List.mem_of_getElem? (i := 483) (by decide +kernel)
theorem mw_484 : Cond.constant RJ6 265 (1431655765) ∈ wsL_law := List.mem_of_getElem? (i := 484) (by decide +kernel)
theorem mw_485 : Cond.constant RJ6 266 (858993459) ∈ wsL_law := List.mem_of_getElem? (i := 485) (by decide +kernel)
theorem mw_486 : Cond.constant RJ6 267 (252645135) ∈ wsL_law := List.mem_of_getElem? (i := 486) (by decide +kernel)
theorem mw_487 : Cond.methodLink RL 78 yX4_found ∈ wsL_law := List.mem_of_getElem? (i := 487) (by decide +kernel)
theorem mw_488 : Cond.instanceMethod yX4_found ∈ wsL_law := List.mem_of_getElem? (i := 488) (by decide +kernel)
theorem mw_489 : Cond.selects RX4 yX4_found yX4_found ∈ wsL_law := List.mem_of_getElem? (i := 489) (by decide +kernel)
theorem mw_490 : Cond.code yX4_found cX4_found 2 (some .int) ∈ wsL_law := List.mem_of_getElem? (i := 490) (by decide +kernel)
theorem mw_491 : Cond.fieldLink RX4 199 "TrackedLettersModel" "sets" "I" ∈ wsL_law := List.mem_of_getElem? (i := 491) (by decide +kernel)
theorem mw_492 : Cond.fieldLink RX4 202 "TrackedLettersModel" "best" "I" ∈ wsL_law := List.mem_of_getElem? (i := 492) (by decide +kernel)
theorem mw_493 : Cond.methodLink RX4 208 yX4_layFound ∈ wsL_law := List.mem_of_getElem? (i := 493) (by decide +kernel)
theorem mw_494 : Cond.instanceMethod yX4_layFound ∈ wsL_law := List.mem_of_getElem? (i := 494) (by decide +kernel)
theorem mw_495 : Cond.selects RX4 yX4_layFound yX4_layFound ∈ wsL_law := List.mem_of_getElem? (i := 495) (by decide +kernel)
theorem mw_496 : Cond.code yX4_layFound cX4_layFound 4 none ∈ wsL_law := List.mem_of_getElem? (i := 496) (by decide +kernel)
theorem mw_497 : Cond.methodLink RX4 205 yX4_readsAsPage ∈ wsL_law := List.mem_of_getElem? (i := 497) (by decide +kernel)
theorem mw_498 : Cond.instanceMethod yX4_readsAsPage ∈ wsL_law := List.mem_of_getElem? (i := 498) (by decide +kernel)
theorem mw_499 : Cond.selects RX4 yX4_readsAsPage yX4_readsAsPage ∈ wsL_law := List.mem_of_getElem? (i := 499) (by decide +kernel)
theorem mw_500 : Cond.code yX4_readsAsPage cX4_readsAsPage 4 (some .boolean) ∈ wsL_law := List.mem_of_getElem? (i := 500) (by decide +kernel)
theorem mw_501 : Cond.methodLink RL 79 yX3_count ∈ wsL_law := List.mem_of_getElem? (i := 501) (by decide +kernel)
theorem mw_502 : Cond.instanceMethod yX3_count ∈ wsL_law := List.mem_of_getElem? (i := 502) (by decide +kernel)
theorem mw_503 : Cond.selects RX3 yX3_count yX3_count ∈ wsL_law := List.mem_of_getElem? (i := 503) (by decide +kernel)
theorem mw_504 : Cond.code yX3_count cX3_count 2 (some .int) ∈ wsL_law := List.mem_of_getElem? (i := 504) (by decide +kernel)
theorem mw_505 : Cond.methodLink RX3 219 yX1_tornBy ∈ wsL_law := List.mem_of_getElem? (i := 505) (by decide +kernel)
theorem mw_506 : Cond.instanceMethod yX1_tornBy ∈ wsL_law := List.mem_of_getElem? (i := 506) (by decide +kernel)
theorem mw_507 : Cond.selects RX1 yX1_tornBy yX1_tornBy ∈ wsL_law := List.mem_of_getElem? (i := 507) (by decide +kernel)
theorem mw_508 : Cond.code yX1_tornBy cX1_tornBy 5 (some .long) ∈ wsL_law := List.mem_of_getElem? (i := 508) (by decide +kernel)
theorem mw_509 : Cond.methodLink RX1 32 yJ6_bitCount_0f7a4 ∈ wsL_law := List.mem_of_getElem? (i := 509) (by decide +kernel)
theorem mw_510 : Cond.methodLink RX3 222 yX0_deletedTwice ∈ wsL_law := List.mem_of_getElem? (i := 510) (by decide +kernel)
theorem mw_511 : Cond.instanceMethod yX0_deletedTwice ∈ wsL_law := List.mem_of_getElem? (i := 511) (by decide +kernel)
theorem mw_512 : Cond.selects RX0 yX0_deletedTwice yX0_deletedTwice ∈ wsL_law := List.mem_of_getElem? (i := 512) (by decide +kernel)
theorem mw_513 : Cond.code yX0_deletedTwice cX0_deletedTwice 6 (some .long) ∈ wsL_law := List.mem_of_getElem? (i := 513) (by decide +kernel)
theorem mw_514 : Cond.methodLink RL 82 yX4_count ∈ wsL_law := List.mem_of_getElem? (i := 514) (by decide +kernel)
theorem mw_515 : Cond.instanceMethod yX4_count ∈ wsL_law := List.mem_of_getElem? (i := 515) (by decide +kernel)
theorem mw_516 : Cond.selects RX4 yX4_count yX4_count ∈ wsL_law := List.mem_of_getElem? (i := 516) (by decide +kernel)
theorem mw_517 : Cond.code yX4_count cX4_count 2 (some .int) ∈ wsL_law := List.mem_of_getElem? (i := 517) (by decide +kernel)
theorem mw_518 : Cond.methodLink RX4 221 yX4_howMany ∈ wsL_law := List.mem_of_getElem? (i := 518) (by decide +kernel)
theorem mw_519 : Cond.instanceMethod yX4_howMany ∈ wsL_law := List.mem_of_getElem? (i := 519) (by decide +kernel)
theorem mw_520 : Cond.selects RX4 yX4_howMany yX4_howMany ∈ wsL_law := List.mem_of_getElem? (i := 520) (by decide +kernel)
theorem mw_521 : Cond.code yX4_howMany cX4_howMany 2 (some .int) ∈ wsL_law := List.mem_of_getElem? (i := 521) (by decide +kernel)
theorem mw_522 : Cond.methodLink RX4 217 yX4_tornMany ∈ wsL_law := List.mem_of_getElem? (i := 522) (by decide +kernel)
theorem mw_523 : Cond.instanceMethod yX4_tornMany ∈ wsL_law := List.mem_of_getElem? (i := 523) (by decide +kernel)
theorem mw_524 : Cond.selects RX4 yX4_tornMany yX4_tornMany ∈ wsL_law := List.mem_of_getElem? (i := 524) (by decide +kernel)
theorem mw_525 : Cond.code yX4_tornMany cX4_tornMany 3 (some .int) ∈ wsL_law := List.mem_of_getElem? (i := 525) (by decide +kernel)
theorem mw_526 : Cond.methodLink RX4 214 yX4_isTorn ∈ wsL_law := List.mem_of_getElem? (i := 526) (by decide +kernel)
theorem mw_527 : Cond.instanceMethod yX4_isTorn ∈ wsL_law := List.mem_of_getElem? (i := 527) (by decide +kernel)
theorem mw_528 : Cond.selects RX4 yX4_isTorn yX4_isTorn ∈ wsL_law := List.mem_of_getElem? (i := 528) (by decide +kernel)
theorem mw_529 : Cond.code yX4_isTorn cX4_isTorn 5 (some .boolean) ∈ wsL_law := List.mem_of_getElem? (i := 529) (by decide +kernel)
theorem mw_530 : Cond.methodLink RX4 211 yX4_openFrom ∈ wsL_law := List.mem_of_getElem? (i := 530) (by decide +kernel)
theorem mw_531 : Cond.instanceMethod yX4_openFrom ∈ wsL_law := List.mem_of_getElem? (i := 531) (by decide +kernel)
theorem mw_532 : Cond.selects RX4 yX4_openFrom yX4_openFrom ∈ wsL_law := List.mem_of_getElem? (i := 532) (by decide +kernel)
theorem mw_533 : Cond.code yX4_openFrom cX4_openFrom 5 (some .int) ∈ wsL_law := List.mem_of_getElem? (i := 533) (by decide +kernel)
theorem mw_534 : Cond.methodLink RL 83 yX3_digest ∈ wsL_law := List.mem_of_getElem? (i := 534) (by decide +kernel)
theorem mw_535 : Cond.instanceMethod yX3_digest ∈ wsL_law := List.mem_of_getElem? (i := 535) (by decide +kernel)
theorem mw_536 : Cond.selects RX3 yX3_digest yX3_digest ∈ wsL_law := List.mem_of_getElem? (i := 536) (by decide +kernel)
theorem mw_537 : Cond.code yX3_digest cX3_digest 4 (some .long) ∈ wsL_law := List.mem_of_getElem? (i := 537) (by decide +kernel)
theorem mw_538 : Cond.constantLong RX3 226 (1619) ∈ wsL_law := List.mem_of_getElem? (i := 538) (by decide +kernel)
theorem mw_539 : Cond.methodLink RX3 228 yX3_withView ∈ wsL_law := List.mem_of_getElem? (i := 539) (by decide +kernel)
theorem mw_540 : Cond.instanceMethod yX3_withView ∈ wsL_law := List.mem_of_getElem? (i := 540) (by decide +kernel)
theorem mw_541 : Cond.selects RX3 yX3_withView yX3_withView ∈ wsL_law := List.mem_of_getElem? (i := 541) (by decide +kernel)
theorem mw_542 : Cond.code yX3_withView cX3_withView 9 (some .long) ∈ wsL_law := List.mem_of_getElem? (i := 542) (by decide +kernel)
theorem mw_543 : Cond.methodLink RX3 242 yX3_with ∈ wsL_law := List.mem_of_getElem? (i := 543) (by decide +kernel)
theorem mw_544 : Cond.static yX3_with ∈ wsL_law := List.mem_of_getElem? (i := 544) (by decide +kernel)
theorem mw_545 : Cond.code yX3_with cX3_with 3 (some .long) ∈ wsL_law := List.mem_of_getElem? (i := 545) (by decide +kernel)
theorem mw_546 : Cond.constantLong RX3 248 (31) ∈ wsL_law := List.mem_of_getElem? (i := 546) (by decide +kernel)
theorem mw_547 : Cond.methodLink RX3 232 yX3_withPlaces ∈ wsL_law := List.mem_of_getElem? (i := 547) (by decide +kernel)
theorem mw_548 : Cond.instanceMethod yX3_withPlaces ∈ wsL_law := List.mem_of_getElem? (i := 548) (by decide +kernel)
theorem mw_549 : Cond.selects RX3 yX3_withPlaces yX3_withPlaces ∈ wsL_law := List.mem_of_getElem? (i := 549) (by decide +kernel)
theorem mw_550 : Cond.code yX3_withPlaces cX3_withPlaces 7 (some .long) ∈ wsL_law := List.mem_of_getElem? (i := 550) (by decide +kernel)
theorem mw_551 : Cond.methodLink RX3 236 yX3_withChanges ∈ wsL_law := List.mem_of_getElem? (i := 551) (by decide +kernel)
theorem mw_552 : Cond.instanceMethod yX3_withChanges ∈ wsL_law := List.mem_of_getElem? (i := 552) (by decide +kernel)
theorem mw_553 : Cond.selects RX3 yX3_withChanges yX3_withChanges ∈ wsL_law := List.mem_of_getElem? (i := 553) (by decide +kernel)
theorem mw_554 : Cond.code yX3_withChanges cX3_withChanges 7 (some .long) ∈ wsL_law := List.mem_of_getElem? (i := 554) (by decide +kernel)
theorem mw_555 : Cond.methodLink RX3 239 yX3_withSpans ∈ wsL_law := List.mem_of_getElem? (i := 555) (by decide +kernel)
theorem mw_556 : Cond.instanceMethod yX3_withSpans ∈ wsL_law := List.mem_of_getElem? (i := 556) (by decide +kernel)
theorem mw_557 : Cond.selects RX3 yX3_withSpans yX3_withSpans ∈ wsL_law := List.mem_of_getElem? (i := 557) (by decide +kernel)
theorem mw_558 : Cond.code yX3_withSpans cX3_withSpans 7 (some .long) ∈ wsL_law := List.mem_of_getElem? (i := 558) (by decide +kernel)
theorem mw_559 : Cond.methodLink RX3 245 yX3_count ∈ wsL_law := List.mem_of_getElem? (i := 559) (by decide +kernel)
theorem mw_560 : Cond.methodLink RL 87 yX4_digest ∈ wsL_law := List.mem_of_getElem? (i := 560) (by decide +kernel)
theorem mw_561 : Cond.instanceMethod yX4_digest ∈ wsL_law := List.mem_of_getElem? (i := 561) (by decide +kernel)
theorem mw_562 : Cond.selects RX4 yX4_digest yX4_digest ∈ wsL_law := List.mem_of_getElem? (i := 562) (by decide +kernel)
theorem mw_563 : Cond.code yX4_digest cX4_digest 2 (some .long) ∈ wsL_law := List.mem_of_getElem? (i := 563) (by decide +kernel)
theorem mw_564 : Cond.constantLong RX4 234 (1619) ∈ wsL_law := List.mem_of_getElem? (i := 564) (by decide +kernel)
theorem mw_565 : Cond.fieldLink RX4 226 "TrackedLettersModel" "h" "J" ∈ wsL_law := List.mem_of_getElem? (i := 565) (by decide +kernel)
theorem mw_566 : Cond.methodLink RX4 236 yX4_mixView ∈ wsL_law := List.mem_of_getElem? (i := 566) (by decide +kernel)
theorem mw_567 : Cond.instanceMethod yX4_mixView ∈ wsL_law := List.mem_of_getElem? (i := 567) (by decide +kernel)
theorem mw_568 : Cond.selects RX4 yX4_mixView yX4_mixView ∈ wsL_law := List.mem_of_getElem? (i := 568) (by decide +kernel)
theorem mw_569 : Cond.code yX4_mixView cX4_mixView 4 none ∈ wsL_law := List.mem_of_getElem? (i := 569) (by decide +kernel)
theorem mw_570 : Cond.methodLink RX4 230 yX4_mix ∈ wsL_law := List.mem_of_getElem? (i := 570) (by decide +kernel)
theorem mw_571 : Cond.instanceMethod yX4_mix ∈ wsL_law := List.mem_of_getElem? (i := 571) (by decide +kernel)
theorem mw_572 : Cond.selects RX4 yX4_mix yX4_mix ∈ wsL_law := List.mem_of_getElem? (i := 572) (by decide +kernel)
theorem mw_573 : Cond.code yX4_mix cX4_mix 3 none ∈ wsL_law := List.mem_of_getElem? (i := 573) (by decide +kernel)
theorem mw_574 : Cond.constantLong RX4 224 (31) ∈ wsL_law := List.mem_of_getElem? (i := 574) (by decide +kernel)
theorem mw_575 : Cond.methodLink RX4 239 yX4_mixSpans ∈ wsL_law := List.mem_of_getElem? (i := 575) (by decide +kernel)
theorem mw_576 : Cond.instanceMethod yX4_mixSpans ∈ wsL_law := List.mem_of_getElem? (i := 576) (by decide +kernel)
theorem mw_577 : Cond.selects RX4 yX4_mixSpans yX4_mixSpans ∈ wsL_law := List.mem_of_getElem? (i := 577) (by decide +kernel)
theorem mw_578 : Cond.code yX4_mixSpans cX4_mixSpans 2 none ∈ wsL_law := List.mem_of_getElem? (i := 578) (by decide +kernel)
theorem tk_goodL : GoodIn wsL_law wsL_law := goodIn_sub (fun _ h => h) (by decide +kernel)
abbrev vwCl : List vw_C := [(RX0, TX0, 6), (RX1, TX1, 5), (RX2, TX2, 4), (RX3, TX3, 13), (RX4, TX4, 32)]
