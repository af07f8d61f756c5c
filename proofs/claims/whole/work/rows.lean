section
-- ===== PART A: goes FIRST, ahead of the names: the tables' words, and 'selects' of the private methods out of them =====
/-- a private method of a class that the tables say can be made, by its rows of tables_1 -/
def lw_okq (q : MethodName × Nat) : Prop := (q.1.cls ≠ "java/lang/invoke/MethodHandle" ∧ q.1.cls ≠ "java/lang/invoke/VarHandle") ∧ Cond.instantiable q.1.cls q.2 ∈ tables_1 ∧ Cond.privateMethod q.1 ∈ tables_1 ∧ Cond.instanceMethod q.1 ∈ tables_1
theorem lw_p0 : lw_okq (⟨"TrackedLetters", "startText", "([II)V"⟩, 13) := ⟨⟨by decide +kernel, by decide +kernel⟩, List.mem_of_getElem? (i := 9) (by decide +kernel), List.mem_of_getElem? (i := 148) (by decide +kernel), List.mem_of_getElem? (i := 149) (by decide +kernel)⟩
theorem lw_p1 : lw_okq (⟨"TrackedLetters", "addLetter", "(III)V"⟩, 13) := ⟨⟨by decide +kernel, by decide +kernel⟩, List.mem_of_getElem? (i := 9) (by decide +kernel), List.mem_of_getElem? (i := 152) (by decide +kernel), List.mem_of_getElem? (i := 153) (by decide +kernel)⟩
theorem lw_p2 : lw_okq (⟨"TrackedLetters", "setOf", "(I)I"⟩, 13) := ⟨⟨by decide +kernel, by decide +kernel⟩, List.mem_of_getElem? (i := 9) (by decide +kernel), List.mem_of_getElem? (i := 175) (by decide +kernel), List.mem_of_getElem? (i := 176) (by decide +kernel)⟩
theorem lw_p3 : lw_okq (⟨"TrackedLetters", "lineUp", "(I)I"⟩, 13) := ⟨⟨by decide +kernel, by decide +kernel⟩, List.mem_of_getElem? (i := 9) (by decide +kernel), List.mem_of_getElem? (i := 187) (by decide +kernel), List.mem_of_getElem? (i := 188) (by decide +kernel)⟩
theorem lw_p4 : lw_okq (⟨"TrackedLetters", "thereBy", "(I)J"⟩, 13) := ⟨⟨by decide +kernel, by decide +kernel⟩, List.mem_of_getElem? (i := 9) (by decide +kernel), List.mem_of_getElem? (i := 191) (by decide +kernel), List.mem_of_getElem? (i := 192) (by decide +kernel)⟩
theorem lw_p5 : lw_okq (⟨"TrackedLetters$Line", "leadsTo", "(II)Z"⟩, 5) := ⟨⟨by decide +kernel, by decide +kernel⟩, List.mem_of_getElem? (i := 17) (by decide +kernel), List.mem_of_getElem? (i := 199) (by decide +kernel), List.mem_of_getElem? (i := 200) (by decide +kernel)⟩
theorem lw_p6 : lw_okq (⟨"TrackedLetters", "placeAhead", "(II)I"⟩, 13) := ⟨⟨by decide +kernel, by decide +kernel⟩, List.mem_of_getElem? (i := 9) (by decide +kernel), List.mem_of_getElem? (i := 207) (by decide +kernel), List.mem_of_getElem? (i := 208) (by decide +kernel)⟩
theorem lw_p7 : lw_okq (⟨"TrackedLetters", "insertPage", "(II)I"⟩, 13) := ⟨⟨by decide +kernel, by decide +kernel⟩, List.mem_of_getElem? (i := 9) (by decide +kernel), List.mem_of_getElem? (i := 211) (by decide +kernel), List.mem_of_getElem? (i := 212) (by decide +kernel)⟩
theorem lw_p8 : lw_okq (⟨"TrackedLetters", "moveLetters", "(IIII)I"⟩, 13) := ⟨⟨by decide +kernel, by decide +kernel⟩, List.mem_of_getElem? (i := 9) (by decide +kernel), List.mem_of_getElem? (i := 234) (by decide +kernel), List.mem_of_getElem? (i := 235) (by decide +kernel)⟩
theorem lw_p9 : lw_okq (⟨"TrackedLetters", "letterFact", "(II)I"⟩, 13) := ⟨⟨by decide +kernel, by decide +kernel⟩, List.mem_of_getElem? (i := 9) (by decide +kernel), List.mem_of_getElem? (i := 265) (by decide +kernel), List.mem_of_getElem? (i := 266) (by decide +kernel)⟩
theorem lw_p10 : lw_okq (⟨"TrackedLetters", "placeFact", "(II)I"⟩, 13) := ⟨⟨by decide +kernel, by decide +kernel⟩, List.mem_of_getElem? (i := 9) (by decide +kernel), List.mem_of_getElem? (i := 277) (by decide +kernel), List.mem_of_getElem? (i := 278) (by decide +kernel)⟩
theorem lw_p11 : lw_okq (⟨"TrackedLetters", "markOf", "(I)I"⟩, 13) := ⟨⟨by decide +kernel, by decide +kernel⟩, List.mem_of_getElem? (i := 9) (by decide +kernel), List.mem_of_getElem? (i := 281) (by decide +kernel), List.mem_of_getElem? (i := 282) (by decide +kernel)⟩
theorem lw_p12 : lw_okq (⟨"TrackedLetters", "changeFact", "(II)I"⟩, 13) := ⟨⟨by decide +kernel, by decide +kernel⟩, List.mem_of_getElem? (i := 9) (by decide +kernel), List.mem_of_getElem? (i := 289) (by decide +kernel), List.mem_of_getElem? (i := 290) (by decide +kernel)⟩
theorem lw_p13 : lw_okq (⟨"TrackedLetters", "idleOf", "(I)I"⟩, 13) := ⟨⟨by decide +kernel, by decide +kernel⟩, List.mem_of_getElem? (i := 9) (by decide +kernel), List.mem_of_getElem? (i := 299) (by decide +kernel), List.mem_of_getElem? (i := 300) (by decide +kernel)⟩
theorem lw_p14 : lw_okq (⟨"TrackedLetters", "cutSpans", "()V"⟩, 13) := ⟨⟨by decide +kernel, by decide +kernel⟩, List.mem_of_getElem? (i := 9) (by decide +kernel), List.mem_of_getElem? (i := 315) (by decide +kernel), List.mem_of_getElem? (i := 316) (by decide +kernel)⟩
theorem lw_p15 : lw_okq (⟨"TrackedLetters", "seekPage", "()V"⟩, 13) := ⟨⟨by decide +kernel, by decide +kernel⟩, List.mem_of_getElem? (i := 9) (by decide +kernel), List.mem_of_getElem? (i := 331) (by decide +kernel), List.mem_of_getElem? (i := 332) (by decide +kernel)⟩
def lw_privs_1 : List (MethodName × Nat) := [(⟨"TrackedLetters", "startText", "([II)V"⟩, 13), (⟨"TrackedLetters", "addLetter", "(III)V"⟩, 13), (⟨"TrackedLetters", "setOf", "(I)I"⟩, 13), (⟨"TrackedLetters", "lineUp", "(I)I"⟩, 13), (⟨"TrackedLetters", "thereBy", "(I)J"⟩, 13), (⟨"TrackedLetters$Line", "leadsTo", "(II)Z"⟩, 5), (⟨"TrackedLetters", "placeAhead", "(II)I"⟩, 13), (⟨"TrackedLetters", "insertPage", "(II)I"⟩, 13), (⟨"TrackedLetters", "moveLetters", "(IIII)I"⟩, 13), (⟨"TrackedLetters", "letterFact", "(II)I"⟩, 13), (⟨"TrackedLetters", "placeFact", "(II)I"⟩, 13), (⟨"TrackedLetters", "markOf", "(I)I"⟩, 13), (⟨"TrackedLetters", "changeFact", "(II)I"⟩, 13), (⟨"TrackedLetters", "idleOf", "(I)I"⟩, 13), (⟨"TrackedLetters", "cutSpans", "()V"⟩, 13), (⟨"TrackedLetters", "seekPage", "()V"⟩, 13)]
theorem lw_r1 : ∀ q ∈ lw_privs_1, lw_okq q := List.forall_mem_cons.mpr ⟨lw_p0, List.forall_mem_cons.mpr ⟨lw_p1, List.forall_mem_cons.mpr ⟨lw_p2, List.forall_mem_cons.mpr ⟨lw_p3, List.forall_mem_cons.mpr ⟨lw_p4, List.forall_mem_cons.mpr ⟨lw_p5, List.forall_mem_cons.mpr ⟨lw_p6, List.forall_mem_cons.mpr ⟨lw_p7, List.forall_mem_cons.mpr ⟨lw_p8, List.forall_mem_cons.mpr ⟨lw_p9, List.forall_mem_cons.mpr ⟨lw_p10, List.forall_mem_cons.mpr ⟨lw_p11, List.forall_mem_cons.mpr ⟨lw_p12, List.forall_mem_cons.mpr ⟨lw_p13, List.forall_mem_cons.mpr ⟨lw_p14, List.forall_mem_cons.mpr ⟨lw_p15, fun _ h => absurd h List.not_mem_nil⟩⟩⟩⟩⟩⟩⟩⟩⟩⟩⟩⟩⟩⟩⟩⟩
theorem lw_p16 : lw_okq (⟨"TrackedLetters", "readsAsPage", "(I)Z"⟩, 13) := ⟨⟨by decide +kernel, by decide +kernel⟩, List.mem_of_getElem? (i := 9) (by decide +kernel), List.mem_of_getElem? (i := 335) (by decide +kernel), List.mem_of_getElem? (i := 336) (by decide +kernel)⟩
theorem lw_p17 : lw_okq (⟨"TrackedLetters", "withView", "(JI)J"⟩, 13) := ⟨⟨by decide +kernel, by decide +kernel⟩, List.mem_of_getElem? (i := 9) (by decide +kernel), List.mem_of_getElem? (i := 363) (by decide +kernel), List.mem_of_getElem? (i := 364) (by decide +kernel)⟩
theorem lw_p18 : lw_okq (⟨"TrackedLetters", "withPlaces", "(J)J"⟩, 13) := ⟨⟨by decide +kernel, by decide +kernel⟩, List.mem_of_getElem? (i := 9) (by decide +kernel), List.mem_of_getElem? (i := 371) (by decide +kernel), List.mem_of_getElem? (i := 372) (by decide +kernel)⟩
theorem lw_p19 : lw_okq (⟨"TrackedLetters", "withChanges", "(J)J"⟩, 13) := ⟨⟨by decide +kernel, by decide +kernel⟩, List.mem_of_getElem? (i := 9) (by decide +kernel), List.mem_of_getElem? (i := 375) (by decide +kernel), List.mem_of_getElem? (i := 376) (by decide +kernel)⟩
theorem lw_p20 : lw_okq (⟨"TrackedLetters", "withSpans", "(J)J"⟩, 13) := ⟨⟨by decide +kernel, by decide +kernel⟩, List.mem_of_getElem? (i := 9) (by decide +kernel), List.mem_of_getElem? (i := 379) (by decide +kernel), List.mem_of_getElem? (i := 380) (by decide +kernel)⟩
theorem lw_p21 : lw_okq (⟨"TrackedLettersModel", "comes", "(III)V"⟩, 32) := ⟨⟨by decide +kernel, by decide +kernel⟩, List.mem_of_getElem? (i := 384) (by decide +kernel), List.mem_of_getElem? (i := 503) (by decide +kernel), List.mem_of_getElem? (i := 504) (by decide +kernel)⟩
theorem lw_p22 : lw_okq (⟨"TrackedLettersModel", "layPlace", "(IIII)V"⟩, 32) := ⟨⟨by decide +kernel, by decide +kernel⟩, List.mem_of_getElem? (i := 384) (by decide +kernel), List.mem_of_getElem? (i := 507) (by decide +kernel), List.mem_of_getElem? (i := 508) (by decide +kernel)⟩
theorem lw_p23 : lw_okq (⟨"TrackedLettersModel", "layOn", "(II)V"⟩, 32) := ⟨⟨by decide +kernel, by decide +kernel⟩, List.mem_of_getElem? (i := 384) (by decide +kernel), List.mem_of_getElem? (i := 511) (by decide +kernel), List.mem_of_getElem? (i := 512) (by decide +kernel)⟩
theorem lw_p24 : lw_okq (⟨"TrackedLettersModel", "setOf", "(I)I"⟩, 32) := ⟨⟨by decide +kernel, by decide +kernel⟩, List.mem_of_getElem? (i := 384) (by decide +kernel), List.mem_of_getElem? (i := 522) (by decide +kernel), List.mem_of_getElem? (i := 523) (by decide +kernel)⟩
theorem lw_p25 : lw_okq (⟨"TrackedLettersModel", "layRead", "(I)V"⟩, 32) := ⟨⟨by decide +kernel, by decide +kernel⟩, List.mem_of_getElem? (i := 384) (by decide +kernel), List.mem_of_getElem? (i := 526) (by decide +kernel), List.mem_of_getElem? (i := 527) (by decide +kernel)⟩
theorem lw_p26 : lw_okq (⟨"TrackedLettersModel", "isThere", "(II)Z"⟩, 32) := ⟨⟨by decide +kernel, by decide +kernel⟩, List.mem_of_getElem? (i := 384) (by decide +kernel), List.mem_of_getElem? (i := 530) (by decide +kernel), List.mem_of_getElem? (i := 531) (by decide +kernel)⟩
theorem lw_p27 : lw_okq (⟨"TrackedLettersModel", "standsAt", "(II)I"⟩, 32) := ⟨⟨by decide +kernel, by decide +kernel⟩, List.mem_of_getElem? (i := 384) (by decide +kernel), List.mem_of_getElem? (i := 537) (by decide +kernel), List.mem_of_getElem? (i := 538) (by decide +kernel)⟩
theorem lw_p28 : lw_okq (⟨"TrackedLettersModel", "leadsOn", "(II)I"⟩, 32) := ⟨⟨by decide +kernel, by decide +kernel⟩, List.mem_of_getElem? (i := 384) (by decide +kernel), List.mem_of_getElem? (i := 541) (by decide +kernel), List.mem_of_getElem? (i := 542) (by decide +kernel)⟩
theorem lw_p29 : lw_okq (⟨"TrackedLettersModel", "ahead", "(I)I"⟩, 32) := ⟨⟨by decide +kernel, by decide +kernel⟩, List.mem_of_getElem? (i := 384) (by decide +kernel), List.mem_of_getElem? (i := 545) (by decide +kernel), List.mem_of_getElem? (i := 546) (by decide +kernel)⟩
theorem lw_p30 : lw_okq (⟨"TrackedLettersModel", "inLine", "(I)I"⟩, 32) := ⟨⟨by decide +kernel, by decide +kernel⟩, List.mem_of_getElem? (i := 384) (by decide +kernel), List.mem_of_getElem? (i := 549) (by decide +kernel), List.mem_of_getElem? (i := 550) (by decide +kernel)⟩
theorem lw_p31 : lw_okq (⟨"TrackedLettersModel", "layChange", "(II)I"⟩, 32) := ⟨⟨by decide +kernel, by decide +kernel⟩, List.mem_of_getElem? (i := 384) (by decide +kernel), List.mem_of_getElem? (i := 553) (by decide +kernel), List.mem_of_getElem? (i := 554) (by decide +kernel)⟩
def lw_privs_2 : List (MethodName × Nat) := [(⟨"TrackedLetters", "readsAsPage", "(I)Z"⟩, 13), (⟨"TrackedLetters", "withView", "(JI)J"⟩, 13), (⟨"TrackedLetters", "withPlaces", "(J)J"⟩, 13), (⟨"TrackedLetters", "withChanges", "(J)J"⟩, 13), (⟨"TrackedLetters", "withSpans", "(J)J"⟩, 13), (⟨"TrackedLettersModel", "comes", "(III)V"⟩, 32), (⟨"TrackedLettersModel", "layPlace", "(IIII)V"⟩, 32), (⟨"TrackedLettersModel", "layOn", "(II)V"⟩, 32), (⟨"TrackedLettersModel", "setOf", "(I)I"⟩, 32), (⟨"TrackedLettersModel", "layRead", "(I)V"⟩, 32), (⟨"TrackedLettersModel", "isThere", "(II)Z"⟩, 32), (⟨"TrackedLettersModel", "standsAt", "(II)I"⟩, 32), (⟨"TrackedLettersModel", "leadsOn", "(II)I"⟩, 32), (⟨"TrackedLettersModel", "ahead", "(I)I"⟩, 32), (⟨"TrackedLettersModel", "inLine", "(I)I"⟩, 32), (⟨"TrackedLettersModel", "layChange", "(II)I"⟩, 32)]
theorem lw_r2 : ∀ q ∈ lw_privs_2, lw_okq q := List.forall_mem_cons.mpr ⟨lw_p16, List.forall_mem_cons.mpr ⟨lw_p17, List.forall_mem_cons.mpr ⟨lw_p18, List.forall_mem_cons.mpr ⟨lw_p19, List.forall_mem_cons.mpr ⟨lw_p20, List.forall_mem_cons.mpr ⟨lw_p21, List.forall_mem_cons.mpr ⟨lw_p22, List.forall_mem_cons.mpr ⟨lw_p23, List.forall_mem_cons.mpr ⟨lw_p24, List.forall_mem_cons.mpr ⟨lw_p25, List.forall_mem_cons.mpr ⟨lw_p26, List.forall_mem_cons.mpr ⟨lw_p27, List.forall_mem_cons.mpr ⟨lw_p28, List.forall_mem_cons.mpr ⟨lw_p29, List.forall_mem_cons.mpr ⟨lw_p30, List.forall_mem_cons.mpr ⟨lw_p31, fun _ h => absurd h List.not_mem_nil⟩⟩⟩⟩⟩⟩⟩⟩⟩⟩⟩⟩⟩⟩⟩⟩
theorem lw_p32 : lw_okq (⟨"TrackedLettersModel", "isChange", "(I)Z"⟩, 32) := ⟨⟨by decide +kernel, by decide +kernel⟩, List.mem_of_getElem? (i := 384) (by decide +kernel), List.mem_of_getElem? (i := 569) (by decide +kernel), List.mem_of_getElem? (i := 570) (by decide +kernel)⟩
theorem lw_p33 : lw_okq (⟨"TrackedLettersModel", "inState", "(I)I"⟩, 32) := ⟨⟨by decide +kernel, by decide +kernel⟩, List.mem_of_getElem? (i := 384) (by decide +kernel), List.mem_of_getElem? (i := 581) (by decide +kernel), List.mem_of_getElem? (i := 582) (by decide +kernel)⟩
theorem lw_p34 : lw_okq (⟨"TrackedLettersModel", "lengthOf", "(I)I"⟩, 32) := ⟨⟨by decide +kernel, by decide +kernel⟩, List.mem_of_getElem? (i := 384) (by decide +kernel), List.mem_of_getElem? (i := 592) (by decide +kernel), List.mem_of_getElem? (i := 593) (by decide +kernel)⟩
theorem lw_p35 : lw_okq (⟨"TrackedLettersModel", "readNow", "(II)I"⟩, 32) := ⟨⟨by decide +kernel, by decide +kernel⟩, List.mem_of_getElem? (i := 384) (by decide +kernel), List.mem_of_getElem? (i := 600) (by decide +kernel), List.mem_of_getElem? (i := 601) (by decide +kernel)⟩
theorem lw_p36 : lw_okq (⟨"TrackedLettersModel", "movedBy", "(I)I"⟩, 32) := ⟨⟨by decide +kernel, by decide +kernel⟩, List.mem_of_getElem? (i := 384) (by decide +kernel), List.mem_of_getElem? (i := 607) (by decide +kernel), List.mem_of_getElem? (i := 608) (by decide +kernel)⟩
theorem lw_p37 : lw_okq (⟨"TrackedLettersModel", "placeNow", "(II)I"⟩, 32) := ⟨⟨by decide +kernel, by decide +kernel⟩, List.mem_of_getElem? (i := 384) (by decide +kernel), List.mem_of_getElem? (i := 615) (by decide +kernel), List.mem_of_getElem? (i := 616) (by decide +kernel)⟩
theorem lw_p38 : lw_okq (⟨"TrackedLettersModel", "markOf", "(I)I"⟩, 32) := ⟨⟨by decide +kernel, by decide +kernel⟩, List.mem_of_getElem? (i := 384) (by decide +kernel), List.mem_of_getElem? (i := 619) (by decide +kernel), List.mem_of_getElem? (i := 620) (by decide +kernel)⟩
theorem lw_p39 : lw_okq (⟨"TrackedLettersModel", "isAt", "(II)Z"⟩, 32) := ⟨⟨by decide +kernel, by decide +kernel⟩, List.mem_of_getElem? (i := 384) (by decide +kernel), List.mem_of_getElem? (i := 623) (by decide +kernel), List.mem_of_getElem? (i := 624) (by decide +kernel)⟩
theorem lw_p40 : lw_okq (⟨"TrackedLettersModel", "changeNow", "(II)I"⟩, 32) := ⟨⟨by decide +kernel, by decide +kernel⟩, List.mem_of_getElem? (i := 384) (by decide +kernel), List.mem_of_getElem? (i := 631) (by decide +kernel), List.mem_of_getElem? (i := 632) (by decide +kernel)⟩
theorem lw_p41 : lw_okq (⟨"TrackedLettersModel", "touchedBy", "(IZ)I"⟩, 32) := ⟨⟨by decide +kernel, by decide +kernel⟩, List.mem_of_getElem? (i := 384) (by decide +kernel), List.mem_of_getElem? (i := 635) (by decide +kernel), List.mem_of_getElem? (i := 636) (by decide +kernel)⟩
theorem lw_p42 : lw_okq (⟨"TrackedLettersModel", "isTouched", "(II)Z"⟩, 32) := ⟨⟨by decide +kernel, by decide +kernel⟩, List.mem_of_getElem? (i := 384) (by decide +kernel), List.mem_of_getElem? (i := 639) (by decide +kernel), List.mem_of_getElem? (i := 640) (by decide +kernel)⟩
theorem lw_p43 : lw_okq (⟨"TrackedLettersModel", "isIdle", "(II)Z"⟩, 32) := ⟨⟨by decide +kernel, by decide +kernel⟩, List.mem_of_getElem? (i := 384) (by decide +kernel), List.mem_of_getElem? (i := 643) (by decide +kernel), List.mem_of_getElem? (i := 644) (by decide +kernel)⟩
theorem lw_p44 : lw_okq (⟨"TrackedLettersModel", "leansOn", "(I)I"⟩, 32) := ⟨⟨by decide +kernel, by decide +kernel⟩, List.mem_of_getElem? (i := 384) (by decide +kernel), List.mem_of_getElem? (i := 647) (by decide +kernel), List.mem_of_getElem? (i := 648) (by decide +kernel)⟩
theorem lw_p45 : lw_okq (⟨"TrackedLettersModel", "laySpans", "()V"⟩, 32) := ⟨⟨by decide +kernel, by decide +kernel⟩, List.mem_of_getElem? (i := 384) (by decide +kernel), List.mem_of_getElem? (i := 655) (by decide +kernel), List.mem_of_getElem? (i := 656) (by decide +kernel)⟩
theorem lw_p46 : lw_okq (⟨"TrackedLettersModel", "layFound", "()V"⟩, 32) := ⟨⟨by decide +kernel, by decide +kernel⟩, List.mem_of_getElem? (i := 384) (by decide +kernel), List.mem_of_getElem? (i := 663) (by decide +kernel), List.mem_of_getElem? (i := 664) (by decide +kernel)⟩
theorem lw_p47 : lw_okq (⟨"TrackedLettersModel", "readsAsPage", "(I)Z"⟩, 32) := ⟨⟨by decide +kernel, by decide +kernel⟩, List.mem_of_getElem? (i := 384) (by decide +kernel), List.mem_of_getElem? (i := 667) (by decide +kernel), List.mem_of_getElem? (i := 668) (by decide +kernel)⟩
def lw_privs_3 : List (MethodName × Nat) := [(⟨"TrackedLettersModel", "isChange", "(I)Z"⟩, 32), (⟨"TrackedLettersModel", "inState", "(I)I"⟩, 32), (⟨"TrackedLettersModel", "lengthOf", "(I)I"⟩, 32), (⟨"TrackedLettersModel", "readNow", "(II)I"⟩, 32), (⟨"TrackedLettersModel", "movedBy", "(I)I"⟩, 32), (⟨"TrackedLettersModel", "placeNow", "(II)I"⟩, 32), (⟨"TrackedLettersModel", "markOf", "(I)I"⟩, 32), (⟨"TrackedLettersModel", "isAt", "(II)Z"⟩, 32), (⟨"TrackedLettersModel", "changeNow", "(II)I"⟩, 32), (⟨"TrackedLettersModel", "touchedBy", "(IZ)I"⟩, 32), (⟨"TrackedLettersModel", "isTouched", "(II)Z"⟩, 32), (⟨"TrackedLettersModel", "isIdle", "(II)Z"⟩, 32), (⟨"TrackedLettersModel", "leansOn", "(I)I"⟩, 32), (⟨"TrackedLettersModel", "laySpans", "()V"⟩, 32), (⟨"TrackedLettersModel", "layFound", "()V"⟩, 32), (⟨"TrackedLettersModel", "readsAsPage", "(I)Z"⟩, 32)]
theorem lw_r3 : ∀ q ∈ lw_privs_3, lw_okq q := List.forall_mem_cons.mpr ⟨lw_p32, List.forall_mem_cons.mpr ⟨lw_p33, List.forall_mem_cons.mpr ⟨lw_p34, List.forall_mem_cons.mpr ⟨lw_p35, List.forall_mem_cons.mpr ⟨lw_p36, List.forall_mem_cons.mpr ⟨lw_p37, List.forall_mem_cons.mpr ⟨lw_p38, List.forall_mem_cons.mpr ⟨lw_p39, List.forall_mem_cons.mpr ⟨lw_p40, List.forall_mem_cons.mpr ⟨lw_p41, List.forall_mem_cons.mpr ⟨lw_p42, List.forall_mem_cons.mpr ⟨lw_p43, List.forall_mem_cons.mpr ⟨lw_p44, List.forall_mem_cons.mpr ⟨lw_p45, List.forall_mem_cons.mpr ⟨lw_p46, List.forall_mem_cons.mpr ⟨lw_p47, fun _ h => absurd h List.not_mem_nil⟩⟩⟩⟩⟩⟩⟩⟩⟩⟩⟩⟩⟩⟩⟩⟩
theorem lw_p48 : lw_okq (⟨"TrackedLettersModel", "howMany", "(I)I"⟩, 32) := ⟨⟨by decide +kernel, by decide +kernel⟩, List.mem_of_getElem? (i := 384) (by decide +kernel), List.mem_of_getElem? (i := 675) (by decide +kernel), List.mem_of_getElem? (i := 676) (by decide +kernel)⟩
theorem lw_p49 : lw_okq (⟨"TrackedLettersModel", "tornMany", "()I"⟩, 32) := ⟨⟨by decide +kernel, by decide +kernel⟩, List.mem_of_getElem? (i := 384) (by decide +kernel), List.mem_of_getElem? (i := 679) (by decide +kernel), List.mem_of_getElem? (i := 680) (by decide +kernel)⟩
theorem lw_p50 : lw_okq (⟨"TrackedLettersModel", "isTorn", "(I)Z"⟩, 32) := ⟨⟨by decide +kernel, by decide +kernel⟩, List.mem_of_getElem? (i := 384) (by decide +kernel), List.mem_of_getElem? (i := 683) (by decide +kernel), List.mem_of_getElem? (i := 684) (by decide +kernel)⟩
theorem lw_p51 : lw_okq (⟨"TrackedLettersModel", "openFrom", "(II)I"⟩, 32) := ⟨⟨by decide +kernel, by decide +kernel⟩, List.mem_of_getElem? (i := 384) (by decide +kernel), List.mem_of_getElem? (i := 687) (by decide +kernel), List.mem_of_getElem? (i := 688) (by decide +kernel)⟩
theorem lw_p52 : lw_okq (⟨"TrackedLettersModel", "mixView", "(I)V"⟩, 32) := ⟨⟨by decide +kernel, by decide +kernel⟩, List.mem_of_getElem? (i := 384) (by decide +kernel), List.mem_of_getElem? (i := 696) (by decide +kernel), List.mem_of_getElem? (i := 697) (by decide +kernel)⟩
theorem lw_p53 : lw_okq (⟨"TrackedLettersModel", "mix", "(J)V"⟩, 32) := ⟨⟨by decide +kernel, by decide +kernel⟩, List.mem_of_getElem? (i := 384) (by decide +kernel), List.mem_of_getElem? (i := 700) (by decide +kernel), List.mem_of_getElem? (i := 701) (by decide +kernel)⟩
theorem lw_p54 : lw_okq (⟨"TrackedLettersModel", "mixSpans", "()V"⟩, 32) := ⟨⟨by decide +kernel, by decide +kernel⟩, List.mem_of_getElem? (i := 384) (by decide +kernel), List.mem_of_getElem? (i := 705) (by decide +kernel), List.mem_of_getElem? (i := 706) (by decide +kernel)⟩
def lw_privs_4 : List (MethodName × Nat) := [(⟨"TrackedLettersModel", "howMany", "(I)I"⟩, 32), (⟨"TrackedLettersModel", "tornMany", "()I"⟩, 32), (⟨"TrackedLettersModel", "isTorn", "(I)Z"⟩, 32), (⟨"TrackedLettersModel", "openFrom", "(II)I"⟩, 32), (⟨"TrackedLettersModel", "mixView", "(I)V"⟩, 32), (⟨"TrackedLettersModel", "mix", "(J)V"⟩, 32), (⟨"TrackedLettersModel", "mixSpans", "()V"⟩, 32)]
theorem lw_r4 : ∀ q ∈ lw_privs_4, lw_okq q := List.forall_mem_cons.mpr ⟨lw_p48, List.forall_mem_cons.mpr ⟨lw_p49, List.forall_mem_cons.mpr ⟨lw_p50, List.forall_mem_cons.mpr ⟨lw_p51, List.forall_mem_cons.mpr ⟨lw_p52, List.forall_mem_cons.mpr ⟨lw_p53, List.forall_mem_cons.mpr ⟨lw_p54, fun _ h => absurd h List.not_mem_nil⟩⟩⟩⟩⟩⟩⟩
def lw_privs : List (MethodName × Nat) := lw_privs_1 ++ (lw_privs_2 ++ (lw_privs_3 ++ (lw_privs_4)))
def lw_tbl : List Cond := k2_sels lw_privs ++ tables_1
theorem lw_privs_ok : ∀ q ∈ lw_privs, lw_okq q := by
  show ∀ q ∈ lw_privs_1 ++ (lw_privs_2 ++ (lw_privs_3 ++ (lw_privs_4))), lw_okq q
  exact List.forall_mem_append.mpr ⟨lw_r1, List.forall_mem_append.mpr ⟨lw_r2, List.forall_mem_append.mpr ⟨lw_r3, lw_r4⟩⟩⟩
/-! ===== BEGIN words of one list among another's, by their places ===== -/
theorem goodIn_r {big : List Cond} (ws : List Cond) (ps : List Nat) (hp : ws = ps.filterMap (fun i => big[i]?)) (h : ws.all goodWord = true) : GoodIn big ws := by
  intro w hw
  have h1 := List.all_eq_true.mp h w hw
  rw [hp] at hw
  obtain ⟨i, -, hi⟩ := List.mem_filterMap.mp hw
  have hm : w ∈ big := by first | exact List.mem_of_getElem? hi | exact List.getElem?_mem hi
  exact ⟨hm, good_of_word h1⟩
theorem goodIn_app {big a b : List Cond} (ha : GoodIn big a) (hb : GoodIn big b) : GoodIn big (a ++ b) := fun w h => (List.mem_append.mp h).elim (ha w) (hb w)
theorem goodIn_ca {big a b : List Cond} {c : Cond} (ha : GoodIn big (c :: a)) (hb : GoodIn big b) : GoodIn big (c :: (a ++ b)) := fun w h => (List.mem_cons.mp h).elim (fun e => ha w (List.mem_cons.mpr (Or.inl e))) (fun h => (List.mem_append.mp h).elim (fun h => ha w (List.mem_cons.mpr (Or.inr h))) (hb w))
theorem goodIn_sub {big ws : List Cond} (hm : ∀ w ∈ ws, w ∈ big) (h : ws.all goodWord = true) : GoodIn big ws := fun w hw => ⟨hm w hw, good_of_word (List.all_eq_true.mp h w hw)⟩
/-! ===== END ===== -/

/-! ===== BEGIN printed: names, fields, word lists, decode rows ===== -/
def RX0 : String := "TrackedLetters$Changes"
def TX0 : u_T := fun k => match k with
  | 0 => ("TrackedLetters$Changes", "kindOf", "[I", true)
  | 1 => ("TrackedLetters$Changes", "authorOf", "[I", true)
  | 2 => ("TrackedLetters$Changes", "statusOf", "[I", true)
  | 3 => ("TrackedLetters$Changes", "shownOf", "[I", true)
  | 4 => ("TrackedLetters$Changes", "touchedBy", "[J", true)
  | _ => ("TrackedLetters$Changes", "size", "I", false)
def tyX0 : Nat → FieldType := fun k => match k with
  | 0 => .array .int
  | 1 => .array .int
  | 2 => .array .int
  | 3 => .array .int
  | 4 => .array .long
  | _ => .int
abbrev wsX00 : List Cond := u_ws RX0 TX0 6
theorem nmX0 : ∀ a, a < 6 → ∀ b, b < 6 → a ≠ b → (TX0 a).2.1 ≠ (TX0 b).2.1 := by decide +kernel
theorem tyX0_ok : ∀ k, k < 6 → parseFieldDescriptor (TX0 k).2.2.1 = some (tyX0 k) := by decide +kernel
abbrev cX0_init : ByteArray := prog_2_method_1_code
def yX0_init : MethodName := ⟨RX0, "<init>", "()V"⟩
abbrev cX0_names : ByteArray := prog_2_method_2_code
def yX0_names : MethodName := ⟨RX0, "names", "(I)Z"⟩
abbrev cX0_isFull : ByteArray := prog_2_method_3_code
def yX0_isFull : MethodName := ⟨RX0, "isFull", "()Z"⟩
abbrev cX0_add : ByteArray := prog_2_method_4_code
def yX0_add : MethodName := ⟨RX0, "add", "(II)I"⟩
abbrev cX0_touch : ByteArray := prog_2_method_5_code
def yX0_touch : MethodName := ⟨RX0, "touch", "(II)V"⟩
abbrev cX0_inStatus : ByteArray := prog_2_method_6_code
def yX0_inStatus : MethodName := ⟨RX0, "inStatus", "(I)I"⟩
abbrev cX0_seenBy : ByteArray := prog_2_method_7_code
def yX0_seenBy : MethodName := ⟨RX0, "seenBy", "(I)I"⟩
abbrev cX0_openOnes : ByteArray := prog_2_method_8_code
def yX0_openOnes : MethodName := ⟨RX0, "openOnes", "(II)I"⟩
abbrev cX0_insertsUnder : ByteArray := prog_2_method_9_code
def yX0_insertsUnder : MethodName := ⟨RX0, "insertsUnder", "(I)I"⟩
abbrev cX0_deletedTwice : ByteArray := prog_2_method_10_code
def yX0_deletedTwice : MethodName := ⟨RX0, "deletedTwice", "()J"⟩
def RX1 : String := "TrackedLetters$Line"
def TX1 : u_T := fun k => match k with
  | 0 => ("TrackedLetters$Line", "letterOf", "[I", true)
  | 1 => ("TrackedLetters$Line", "fromOf", "[I", true)
  | 2 => ("TrackedLetters$Line", "byOf", "[I", true)
  | 3 => ("TrackedLetters$Line", "onwardOf", "[I", true)
  | _ => ("TrackedLetters$Line", "size", "I", false)
def tyX1 : Nat → FieldType := fun k => match k with
  | 0 => .array .int
  | 1 => .array .int
  | 2 => .array .int
  | 3 => .array .int
  | _ => .int
abbrev wsX10 : List Cond := u_ws RX1 TX1 5
theorem nmX1 : ∀ a, a < 5 → ∀ b, b < 5 → a ≠ b → (TX1 a).2.1 ≠ (TX1 b).2.1 := by decide +kernel
theorem tyX1_ok : ∀ k, k < 5 → parseFieldDescriptor (TX1 k).2.2.1 = some (tyX1 k) := by decide +kernel
abbrev cX1_init : ByteArray := prog_3_method_1_code
def yX1_init : MethodName := ⟨RX1, "<init>", "()V"⟩
abbrev cX1_openGap : ByteArray := prog_3_method_2_code
def yX1_openGap : MethodName := ⟨RX1, "openGap", "(II)V"⟩
abbrev cX1_put : ByteArray := prog_3_method_3_code
def yX1_put : MethodName := ⟨RX1, "put", "(IIII)V"⟩
abbrev cX1_holds : ByteArray := prog_3_method_4_code
def yX1_holds : MethodName := ⟨RX1, "holds", "(IJI)Z"⟩
abbrev cX1_leadsTo : ByteArray := prog_3_method_5_code
def yX1_leadsTo : MethodName := ⟨RX1, "leadsTo", "(II)Z"⟩
abbrev cX1_leadersUnder : ByteArray := prog_3_method_6_code
def yX1_leadersUnder : MethodName := ⟨RX1, "leadersUnder", "(I)I"⟩
abbrev cX1_tornBy : ByteArray := prog_3_method_7_code
def yX1_tornBy : MethodName := ⟨RX1, "tornBy", "(I)J"⟩
def RX2 : String := "TrackedLetters$Spans"
def TX2 : u_T := fun k => match k with
  | 0 => ("TrackedLetters$Spans", "markOf", "[I", true)
  | 1 => ("TrackedLetters$Spans", "placesOf", "[I", true)
  | 2 => ("TrackedLetters$Spans", "startOf", "[I", true)
  | _ => ("TrackedLetters$Spans", "size", "I", false)
def tyX2 : Nat → FieldType := fun k => match k with
  | 0 => .array .int
  | 1 => .array .int
  | 2 => .array .int
  | _ => .int
abbrev wsX20 : List Cond := u_ws RX2 TX2 4
theorem nmX2 : ∀ a, a < 4 → ∀ b, b < 4 → a ≠ b → (TX2 a).2.1 ≠ (TX2 b).2.1 := by decide +kernel
theorem tyX2_ok : ∀ k, k < 4 → parseFieldDescriptor (TX2 k).2.2.1 = some (tyX2 k) := by decide +kernel
abbrev cX2_init : ByteArray := prog_4_method_1_code
def yX2_init : MethodName := ⟨RX2, "<init>", "()V"⟩
abbrev cX2_take : ByteArray := prog_4_method_2_code
def yX2_take : MethodName := ⟨RX2, "take", "(II)V"⟩
abbrev cX2_factOf : ByteArray := prog_4_method_3_code
def yX2_factOf : MethodName := ⟨RX2, "factOf", "(II)I"⟩
def RX3 : String := "TrackedLetters"
def TX3 : u_T := fun k => match k with
  | 0 => ("TrackedLetters", "page", "[I", true)
  | 1 => ("TrackedLetters", "pageSize", "I", false)
  | 2 => ("TrackedLetters", "codeOf", "[I", true)
  | 3 => ("TrackedLetters", "letters", "I", false)
  | 4 => ("TrackedLetters", "firstText", "J", false)
  | 5 => ("TrackedLetters", "line", "LTrackedLetters$Line;", true)
  | 6 => ("TrackedLetters", "changes", "LTrackedLetters$Changes;", true)
  | 7 => ("TrackedLetters", "spans", "LTrackedLetters$Spans;", true)
  | 8 => ("TrackedLetters", "row", "[I", true)
  | 9 => ("TrackedLetters", "foundSets", "I", false)
  | 10 => ("TrackedLetters", "foundLeast", "I", false)
  | 11 => ("TrackedLetters", "begun", "I", false)
  | _ => ("TrackedLetters", "settled", "I", false)
def tyX3 : Nat → FieldType := fun k => match k with
  | 0 => .array .int
  | 1 => .int
  | 2 => .array .int
  | 3 => .int
  | 4 => .long
  | 5 => .object "TrackedLetters$Line"
  | 6 => .object "TrackedLetters$Changes"
  | 7 => .object "TrackedLetters$Spans"
  | 8 => .array .int
  | 9 => .int
  | 10 => .int
  | 11 => .int
  | _ => .int
abbrev wsX30 : List Cond := u_ws RX3 TX3 13
theorem nmX3 : ∀ a, a < 13 → ∀ b, b < 13 → a ≠ b → (TX3 a).2.1 ≠ (TX3 b).2.1 := by decide +kernel
theorem tyX3_ok : ∀ k, k < 13 → parseFieldDescriptor (TX3 k).2.2.1 = some (tyX3 k) := by decide +kernel
abbrev cX3_init : ByteArray := prog_1_method_1_code
def yX3_init : MethodName := ⟨RX3, "<init>", "()V"⟩
abbrev cX3_letter : ByteArray := prog_1_method_2_code
def yX3_letter : MethodName := ⟨RX3, "letter", "(I)I"⟩
abbrev cX3_blank : ByteArray := prog_1_method_3_code
def yX3_blank : MethodName := ⟨RX3, "blank", "()I"⟩
abbrev cX3_begin : ByteArray := prog_1_method_4_code
def yX3_begin : MethodName := ⟨RX3, "begin", "()I"⟩
abbrev cX3_startText : ByteArray := prog_1_method_5_code
def yX3_startText : MethodName := ⟨RX3, "startText", "([II)V"⟩
abbrev cX3_firstLetters : ByteArray := prog_1_method_6_code
def yX3_firstLetters : MethodName := ⟨RX3, "firstLetters", "(I)J"⟩
abbrev cX3_addLetter : ByteArray := prog_1_method_7_code
def yX3_addLetter : MethodName := ⟨RX3, "addLetter", "(III)V"⟩
abbrev cX3_insert : ByteArray := prog_1_method_8_code
def yX3_insert : MethodName := ⟨RX3, "insert", "(II)I"⟩
abbrev cX3_insertPage : ByteArray := prog_1_method_9_code
def yX3_insertPage : MethodName := ⟨RX3, "insertPage", "(II)I"⟩
abbrev cX3_remove : ByteArray := prog_1_method_10_code
def yX3_remove : MethodName := ⟨RX3, "remove", "(III)I"⟩
abbrev cX3_move : ByteArray := prog_1_method_11_code
def yX3_move : MethodName := ⟨RX3, "move", "(IIII)I"⟩
abbrev cX3_moveLetters : ByteArray := prog_1_method_12_code
def yX3_moveLetters : MethodName := ⟨RX3, "moveLetters", "(IIII)I"⟩
abbrev cX3_isAuthor : ByteArray := prog_1_method_13_code
def yX3_isAuthor : MethodName := ⟨RX3, "isAuthor", "(I)Z"⟩
abbrev cX3_refusalOfRange : ByteArray := prog_1_method_14_code
def yX3_refusalOfRange : MethodName := ⟨RX3, "refusalOfRange", "(III)I"⟩
abbrev cX3_placeAhead : ByteArray := prog_1_method_15_code
def yX3_placeAhead : MethodName := ⟨RX3, "placeAhead", "(II)I"⟩
abbrev cX3_show : ByteArray := prog_1_method_16_code
def yX3_show : MethodName := ⟨RX3, "show", "(IZ)I"⟩
abbrev cX3_decide : ByteArray := prog_1_method_17_code
def yX3_decide : MethodName := ⟨RX3, "decide", "(II)I"⟩
abbrev cX3_settle : ByteArray := prog_1_method_18_code
def yX3_settle : MethodName := ⟨RX3, "settle", "()I"⟩
abbrev cX3_setOf : ByteArray := prog_1_method_19_code
def yX3_setOf : MethodName := ⟨RX3, "setOf", "(I)I"⟩
abbrev cX3_thereBy : ByteArray := prog_1_method_20_code
def yX3_thereBy : MethodName := ⟨RX3, "thereBy", "(I)J"⟩
abbrev cX3_lineUp : ByteArray := prog_1_method_21_code
def yX3_lineUp : MethodName := ⟨RX3, "lineUp", "(I)I"⟩
abbrev cX3_readsAsPage : ByteArray := prog_1_method_22_code
def yX3_readsAsPage : MethodName := ⟨RX3, "readsAsPage", "(I)Z"⟩
abbrev cX3_length : ByteArray := prog_1_method_23_code
def yX3_length : MethodName := ⟨RX3, "length", "(I)I"⟩
abbrev cX3_isView : ByteArray := prog_1_method_24_code
def yX3_isView : MethodName := ⟨RX3, "isView", "(I)Z"⟩
abbrev cX3_read : ByteArray := prog_1_method_25_code
def yX3_read : MethodName := ⟨RX3, "read", "(III)I"⟩
abbrev cX3_letterFact : ByteArray := prog_1_method_26_code
def yX3_letterFact : MethodName := ⟨RX3, "letterFact", "(II)I"⟩
abbrev cX3_place : ByteArray := prog_1_method_27_code
def yX3_place : MethodName := ⟨RX3, "place", "(II)I"⟩
abbrev cX3_placeFact : ByteArray := prog_1_method_28_code
def yX3_placeFact : MethodName := ⟨RX3, "placeFact", "(II)I"⟩
abbrev cX3_markOf : ByteArray := prog_1_method_29_code
def yX3_markOf : MethodName := ⟨RX3, "markOf", "(I)I"⟩
abbrev cX3_change : ByteArray := prog_1_method_30_code
def yX3_change : MethodName := ⟨RX3, "change", "(II)I"⟩
abbrev cX3_changeFact : ByteArray := prog_1_method_31_code
def yX3_changeFact : MethodName := ⟨RX3, "changeFact", "(II)I"⟩
abbrev cX3_idleOf : ByteArray := prog_1_method_32_code
def yX3_idleOf : MethodName := ⟨RX3, "idleOf", "(I)I"⟩
abbrev cX3_span : ByteArray := prog_1_method_33_code
def yX3_span : MethodName := ⟨RX3, "span", "(II)I"⟩
abbrev cX3_cutSpans : ByteArray := prog_1_method_34_code
def yX3_cutSpans : MethodName := ⟨RX3, "cutSpans", "()V"⟩
abbrev cX3_found : ByteArray := prog_1_method_35_code
def yX3_found : MethodName := ⟨RX3, "found", "(I)I"⟩
abbrev cX3_seekPage : ByteArray := prog_1_method_36_code
def yX3_seekPage : MethodName := ⟨RX3, "seekPage", "()V"⟩
abbrev cX3_count : ByteArray := prog_1_method_37_code
def yX3_count : MethodName := ⟨RX3, "count", "(I)I"⟩
abbrev cX3_digest : ByteArray := prog_1_method_38_code
def yX3_digest : MethodName := ⟨RX3, "digest", "()J"⟩
abbrev cX3_with : ByteArray := prog_1_method_39_code
def yX3_with : MethodName := ⟨RX3, "with", "(JI)J"⟩
abbrev cX3_withView : ByteArray := prog_1_method_40_code
def yX3_withView : MethodName := ⟨RX3, "withView", "(JI)J"⟩
abbrev cX3_withPlaces : ByteArray := prog_1_method_41_code
def yX3_withPlaces : MethodName := ⟨RX3, "withPlaces", "(J)J"⟩
abbrev cX3_withChanges : ByteArray := prog_1_method_42_code
def yX3_withChanges : MethodName := ⟨RX3, "withChanges", "(J)J"⟩
abbrev cX3_withSpans : ByteArray := prog_1_method_43_code
def yX3_withSpans : MethodName := ⟨RX3, "withSpans", "(J)J"⟩
def RX4 : String := "TrackedLettersModel"
def TX4 : u_T := fun k => match k with
  | 0 => ("TrackedLettersModel", "pageLength", "I", false)
  | 1 => ("TrackedLettersModel", "page", "[I", true)
  | 2 => ("TrackedLettersModel", "letters", "I", false)
  | 3 => ("TrackedLettersModel", "sign", "[I", true)
  | 4 => ("TrackedLettersModel", "insertOf", "[I", true)
  | 5 => ("TrackedLettersModel", "homeOf", "[I", true)
  | 6 => ("TrackedLettersModel", "deletedBy", "[I", true)
  | 7 => ("TrackedLettersModel", "changes", "I", false)
  | 8 => ("TrackedLettersModel", "kindOf", "[I", true)
  | 9 => ("TrackedLettersModel", "authorOf", "[I", true)
  | 10 => ("TrackedLettersModel", "stateOf", "[I", true)
  | 11 => ("TrackedLettersModel", "isShown", "[Z", true)
  | 12 => ("TrackedLettersModel", "places", "I", false)
  | 13 => ("TrackedLettersModel", "letterOf", "[I", true)
  | 14 => ("TrackedLettersModel", "fromOf", "[I", true)
  | 15 => ("TrackedLettersModel", "byOf", "[I", true)
  | 16 => ("TrackedLettersModel", "line", "[I", true)
  | 17 => ("TrackedLettersModel", "firstOn", "[I", true)
  | 18 => ("TrackedLettersModel", "nextOn", "[I", true)
  | 19 => ("TrackedLettersModel", "begun", "I", false)
  | 20 => ("TrackedLettersModel", "settled", "I", false)
  | 21 => ("TrackedLettersModel", "reads", "I", false)
  | 22 => ("TrackedLettersModel", "readAt", "[I", true)
  | 23 => ("TrackedLettersModel", "isStood", "[Z", true)
  | 24 => ("TrackedLettersModel", "kept", "[I", true)
  | 25 => ("TrackedLettersModel", "spans", "I", false)
  | 26 => ("TrackedLettersModel", "spanMark", "[I", true)
  | 27 => ("TrackedLettersModel", "spanMany", "[I", true)
  | 28 => ("TrackedLettersModel", "spanFirst", "[I", true)
  | 29 => ("TrackedLettersModel", "sets", "I", false)
  | 30 => ("TrackedLettersModel", "best", "I", false)
  | _ => ("TrackedLettersModel", "h", "J", false)
def tyX4 : Nat → FieldType := fun k => match k with
  | 0 => .int
  | 1 => .array .int
  | 2 => .int
  | 3 => .array .int
  | 4 => .array .int
  | 5 => .array .int
  | 6 => .array .int
  | 7 => .int
  | 8 => .array .int
  | 9 => .array .int
  | 10 => .array .int
  | 11 => .array .boolean
  | 12 => .int
  | 13 => .array .int
  | 14 => .array .int
  | 15 => .array .int
  | 16 => .array .int
  | 17 => .array .int
  | 18 => .array .int
  | 19 => .int
  | 20 => .int
  | 21 => .int
  | 22 => .array .int
  | 23 => .array .boolean
  | 24 => .array .int
  | 25 => .int
  | 26 => .array .int
  | 27 => .array .int
  | 28 => .array .int
  | 29 => .int
  | 30 => .int
  | _ => .long
abbrev wsX40 : List Cond := u_ws RX4 TX4 32
theorem nmX4 : ∀ a, a < 32 → ∀ b, b < 32 → a ≠ b → (TX4 a).2.1 ≠ (TX4 b).2.1 := by decide +kernel
theorem tyX4_ok : ∀ k, k < 32 → parseFieldDescriptor (TX4 k).2.2.1 = some (tyX4 k) := by decide +kernel
abbrev cX4_init : ByteArray := prog_6_method_1_code
def yX4_init : MethodName := ⟨RX4, "<init>", "()V"⟩
abbrev cX4_within : ByteArray := prog_6_method_3_code
def yX4_within : MethodName := ⟨RX4, "within", "(III)Z"⟩
abbrev cX4_has : ByteArray := prog_6_method_4_code
def yX4_has : MethodName := ⟨RX4, "has", "(II)Z"⟩
abbrev cX4_letter : ByteArray := prog_6_method_5_code
def yX4_letter : MethodName := ⟨RX4, "letter", "(I)I"⟩
abbrev cX4_blank : ByteArray := prog_6_method_6_code
def yX4_blank : MethodName := ⟨RX4, "blank", "()I"⟩
abbrev cX4_comes : ByteArray := prog_6_method_7_code
def yX4_comes : MethodName := ⟨RX4, "comes", "(III)V"⟩
abbrev cX4_layPlace : ByteArray := prog_6_method_8_code
def yX4_layPlace : MethodName := ⟨RX4, "layPlace", "(IIII)V"⟩
abbrev cX4_layOn : ByteArray := prog_6_method_9_code
def yX4_layOn : MethodName := ⟨RX4, "layOn", "(II)V"⟩
abbrev cX4_begin : ByteArray := prog_6_method_10_code
def yX4_begin : MethodName := ⟨RX4, "begin", "()I"⟩
abbrev cX4_setOf : ByteArray := prog_6_method_11_code
def yX4_setOf : MethodName := ⟨RX4, "setOf", "(I)I"⟩
abbrev cX4_isThere : ByteArray := prog_6_method_12_code
def yX4_isThere : MethodName := ⟨RX4, "isThere", "(II)Z"⟩
abbrev cX4_leadsOn : ByteArray := prog_6_method_13_code
def yX4_leadsOn : MethodName := ⟨RX4, "leadsOn", "(II)I"⟩
abbrev cX4_standsAt : ByteArray := prog_6_method_14_code
def yX4_standsAt : MethodName := ⟨RX4, "standsAt", "(II)I"⟩
abbrev cX4_layRead : ByteArray := prog_6_method_15_code
def yX4_layRead : MethodName := ⟨RX4, "layRead", "(I)V"⟩
abbrev cX4_inLine : ByteArray := prog_6_method_16_code
def yX4_inLine : MethodName := ⟨RX4, "inLine", "(I)I"⟩
abbrev cX4_isAuthor : ByteArray := prog_6_method_17_code
def yX4_isAuthor : MethodName := ⟨RX4, "isAuthor", "(I)Z"⟩
abbrev cX4_layChange : ByteArray := prog_6_method_18_code
def yX4_layChange : MethodName := ⟨RX4, "layChange", "(II)I"⟩
abbrev cX4_ahead : ByteArray := prog_6_method_19_code
def yX4_ahead : MethodName := ⟨RX4, "ahead", "(I)I"⟩
abbrev cX4_insert : ByteArray := prog_6_method_20_code
def yX4_insert : MethodName := ⟨RX4, "insert", "(II)I"⟩
abbrev cX4_remove : ByteArray := prog_6_method_21_code
def yX4_remove : MethodName := ⟨RX4, "remove", "(III)I"⟩
abbrev cX4_move : ByteArray := prog_6_method_22_code
def yX4_move : MethodName := ⟨RX4, "move", "(IIII)I"⟩
abbrev cX4_isChange : ByteArray := prog_6_method_23_code
def yX4_isChange : MethodName := ⟨RX4, "isChange", "(I)Z"⟩
abbrev cX4_show : ByteArray := prog_6_method_24_code
def yX4_show : MethodName := ⟨RX4, "show", "(IZ)I"⟩
abbrev cX4_decide : ByteArray := prog_6_method_25_code
def yX4_decide : MethodName := ⟨RX4, "decide", "(II)I"⟩
abbrev cX4_inState : ByteArray := prog_6_method_26_code
def yX4_inState : MethodName := ⟨RX4, "inState", "(I)I"⟩
abbrev cX4_settle : ByteArray := prog_6_method_27_code
def yX4_settle : MethodName := ⟨RX4, "settle", "()I"⟩
abbrev cX4_isView : ByteArray := prog_6_method_28_code
def yX4_isView : MethodName := ⟨RX4, "isView", "(I)Z"⟩
abbrev cX4_lengthOf : ByteArray := prog_6_method_29_code
def yX4_lengthOf : MethodName := ⟨RX4, "lengthOf", "(I)I"⟩
abbrev cX4_length : ByteArray := prog_6_method_30_code
def yX4_length : MethodName := ⟨RX4, "length", "(I)I"⟩
abbrev cX4_ones : ByteArray := prog_6_method_31_code
def yX4_ones : MethodName := ⟨RX4, "ones", "(I)I"⟩
abbrev cX4_movedBy : ByteArray := prog_6_method_32_code
def yX4_movedBy : MethodName := ⟨RX4, "movedBy", "(I)I"⟩
abbrev cX4_readNow : ByteArray := prog_6_method_33_code
def yX4_readNow : MethodName := ⟨RX4, "readNow", "(II)I"⟩
abbrev cX4_read : ByteArray := prog_6_method_34_code
def yX4_read : MethodName := ⟨RX4, "read", "(III)I"⟩
abbrev cX4_isAt : ByteArray := prog_6_method_35_code
def yX4_isAt : MethodName := ⟨RX4, "isAt", "(II)Z"⟩
abbrev cX4_markOf : ByteArray := prog_6_method_36_code
def yX4_markOf : MethodName := ⟨RX4, "markOf", "(I)I"⟩
abbrev cX4_placeNow : ByteArray := prog_6_method_37_code
def yX4_placeNow : MethodName := ⟨RX4, "placeNow", "(II)I"⟩
abbrev cX4_place : ByteArray := prog_6_method_38_code
def yX4_place : MethodName := ⟨RX4, "place", "(II)I"⟩
abbrev cX4_isTouched : ByteArray := prog_6_method_39_code
def yX4_isTouched : MethodName := ⟨RX4, "isTouched", "(II)Z"⟩
abbrev cX4_isIdle : ByteArray := prog_6_method_40_code
def yX4_isIdle : MethodName := ⟨RX4, "isIdle", "(II)Z"⟩
abbrev cX4_touchedBy : ByteArray := prog_6_method_41_code
def yX4_touchedBy : MethodName := ⟨RX4, "touchedBy", "(IZ)I"⟩
abbrev cX4_leansOn : ByteArray := prog_6_method_42_code
def yX4_leansOn : MethodName := ⟨RX4, "leansOn", "(I)I"⟩
abbrev cX4_changeNow : ByteArray := prog_6_method_43_code
def yX4_changeNow : MethodName := ⟨RX4, "changeNow", "(II)I"⟩
abbrev cX4_change : ByteArray := prog_6_method_44_code
def yX4_change : MethodName := ⟨RX4, "change", "(II)I"⟩
abbrev cX4_laySpans : ByteArray := prog_6_method_45_code
def yX4_laySpans : MethodName := ⟨RX4, "laySpans", "()V"⟩
abbrev cX4_span : ByteArray := prog_6_method_46_code
def yX4_span : MethodName := ⟨RX4, "span", "(II)I"⟩
abbrev cX4_readsAsPage : ByteArray := prog_6_method_47_code
def yX4_readsAsPage : MethodName := ⟨RX4, "readsAsPage", "(I)Z"⟩
abbrev cX4_layFound : ByteArray := prog_6_method_48_code
def yX4_layFound : MethodName := ⟨RX4, "layFound", "()V"⟩
abbrev cX4_found : ByteArray := prog_6_method_49_code
def yX4_found : MethodName := ⟨RX4, "found", "(I)I"⟩
abbrev cX4_openFrom : ByteArray := prog_6_method_50_code
def yX4_openFrom : MethodName := ⟨RX4, "openFrom", "(II)I"⟩
abbrev cX4_isTorn : ByteArray := prog_6_method_51_code
def yX4_isTorn : MethodName := ⟨RX4, "isTorn", "(I)Z"⟩
abbrev cX4_tornMany : ByteArray := prog_6_method_52_code
def yX4_tornMany : MethodName := ⟨RX4, "tornMany", "()I"⟩
abbrev cX4_howMany : ByteArray := prog_6_method_53_code
def yX4_howMany : MethodName := ⟨RX4, "howMany", "(I)I"⟩
abbrev cX4_count : ByteArray := prog_6_method_54_code
def yX4_count : MethodName := ⟨RX4, "count", "(I)I"⟩
abbrev cX4_mix : ByteArray := prog_6_method_55_code
def yX4_mix : MethodName := ⟨RX4, "mix", "(J)V"⟩
abbrev cX4_mixView : ByteArray := prog_6_method_56_code
def yX4_mixView : MethodName := ⟨RX4, "mixView", "(I)V"⟩
abbrev cX4_mixSpans : ByteArray := prog_6_method_57_code
def yX4_mixSpans : MethodName := ⟨RX4, "mixSpans", "()V"⟩
abbrev cX4_digest : ByteArray := prog_6_method_58_code
def yX4_digest : MethodName := ⟨RX4, "digest", "()J"⟩
def RJ6 : String := "java/lang/Integer"
def TJ6 : u_T := fun k => match k with
  | _ => ("", "", "", false)
def tyJ6 : Nat → FieldType := fun k => match k with
  | _ => .int
abbrev wsJ60 : List Cond := u_ws RJ6 TJ6 0
theorem nmJ6 : ∀ a, a < 0 → ∀ b, b < 0 → a ≠ b → (TJ6 a).2.1 ≠ (TJ6 b).2.1 := by decide +kernel
theorem tyJ6_ok : ∀ k, k < 0 → parseFieldDescriptor (TJ6 k).2.2.1 = some (tyJ6 k) := by decide +kernel
abbrev cJ6_bitCount_0f7a4 : ByteArray := prog_7_method_49_code
def yJ6_bitCount_0f7a4 : MethodName := ⟨RJ6, "bitCount", "(I)I"⟩
def RJ13 : String := "java/lang/Long"
def TJ13 : u_T := fun k => match k with
  | _ => ("", "", "", false)
def tyJ13 : Nat → FieldType := fun k => match k with
  | _ => .int
abbrev wsJ130 : List Cond := u_ws RJ13 TJ13 0
theorem nmJ13 : ∀ a, a < 0 → ∀ b, b < 0 → a ≠ b → (TJ13 a).2.1 ≠ (TJ13 b).2.1 := by decide +kernel
theorem tyJ13_ok : ∀ k, k < 0 → parseFieldDescriptor (TJ13 k).2.2.1 = some (tyJ13 k) := by decide +kernel
abbrev cJ13_bitCount_95d88 : ByteArray := prog_8_method_50_code
def yJ13_bitCount_95d88 : MethodName := ⟨RJ13, "bitCount", "(J)I"⟩
def RL : String := "TrackedLettersLaw"
abbrev cL_law : ByteArray := code
def yL_law : MethodName := ⟨RL, "law", "([I)Z"⟩
def wsL_law_r1 : List Cond := [Cond.classLink RL 7 RX3, Cond.instantiable RX3 13, Cond.initialized RX3, Cond.classLink RL 10 RX4, Cond.instantiable RX4 32, Cond.initialized RX4, Cond.methodLink RL 9 yX3_init, Cond.instanceMethod yX3_init, Cond.code yX3_init cX3_init 1 none, Cond.methodLink RX3 1 objectInit, Cond.instanceMethod objectInit, Cond.code objectInit ⟨#[0xb1]⟩ 1 none, Cond.arrayClass .int, Cond.fieldLink RX3 9 "TrackedLetters" "page" "[I", Cond.fieldLink RX3 13 "TrackedLetters" "pageSize" "I", Cond.fieldLink RX3 17 "TrackedLetters" "codeOf" "[I", Cond.fieldLink RX3 20 "TrackedLetters" "letters" "I", Cond.fieldLink RX3 23 "TrackedLetters" "firstText" "J", Cond.classLink RX3 27 RX1, Cond.instantiable RX1 5, Cond.initialized RX1, Cond.fieldLink RX3 30 "TrackedLetters" "line" "LTrackedLetters$Line;", Cond.classLink RX3 34 RX0, Cond.instantiable RX0 6]
def wsL_law_r2 : List Cond := [Cond.initialized RX0, Cond.fieldLink RX3 37 "TrackedLetters" "changes" "LTrackedLetters$Changes;", Cond.classLink RX3 41 RX2, Cond.instantiable RX2 4, Cond.initialized RX2, Cond.fieldLink RX3 44 "TrackedLetters" "spans" "LTrackedLetters$Spans;", Cond.fieldLink RX3 48 "TrackedLetters" "row" "[I", Cond.fieldLink RX3 51 "TrackedLetters" "foundSets" "I", Cond.fieldLink RX3 54 "TrackedLetters" "foundLeast" "I", Cond.fieldLink RX3 57 "TrackedLetters" "begun" "I", Cond.fieldLink RX3 60 "TrackedLetters" "settled" "I", Cond.instanceMethod yX1_init, Cond.code yX1_init cX1_init 1 none, Cond.methodLink RX1 3 objectInit, Cond.fieldLink RX1 9 "TrackedLetters$Line" "letterOf" "[I", Cond.fieldLink RX1 15 "TrackedLetters$Line" "fromOf" "[I", Cond.fieldLink RX1 18 "TrackedLetters$Line" "byOf" "[I", Cond.fieldLink RX1 21 "TrackedLetters$Line" "onwardOf" "[I", Cond.fieldLink RX1 24 "TrackedLetters$Line" "size" "I", Cond.instanceMethod yX0_init, Cond.code yX0_init cX0_init 1 none, Cond.methodLink RX0 3 objectInit, Cond.fieldLink RX0 9 "TrackedLetters$Changes" "kindOf" "[I", Cond.fieldLink RX0 15 "TrackedLetters$Changes" "authorOf" "[I"]
def wsL_law_r3 : List Cond := [Cond.fieldLink RX0 18 "TrackedLetters$Changes" "statusOf" "[I", Cond.fieldLink RX0 21 "TrackedLetters$Changes" "shownOf" "[I", Cond.arrayClass .long, Cond.fieldLink RX0 24 "TrackedLetters$Changes" "touchedBy" "[J", Cond.fieldLink RX0 28 "TrackedLetters$Changes" "size" "I", Cond.instanceMethod yX2_init, Cond.code yX2_init cX2_init 1 none, Cond.methodLink RX2 3 objectInit, Cond.fieldLink RX2 9 "TrackedLetters$Spans" "markOf" "[I", Cond.fieldLink RX2 15 "TrackedLetters$Spans" "placesOf" "[I", Cond.fieldLink RX2 18 "TrackedLetters$Spans" "startOf" "[I", Cond.fieldLink RX2 21 "TrackedLetters$Spans" "size" "I", Cond.methodLink RL 12 yX4_init, Cond.instanceMethod yX4_init, Cond.code yX4_init cX4_init 1 none, Cond.methodLink RX4 1 objectInit, Cond.fieldLink RX4 7 "TrackedLettersModel" "page" "[I", Cond.fieldLink RX4 13 "TrackedLettersModel" "sign" "[I", Cond.fieldLink RX4 16 "TrackedLettersModel" "insertOf" "[I", Cond.fieldLink RX4 19 "TrackedLettersModel" "homeOf" "[I", Cond.fieldLink RX4 22 "TrackedLettersModel" "deletedBy" "[I", Cond.fieldLink RX4 25 "TrackedLettersModel" "kindOf" "[I", Cond.fieldLink RX4 28 "TrackedLettersModel" "authorOf" "[I", Cond.fieldLink RX4 31 "TrackedLettersModel" "stateOf" "[I"]
def wsL_law_r4 : List Cond := [Cond.arrayClass .boolean, Cond.fieldLink RX4 34 "TrackedLettersModel" "isShown" "[Z", Cond.fieldLink RX4 38 "TrackedLettersModel" "letterOf" "[I", Cond.fieldLink RX4 41 "TrackedLettersModel" "fromOf" "[I", Cond.fieldLink RX4 44 "TrackedLettersModel" "byOf" "[I", Cond.fieldLink RX4 47 "TrackedLettersModel" "line" "[I", Cond.fieldLink RX4 50 "TrackedLettersModel" "firstOn" "[I", Cond.fieldLink RX4 53 "TrackedLettersModel" "nextOn" "[I", Cond.fieldLink RX4 56 "TrackedLettersModel" "readAt" "[I", Cond.fieldLink RX4 59 "TrackedLettersModel" "isStood" "[Z", Cond.fieldLink RX4 62 "TrackedLettersModel" "kept" "[I", Cond.fieldLink RX4 65 "TrackedLettersModel" "spanMark" "[I", Cond.fieldLink RX4 68 "TrackedLettersModel" "spanMany" "[I", Cond.fieldLink RX4 71 "TrackedLettersModel" "spanFirst" "[I", Cond.methodLink RL 13 yX3_letter, Cond.instanceMethod yX3_letter, Cond.selects RX3 yX3_letter yX3_letter, Cond.code yX3_letter cX3_letter 2 (some .int), Cond.methodLink RL 17 yX4_letter, Cond.instanceMethod yX4_letter, Cond.selects RX4 yX4_letter yX4_letter, Cond.code yX4_letter cX4_letter 2 (some .int), Cond.fieldLink RX4 78 "TrackedLettersModel" "pageLength" "I", Cond.methodLink RX4 74 yX4_within]
def wsL_law_r5 : List Cond := [Cond.static yX4_within, Cond.code yX4_within cX4_within 3 (some .boolean), Cond.methodLink RL 18 yX3_blank, Cond.instanceMethod yX3_blank, Cond.selects RX3 yX3_blank yX3_blank, Cond.code yX3_blank cX3_blank 2 (some .int), Cond.methodLink RL 22 yX4_blank, Cond.instanceMethod yX4_blank, Cond.selects RX4 yX4_blank yX4_blank, Cond.code yX4_blank cX4_blank 2 (some .int), Cond.methodLink RL 23 yX3_begin, Cond.instanceMethod yX3_begin, Cond.selects RX3 yX3_begin yX3_begin, Cond.code yX3_begin cX3_begin 1 (some .int), Cond.methodLink RX3 63 yX3_startText, Cond.instanceMethod yX3_startText, Cond.selects RX3 yX3_startText yX3_startText, Cond.code yX3_startText cX3_startText 4 none, Cond.fieldLink RX3 67 "TrackedLetters$Line" "size" "I", Cond.fieldLink RX3 70 "TrackedLetters$Changes" "size" "I", Cond.methodLink RX3 71 yX3_addLetter, Cond.instanceMethod yX3_addLetter, Cond.selects RX3 yX3_addLetter yX3_addLetter, Cond.code yX3_addLetter cX3_addLetter 4 none]
def wsL_law_r6 : List Cond := [Cond.methodLink RX3 81 yX1_openGap, Cond.instanceMethod yX1_openGap, Cond.selects RX1 yX1_openGap yX1_openGap, Cond.code yX1_openGap cX1_openGap 4 none, Cond.methodLink RX3 85 yX1_put, Cond.instanceMethod yX1_put, Cond.selects RX1 yX1_put yX1_put, Cond.code yX1_put cX1_put 5 none, Cond.methodLink RX3 75 yX3_firstLetters, Cond.static yX3_firstLetters, Cond.code yX3_firstLetters cX3_firstLetters 1 (some .long), Cond.constantLong RX3 79 (-1), Cond.methodLink RL 26 yX4_begin, Cond.instanceMethod yX4_begin, Cond.selects RX4 yX4_begin yX4_begin, Cond.code yX4_begin cX4_begin 2 (some .int), Cond.fieldLink RX4 82 "TrackedLettersModel" "letters" "I", Cond.fieldLink RX4 85 "TrackedLettersModel" "places" "I", Cond.fieldLink RX4 96 "TrackedLettersModel" "changes" "I", Cond.fieldLink RX4 103 "TrackedLettersModel" "begun" "I", Cond.methodLink RX4 99 yX4_comes, Cond.instanceMethod yX4_comes, Cond.selects RX4 yX4_comes yX4_comes, Cond.code yX4_comes cX4_comes 4 none]
def wsL_law_r7 : List Cond := [Cond.methodLink RX4 88 yX4_layPlace, Cond.instanceMethod yX4_layPlace, Cond.selects RX4 yX4_layPlace yX4_layPlace, Cond.code yX4_layPlace cX4_layPlace 6 none, Cond.methodLink RX4 92 yX4_layOn, Cond.instanceMethod yX4_layOn, Cond.selects RX4 yX4_layOn yX4_layOn, Cond.code yX4_layOn cX4_layOn 4 none, Cond.methodLink RL 27 yX3_insert, Cond.instanceMethod yX3_insert, Cond.selects RX3 yX3_insert yX3_insert, Cond.code yX3_insert cX3_insert 4 (some .int), Cond.methodLink RX3 89 yX3_isAuthor, Cond.static yX3_isAuthor, Cond.code yX3_isAuthor cX3_isAuthor 1 (some .boolean), Cond.methodLink RX3 93 yX3_setOf, Cond.instanceMethod yX3_setOf, Cond.selects RX3 yX3_setOf yX3_setOf, Cond.code yX3_setOf cX3_setOf 4 (some .int), Cond.methodLink RX3 137 yX0_inStatus, Cond.instanceMethod yX0_inStatus, Cond.selects RX0 yX0_inStatus yX0_inStatus, Cond.code yX0_inStatus cX0_inStatus 4 (some .int), Cond.methodLink RX3 140 yX0_seenBy]
def wsL_law_r8 : List Cond := [Cond.instanceMethod yX0_seenBy, Cond.selects RX0 yX0_seenBy yX0_seenBy, Cond.code yX0_seenBy cX0_seenBy 4 (some .int), Cond.methodLink RX3 97 yX3_lineUp, Cond.instanceMethod yX3_lineUp, Cond.selects RX3 yX3_lineUp yX3_lineUp, Cond.code yX3_lineUp cX3_lineUp 6 (some .int), Cond.methodLink RX3 150 yX3_thereBy, Cond.instanceMethod yX3_thereBy, Cond.selects RX3 yX3_thereBy yX3_thereBy, Cond.code yX3_thereBy cX3_thereBy 7 (some .long), Cond.fieldLink RX3 143 "TrackedLetters$Changes" "kindOf" "[I", Cond.fieldLink RX3 146 "TrackedLetters$Changes" "touchedBy" "[J", Cond.methodLink RX3 153 yX1_holds, Cond.instanceMethod yX1_holds, Cond.selects RX1 yX1_holds yX1_holds, Cond.code yX1_holds cX1_holds 5 (some .boolean), Cond.methodLink RX1 28 yX1_leadsTo, Cond.instanceMethod yX1_leadsTo, Cond.selects RX1 yX1_leadsTo yX1_leadsTo, Cond.code yX1_leadsTo cX1_leadsTo 6 (some .boolean), Cond.methodLink RX3 100 yX0_isFull, Cond.instanceMethod yX0_isFull, Cond.selects RX0 yX0_isFull yX0_isFull]
def wsL_law_r9 : List Cond := [Cond.code yX0_isFull cX0_isFull 1 (some .boolean), Cond.methodLink RX3 104 yX3_placeAhead, Cond.instanceMethod yX3_placeAhead, Cond.selects RX3 yX3_placeAhead yX3_placeAhead, Cond.code yX3_placeAhead cX3_placeAhead 3 (some .int), Cond.methodLink RX3 108 yX3_insertPage, Cond.instanceMethod yX3_insertPage, Cond.selects RX3 yX3_insertPage yX3_insertPage, Cond.code yX3_insertPage cX3_insertPage 5 (some .int), Cond.methodLink RX3 111 yX0_add, Cond.instanceMethod yX0_add, Cond.selects RX0 yX0_add yX0_add, Cond.code yX0_add cX0_add 4 (some .int), Cond.methodLink RX3 114 yX0_touch, Cond.instanceMethod yX0_touch, Cond.selects RX0 yX0_touch yX0_touch, Cond.code yX0_touch cX0_touch 3 none, Cond.methodLink RL 31 yX4_insert, Cond.instanceMethod yX4_insert, Cond.selects RX4 yX4_insert yX4_insert, Cond.code yX4_insert cX4_insert 6 (some .int), Cond.fieldLink RX4 120 "TrackedLettersModel" "reads" "I", Cond.methodLink RX4 127 yX4_isAuthor, Cond.static yX4_isAuthor]
def wsL_law_r10 : List Cond := [Cond.code yX4_isAuthor cX4_isAuthor 1 (some .boolean), Cond.methodLink RX4 131 yX4_setOf, Cond.instanceMethod yX4_setOf, Cond.selects RX4 yX4_setOf yX4_setOf, Cond.code yX4_setOf cX4_setOf 5 (some .int), Cond.methodLink RX4 134 yX4_layRead, Cond.instanceMethod yX4_layRead, Cond.selects RX4 yX4_layRead yX4_layRead, Cond.code yX4_layRead cX4_layRead 3 none, Cond.methodLink RX4 114 yX4_isThere, Cond.instanceMethod yX4_isThere, Cond.selects RX4 yX4_isThere yX4_isThere, Cond.code yX4_isThere cX4_isThere 4 (some .boolean), Cond.methodLink RX4 106 yX4_has, Cond.static yX4_has, Cond.code yX4_has cX4_has 2 (some .boolean), Cond.methodLink RX4 117 yX4_standsAt, Cond.instanceMethod yX4_standsAt, Cond.selects RX4 yX4_standsAt yX4_standsAt, Cond.code yX4_standsAt cX4_standsAt 5 (some .int), Cond.methodLink RX4 110 yX4_leadsOn, Cond.instanceMethod yX4_leadsOn, Cond.selects RX4 yX4_leadsOn yX4_leadsOn, Cond.code yX4_leadsOn cX4_leadsOn 4 (some .int)]
def wsL_law_r11 : List Cond := [Cond.methodLink RX4 138 yX4_ahead, Cond.instanceMethod yX4_ahead, Cond.selects RX4 yX4_ahead yX4_ahead, Cond.code yX4_ahead cX4_ahead 2 (some .int), Cond.methodLink RX4 123 yX4_inLine, Cond.instanceMethod yX4_inLine, Cond.selects RX4 yX4_inLine yX4_inLine, Cond.code yX4_inLine cX4_inLine 3 (some .int), Cond.methodLink RX4 141 yX4_layChange, Cond.instanceMethod yX4_layChange, Cond.selects RX4 yX4_layChange yX4_layChange, Cond.code yX4_layChange cX4_layChange 3 (some .int), Cond.methodLink RL 32 yX3_remove, Cond.instanceMethod yX3_remove, Cond.selects RX3 yX3_remove yX3_remove, Cond.code yX3_remove cX3_remove 8 (some .int), Cond.fieldLink RX3 121 "TrackedLetters$Line" "letterOf" "[I", Cond.methodLink RX3 117 yX3_refusalOfRange, Cond.static yX3_refusalOfRange, Cond.code yX3_refusalOfRange cX3_refusalOfRange 3 (some .int), Cond.methodLink RL 36 yX4_remove, Cond.instanceMethod yX4_remove, Cond.selects RX4 yX4_remove yX4_remove, Cond.code yX4_remove cX4_remove 6 (some .int)]
def wsL_law_r12 : List Cond := [Cond.methodLink RL 37 yX3_move, Cond.instanceMethod yX3_move, Cond.selects RX3 yX3_move yX3_move, Cond.code yX3_move cX3_move 7 (some .int), Cond.methodLink RX3 124 yX3_moveLetters, Cond.instanceMethod yX3_moveLetters, Cond.selects RX3 yX3_moveLetters yX3_moveLetters, Cond.code yX3_moveLetters cX3_moveLetters 8 (some .int), Cond.methodLink RL 41 yX4_move, Cond.instanceMethod yX4_move, Cond.selects RX4 yX4_move yX4_move, Cond.code yX4_move cX4_move 8 (some .int), Cond.methodLink RL 42 yX3_show, Cond.instanceMethod yX3_show, Cond.selects RX3 yX3_show yX3_show, Cond.code yX3_show cX3_show 4 (some .int), Cond.fieldLink RX3 131 "TrackedLetters$Changes" "shownOf" "[I", Cond.methodLink RX3 128 yX0_names, Cond.instanceMethod yX0_names, Cond.selects RX0 yX0_names yX0_names, Cond.code yX0_names cX0_names 2 (some .boolean), Cond.methodLink RL 46 yX4_show, Cond.instanceMethod yX4_show, Cond.selects RX4 yX4_show yX4_show]
def wsL_law_r13 : List Cond := [Cond.code yX4_show cX4_show 4 (some .int), Cond.methodLink RX4 144 yX4_isChange, Cond.instanceMethod yX4_isChange, Cond.selects RX4 yX4_isChange yX4_isChange, Cond.code yX4_isChange cX4_isChange 2 (some .boolean), Cond.methodLink RL 47 yX3_decide, Cond.instanceMethod yX3_decide, Cond.selects RX3 yX3_decide yX3_decide, Cond.code yX3_decide cX3_decide 4 (some .int), Cond.fieldLink RX3 134 "TrackedLetters$Changes" "statusOf" "[I", Cond.methodLink RL 50 yX4_decide, Cond.instanceMethod yX4_decide, Cond.selects RX4 yX4_decide yX4_decide, Cond.code yX4_decide cX4_decide 4 (some .int), Cond.methodLink RL 51 yX3_settle, Cond.instanceMethod yX3_settle, Cond.selects RX3 yX3_settle yX3_settle, Cond.code yX3_settle cX3_settle 3 (some .int), Cond.methodLink RL 54 yX4_settle, Cond.instanceMethod yX4_settle, Cond.selects RX4 yX4_settle yX4_settle, Cond.code yX4_settle cX4_settle 2 (some .int), Cond.fieldLink RX4 150 "TrackedLettersModel" "settled" "I", Cond.methodLink RX4 147 yX4_inState]
def wsL_law_r14 : List Cond := [Cond.instanceMethod yX4_inState, Cond.selects RX4 yX4_inState yX4_inState, Cond.code yX4_inState cX4_inState 4 (some .int), Cond.methodLink RL 55 yX3_length, Cond.instanceMethod yX3_length, Cond.selects RX3 yX3_length yX3_length, Cond.code yX3_length cX3_length 2 (some .int), Cond.methodLink RX3 163 yX3_isView, Cond.static yX3_isView, Cond.code yX3_isView cX3_isView 1 (some .boolean), Cond.methodLink RL 58 yX4_length, Cond.instanceMethod yX4_length, Cond.selects RX4 yX4_length yX4_length, Cond.code yX4_length cX4_length 2 (some .int), Cond.methodLink RX4 153 yX4_isView, Cond.static yX4_isView, Cond.code yX4_isView cX4_isView 1 (some .boolean), Cond.methodLink RX4 156 yX4_lengthOf, Cond.instanceMethod yX4_lengthOf, Cond.selects RX4 yX4_lengthOf yX4_lengthOf, Cond.code yX4_lengthOf cX4_lengthOf 2 (some .int), Cond.methodLink RL 59 yX3_read, Cond.instanceMethod yX3_read, Cond.selects RX3 yX3_read yX3_read]
def wsL_law_r15 : List Cond := [Cond.code yX3_read cX3_read 5 (some .int), Cond.methodLink RX3 166 yX3_letterFact, Cond.instanceMethod yX3_letterFact, Cond.selects RX3 yX3_letterFact yX3_letterFact, Cond.code yX3_letterFact cX3_letterFact 4 (some .int), Cond.fieldLink RX3 169 "TrackedLetters$Line" "byOf" "[I", Cond.methodLink RX3 172 yX0_openOnes, Cond.instanceMethod yX0_openOnes, Cond.selects RX0 yX0_openOnes yX0_openOnes, Cond.code yX0_openOnes cX0_openOnes 5 (some .int), Cond.methodLink RL 62 yX4_read, Cond.instanceMethod yX4_read, Cond.selects RX4 yX4_read yX4_read, Cond.code yX4_read cX4_read 4 (some .int), Cond.methodLink RX4 165 yX4_readNow, Cond.instanceMethod yX4_readNow, Cond.selects RX4 yX4_readNow yX4_readNow, Cond.code yX4_readNow cX4_readNow 4 (some .int), Cond.methodLink RX4 159 yX4_ones, Cond.static yX4_ones, Cond.code yX4_ones cX4_ones 3 (some .int), Cond.methodLink RX4 162 yX4_movedBy, Cond.instanceMethod yX4_movedBy, Cond.selects RX4 yX4_movedBy yX4_movedBy]
def wsL_law_r16 : List Cond := [Cond.code yX4_movedBy cX4_movedBy 4 (some .int), Cond.methodLink RL 63 yX3_place, Cond.instanceMethod yX3_place, Cond.selects RX3 yX3_place yX3_place, Cond.code yX3_place cX3_place 3 (some .int), Cond.methodLink RX3 175 yX3_placeFact, Cond.instanceMethod yX3_placeFact, Cond.selects RX3 yX3_placeFact yX3_placeFact, Cond.code yX3_placeFact cX3_placeFact 3 (some .int), Cond.fieldLink RX3 178 "TrackedLetters$Line" "fromOf" "[I", Cond.methodLink RX3 181 yX3_markOf, Cond.instanceMethod yX3_markOf, Cond.selects RX3 yX3_markOf yX3_markOf, Cond.code yX3_markOf cX3_markOf 6 (some .int), Cond.methodLink RL 66 yX4_place, Cond.instanceMethod yX4_place, Cond.selects RX4 yX4_place yX4_place, Cond.code yX4_place cX4_place 3 (some .int), Cond.methodLink RX4 174 yX4_placeNow, Cond.instanceMethod yX4_placeNow, Cond.selects RX4 yX4_placeNow yX4_placeNow, Cond.code yX4_placeNow cX4_placeNow 3 (some .int), Cond.methodLink RX4 171 yX4_markOf, Cond.instanceMethod yX4_markOf]
def wsL_law_r17 : List Cond := [Cond.selects RX4 yX4_markOf yX4_markOf, Cond.code yX4_markOf cX4_markOf 4 (some .int), Cond.methodLink RX4 168 yX4_isAt, Cond.instanceMethod yX4_isAt, Cond.selects RX4 yX4_isAt yX4_isAt, Cond.code yX4_isAt cX4_isAt 4 (some .boolean), Cond.methodLink RL 67 yX3_change, Cond.instanceMethod yX3_change, Cond.selects RX3 yX3_change yX3_change, Cond.code yX3_change cX3_change 3 (some .int), Cond.methodLink RX3 184 yX3_changeFact, Cond.instanceMethod yX3_changeFact, Cond.selects RX3 yX3_changeFact yX3_changeFact, Cond.code yX3_changeFact cX3_changeFact 3 (some .int), Cond.fieldLink RX3 187 "TrackedLetters$Changes" "authorOf" "[I", Cond.methodLink RX3 157 yJ13_bitCount_95d88, Cond.static yJ13_bitCount_95d88, Cond.initialized RJ13, Cond.code yJ13_bitCount_95d88 cJ13_bitCount_95d88 2 (some .int), Cond.constantLong RJ13 314 (6148914691236517205), Cond.constantLong RJ13 316 (3689348814741910323), Cond.constantLong RJ13 318 (1085102592571150095), Cond.methodLink RX3 190 yX3_idleOf, Cond.instanceMethod yX3_idleOf]
def wsL_law_r18 : List Cond := [Cond.selects RX3 yX3_idleOf yX3_idleOf, Cond.code yX3_idleOf cX3_idleOf 12 (some .int), Cond.methodLink RX3 193 yX0_insertsUnder, Cond.instanceMethod yX0_insertsUnder, Cond.selects RX0 yX0_insertsUnder yX0_insertsUnder, Cond.code yX0_insertsUnder cX0_insertsUnder 4 (some .int), Cond.methodLink RX3 196 yX1_leadersUnder, Cond.instanceMethod yX1_leadersUnder, Cond.selects RX1 yX1_leadersUnder yX1_leadersUnder, Cond.code yX1_leadersUnder cX1_leadersUnder 4 (some .int), Cond.methodLink RL 70 yX4_change, Cond.instanceMethod yX4_change, Cond.selects RX4 yX4_change yX4_change, Cond.code yX4_change cX4_change 3 (some .int), Cond.methodLink RX4 190 yX4_changeNow, Cond.instanceMethod yX4_changeNow, Cond.selects RX4 yX4_changeNow yX4_changeNow, Cond.code yX4_changeNow cX4_changeNow 3 (some .int), Cond.methodLink RX4 183 yX4_touchedBy, Cond.instanceMethod yX4_touchedBy, Cond.selects RX4 yX4_touchedBy yX4_touchedBy, Cond.code yX4_touchedBy cX4_touchedBy 5 (some .int), Cond.methodLink RX4 177 yX4_isTouched, Cond.instanceMethod yX4_isTouched]
def wsL_law_r19 : List Cond := [Cond.selects RX4 yX4_isTouched yX4_isTouched, Cond.code yX4_isTouched cX4_isTouched 3 (some .boolean), Cond.methodLink RX4 180 yX4_isIdle, Cond.instanceMethod yX4_isIdle, Cond.selects RX4 yX4_isIdle yX4_isIdle, Cond.code yX4_isIdle cX4_isIdle 6 (some .boolean), Cond.methodLink RX4 187 yX4_leansOn, Cond.instanceMethod yX4_leansOn, Cond.selects RX4 yX4_leansOn yX4_leansOn, Cond.code yX4_leansOn cX4_leansOn 5 (some .int), Cond.methodLink RL 71 yX3_span, Cond.instanceMethod yX3_span, Cond.selects RX3 yX3_span yX3_span, Cond.code yX3_span cX3_span 3 (some .int), Cond.fieldLink RX3 202 "TrackedLetters$Spans" "size" "I", Cond.methodLink RX3 199 yX3_cutSpans, Cond.instanceMethod yX3_cutSpans, Cond.selects RX3 yX3_cutSpans yX3_cutSpans, Cond.code yX3_cutSpans cX3_cutSpans 3 none, Cond.methodLink RX3 206 yX2_take, Cond.instanceMethod yX2_take, Cond.selects RX2 yX2_take yX2_take, Cond.code yX2_take cX2_take 3 none, Cond.methodLink RX3 203 yX2_factOf]
def wsL_law_r20 : List Cond := [Cond.instanceMethod yX2_factOf, Cond.selects RX2 yX2_factOf yX2_factOf, Cond.code yX2_factOf cX2_factOf 3 (some .int), Cond.methodLink RL 74 yX4_span, Cond.instanceMethod yX4_span, Cond.selects RX4 yX4_span yX4_span, Cond.code yX4_span cX4_span 3 (some .int), Cond.fieldLink RX4 193 "TrackedLettersModel" "spans" "I", Cond.methodLink RX4 196 yX4_laySpans, Cond.instanceMethod yX4_laySpans, Cond.selects RX4 yX4_laySpans yX4_laySpans, Cond.code yX4_laySpans cX4_laySpans 4 none, Cond.methodLink RL 75 yX3_found, Cond.instanceMethod yX3_found, Cond.selects RX3 yX3_found yX3_found, Cond.code yX3_found cX3_found 2 (some .int), Cond.methodLink RX3 209 yX3_seekPage, Cond.instanceMethod yX3_seekPage, Cond.selects RX3 yX3_seekPage yX3_seekPage, Cond.code yX3_seekPage cX3_seekPage 4 none, Cond.methodLink RX3 212 yX3_readsAsPage, Cond.instanceMethod yX3_readsAsPage, Cond.selects RX3 yX3_readsAsPage yX3_readsAsPage, Cond.code yX3_readsAsPage cX3_readsAsPage 6 (some .boolean)]
def wsL_law_r21 : List Cond := [Cond.methodLink RX3 215 yJ6_bitCount_0f7a4, Cond.static yJ6_bitCount_0f7a4, Cond.initialized RJ6, Cond.code yJ6_bitCount_0f7a4 cJ6_bitCount_0f7a4 1 (some .int), Cond.constant RJ6 265 (1431655765), Cond.constant RJ6 266 (858993459), Cond.constant RJ6 267 (252645135), Cond.methodLink RL 78 yX4_found, Cond.instanceMethod yX4_found, Cond.selects RX4 yX4_found yX4_found, Cond.code yX4_found cX4_found 2 (some .int), Cond.fieldLink RX4 199 "TrackedLettersModel" "sets" "I", Cond.fieldLink RX4 202 "TrackedLettersModel" "best" "I", Cond.methodLink RX4 208 yX4_layFound, Cond.instanceMethod yX4_layFound, Cond.selects RX4 yX4_layFound yX4_layFound, Cond.code yX4_layFound cX4_layFound 4 none, Cond.methodLink RX4 205 yX4_readsAsPage, Cond.instanceMethod yX4_readsAsPage, Cond.selects RX4 yX4_readsAsPage yX4_readsAsPage, Cond.code yX4_readsAsPage cX4_readsAsPage 4 (some .boolean), Cond.methodLink RL 79 yX3_count, Cond.instanceMethod yX3_count, Cond.selects RX3 yX3_count yX3_count]
def wsL_law_r22 : List Cond := [Cond.code yX3_count cX3_count 2 (some .int), Cond.methodLink RX3 219 yX1_tornBy, Cond.instanceMethod yX1_tornBy, Cond.selects RX1 yX1_tornBy yX1_tornBy, Cond.code yX1_tornBy cX1_tornBy 5 (some .long), Cond.methodLink RX1 32 yJ6_bitCount_0f7a4, Cond.methodLink RX3 222 yX0_deletedTwice, Cond.instanceMethod yX0_deletedTwice, Cond.selects RX0 yX0_deletedTwice yX0_deletedTwice, Cond.code yX0_deletedTwice cX0_deletedTwice 6 (some .long), Cond.methodLink RL 82 yX4_count, Cond.instanceMethod yX4_count, Cond.selects RX4 yX4_count yX4_count, Cond.code yX4_count cX4_count 2 (some .int), Cond.methodLink RX4 221 yX4_howMany, Cond.instanceMethod yX4_howMany, Cond.selects RX4 yX4_howMany yX4_howMany, Cond.code yX4_howMany cX4_howMany 2 (some .int), Cond.methodLink RX4 217 yX4_tornMany, Cond.instanceMethod yX4_tornMany, Cond.selects RX4 yX4_tornMany yX4_tornMany, Cond.code yX4_tornMany cX4_tornMany 3 (some .int), Cond.methodLink RX4 214 yX4_isTorn, Cond.instanceMethod yX4_isTorn]
def wsL_law_r23 : List Cond := [Cond.selects RX4 yX4_isTorn yX4_isTorn, Cond.code yX4_isTorn cX4_isTorn 5 (some .boolean), Cond.methodLink RX4 211 yX4_openFrom, Cond.instanceMethod yX4_openFrom, Cond.selects RX4 yX4_openFrom yX4_openFrom, Cond.code yX4_openFrom cX4_openFrom 5 (some .int), Cond.methodLink RL 83 yX3_digest, Cond.instanceMethod yX3_digest, Cond.selects RX3 yX3_digest yX3_digest, Cond.code yX3_digest cX3_digest 4 (some .long), Cond.constantLong RX3 226 (1619), Cond.methodLink RX3 228 yX3_withView, Cond.instanceMethod yX3_withView, Cond.selects RX3 yX3_withView yX3_withView, Cond.code yX3_withView cX3_withView 9 (some .long), Cond.methodLink RX3 242 yX3_with, Cond.static yX3_with, Cond.code yX3_with cX3_with 3 (some .long), Cond.constantLong RX3 248 (31), Cond.methodLink RX3 232 yX3_withPlaces, Cond.instanceMethod yX3_withPlaces, Cond.selects RX3 yX3_withPlaces yX3_withPlaces, Cond.code yX3_withPlaces cX3_withPlaces 7 (some .long), Cond.methodLink RX3 236 yX3_withChanges]
def wsL_law_r24 : List Cond := [Cond.instanceMethod yX3_withChanges, Cond.selects RX3 yX3_withChanges yX3_withChanges, Cond.code yX3_withChanges cX3_withChanges 7 (some .long), Cond.methodLink RX3 239 yX3_withSpans, Cond.instanceMethod yX3_withSpans, Cond.selects RX3 yX3_withSpans yX3_withSpans, Cond.code yX3_withSpans cX3_withSpans 7 (some .long), Cond.methodLink RX3 245 yX3_count, Cond.methodLink RL 87 yX4_digest, Cond.instanceMethod yX4_digest, Cond.selects RX4 yX4_digest yX4_digest, Cond.code yX4_digest cX4_digest 2 (some .long), Cond.constantLong RX4 234 (1619), Cond.fieldLink RX4 226 "TrackedLettersModel" "h" "J", Cond.methodLink RX4 236 yX4_mixView, Cond.instanceMethod yX4_mixView, Cond.selects RX4 yX4_mixView yX4_mixView, Cond.code yX4_mixView cX4_mixView 4 none, Cond.methodLink RX4 230 yX4_mix, Cond.instanceMethod yX4_mix, Cond.selects RX4 yX4_mix yX4_mix, Cond.code yX4_mix cX4_mix 3 none, Cond.constantLong RX4 224 (31), Cond.methodLink RX4 239 yX4_mixSpans]
def wsL_law_r25 : List Cond := [Cond.instanceMethod yX4_mixSpans, Cond.selects RX4 yX4_mixSpans yX4_mixSpans, Cond.code yX4_mixSpans cX4_mixSpans 2 none]
def wsL_law : List Cond := (wsL_law_r1 ++ (wsL_law_r2 ++ (wsL_law_r3 ++ (wsL_law_r4 ++ (wsL_law_r5 ++ (wsL_law_r6 ++ (wsL_law_r7 ++ (wsL_law_r8 ++ (wsL_law_r9 ++ (wsL_law_r10 ++ (wsL_law_r11 ++ (wsL_law_r12 ++ (wsL_law_r13 ++ (wsL_law_r14 ++ (wsL_law_r15 ++ (wsL_law_r16 ++ (wsL_law_r17 ++ (wsL_law_r18 ++ (wsL_law_r19 ++ (wsL_law_r20 ++ (wsL_law_r21 ++ (wsL_law_r22 ++ (wsL_law_r23 ++ (wsL_law_r24 ++ wsL_law_r25)))))))))))))))))))))))) ++ wsX30 ++ wsX40 ++ wsX10 ++ wsX00 ++ wsX20 ++ ([] : List Cond)
theorem tk_inr {ws : List Cond} (ps : List Nat) (h : ws = ps.filterMap (fun i => lw_tbl[i]?)) : ∀ w ∈ ws, w ∈ lw_tbl := by
  intro w hw
  rw [h] at hw
  obtain ⟨i, -, hi⟩ := List.mem_filterMap.mp hw
  exact List.mem_of_getElem? hi
theorem nwi_wsL_law_r1 : ∀ w ∈ wsL_law_r1, w ∈ lw_tbl := tk_inr [63, 64, 56, 438, 439, 60, 65, 66, 67, 68, 69, 70, 97, 150, 151, 152, 153, 154, 71, 72, 57, 155, 98, 99] (by decide +kernel)
theorem nwi_wsL_law_r2 : ∀ w ∈ wsL_law_r2, w ∈ lw_tbl := tk_inr [58, 156, 130, 131, 59, 157, 158, 159, 160, 161, 162, 74, 75, 76, 77, 79, 81, 83, 84, 101, 102, 103, 104, 106] (by decide +kernel)
theorem nwi_wsL_law_r3 : ∀ w ∈ wsL_law_r3, w ∈ lw_tbl := tk_inr [108, 110, 129, 112, 114, 133, 134, 135, 136, 137, 138, 139, 440, 441, 442, 443, 445, 447, 448, 449, 450, 452, 453, 454] (by decide +kernel)
theorem nwi_wsL_law_r4 : ∀ w ∈ wsL_law_r4, w ∈ lw_tbl := tk_inr [541, 455, 457, 458, 459, 460, 461, 462, 466, 467, 468, 470, 471, 472, 190, 191, 192, 193, 542, 543, 544, 545, 444, 546] (by decide +kernel)
theorem nwi_wsL_law_r5 : ∀ w ∈ wsL_law_r5, w ∈ lw_tbl := tk_inr [547, 548, 194, 195, 196, 197, 549, 550, 551, 552, 198, 199, 200, 201, 202, 204, 0, 205, 85, 115, 206, 208, 1, 209] (by decide +kernel)
theorem nwi_wsL_law_r6 : ∀ w ∈ wsL_law_r6, w ∈ lw_tbl := tk_inr [210, 211, 212, 213, 214, 215, 216, 217, 218, 219, 220, 221, 553, 554, 555, 556, 446, 456, 451, 463, 557, 559, 21, 560] (by decide +kernel)
theorem nwi_wsL_law_r7 : ∀ w ∈ wsL_law_r7, w ∈ lw_tbl := tk_inr [561, 563, 22, 564, 565, 567, 23, 568, 222, 223, 224, 225, 226, 227, 228, 229, 231, 2, 232, 233, 234, 235, 236, 237] (by decide +kernel)
theorem nwi_wsL_law_r8 : ∀ w ∈ wsL_law_r8, w ∈ lw_tbl := tk_inr [238, 239, 240, 241, 243, 3, 244, 245, 247, 4, 248, 105, 113, 249, 250, 251, 252, 253, 255, 5, 256, 257, 258, 259] (by decide +kernel)
theorem nwi_wsL_law_r9 : ∀ w ∈ wsL_law_r9, w ∈ lw_tbl := tk_inr [260, 261, 263, 6, 264, 265, 267, 7, 268, 269, 270, 271, 272, 273, 274, 275, 276, 569, 570, 571, 572, 465, 573, 574] (by decide +kernel)
theorem nwi_wsL_law_r10 : ∀ w ∈ wsL_law_r10, w ∈ lw_tbl := tk_inr [575, 576, 578, 24, 579, 580, 582, 25, 583, 584, 586, 26, 587, 588, 589, 590, 591, 593, 27, 594, 595, 597, 28, 598] (by decide +kernel)
theorem nwi_wsL_law_r11 : ∀ w ∈ wsL_law_r11, w ∈ lw_tbl := tk_inr [599, 601, 29, 602, 603, 605, 30, 606, 607, 609, 31, 610, 277, 278, 279, 280, 78, 281, 282, 283, 611, 612, 613, 614] (by decide +kernel)
theorem nwi_wsL_law_r12 : ∀ w ∈ wsL_law_r12, w ∈ lw_tbl := tk_inr [284, 285, 286, 287, 288, 290, 8, 291, 615, 616, 617, 618, 292, 293, 294, 295, 111, 296, 297, 298, 299, 619, 620, 621] (by decide +kernel)
theorem nwi_wsL_law_r13 : ∀ w ∈ wsL_law_r13, w ∈ lw_tbl := tk_inr [622, 623, 625, 32, 626, 300, 301, 302, 303, 109, 627, 628, 629, 630, 304, 305, 306, 307, 631, 632, 633, 634, 464, 635] (by decide +kernel)
theorem nwi_wsL_law_r14 : ∀ w ∈ wsL_law_r14, w ∈ lw_tbl := tk_inr [637, 33, 638, 308, 309, 310, 311, 312, 313, 314, 639, 640, 641, 642, 643, 644, 645, 646, 648, 34, 649, 315, 316, 317] (by decide +kernel)
theorem nwi_wsL_law_r15 : ∀ w ∈ wsL_law_r15, w ∈ lw_tbl := tk_inr [318, 319, 321, 9, 322, 82, 323, 324, 325, 326, 650, 651, 652, 653, 654, 656, 35, 657, 658, 659, 660, 661, 663, 36] (by decide +kernel)
theorem nwi_wsL_law_r16 : ∀ w ∈ wsL_law_r16, w ∈ lw_tbl := tk_inr [664, 327, 328, 329, 330, 331, 333, 10, 334, 80, 335, 337, 11, 338, 665, 666, 667, 668, 669, 671, 37, 672, 673, 675] (by decide +kernel)
theorem nwi_wsL_law_r17 : ∀ w ∈ wsL_law_r17, w ∈ lw_tbl := tk_inr [38, 676, 677, 679, 39, 680, 339, 340, 341, 342, 343, 345, 12, 346, 107, 347, 348, 61, 349, 350, 351, 352, 353, 355] (by decide +kernel)
theorem nwi_wsL_law_r18 : ∀ w ∈ wsL_law_r18, w ∈ lw_tbl := tk_inr [13, 356, 357, 358, 359, 360, 361, 362, 363, 364, 681, 682, 683, 684, 685, 687, 40, 688, 689, 691, 41, 692, 693, 695] (by decide +kernel)
theorem nwi_wsL_law_r19 : ∀ w ∈ wsL_law_r19, w ∈ lw_tbl := tk_inr [42, 696, 697, 699, 43, 700, 701, 703, 44, 704, 365, 366, 367, 368, 140, 369, 371, 14, 372, 373, 374, 375, 376, 377] (by decide +kernel)
theorem nwi_wsL_law_r20 : ∀ w ∈ wsL_law_r20, w ∈ lw_tbl := tk_inr [378, 379, 380, 705, 706, 707, 708, 469, 709, 711, 45, 712, 381, 382, 383, 384, 385, 387, 15, 388, 389, 391, 16, 392] (by decide +kernel)
theorem nwi_wsL_law_r21 : ∀ w ∈ wsL_law_r21, w ∈ lw_tbl := tk_inr [393, 394, 62, 395, 396, 397, 398, 713, 714, 715, 716, 473, 474, 717, 719, 46, 720, 721, 723, 47, 724, 399, 400, 401] (by decide +kernel)
theorem nwi_wsL_law_r22 : ∀ w ∈ wsL_law_r22, w ∈ lw_tbl := tk_inr [402, 403, 404, 405, 406, 407, 408, 409, 410, 411, 725, 726, 727, 728, 729, 731, 48, 732, 733, 735, 49, 736, 737, 739] (by decide +kernel)
theorem nwi_wsL_law_r23 : ∀ w ∈ wsL_law_r23, w ∈ lw_tbl := tk_inr [50, 740, 741, 743, 51, 744, 412, 413, 414, 415, 416, 417, 419, 17, 420, 421, 422, 423, 424, 425, 427, 18, 428, 429] (by decide +kernel)
theorem nwi_wsL_law_r24 : ∀ w ∈ wsL_law_r24, w ∈ lw_tbl := tk_inr [431, 19, 432, 433, 435, 20, 436, 437, 745, 746, 747, 748, 749, 475, 750, 752, 52, 753, 754, 756, 53, 757, 758, 759] (by decide +kernel)
theorem nwi_wsL_law_r25 : ∀ w ∈ wsL_law_r25, w ∈ lw_tbl := tk_inr [761, 54, 762] (by decide +kernel)
theorem nwi_X3 : ∀ w ∈ wsX30, w ∈ lw_tbl := tk_inr [163, 165, 167, 169, 171, 173, 175, 177, 179, 181, 183, 185, 187] (by decide +kernel)
theorem nwi_X4 : ∀ w ∈ wsX40, w ∈ lw_tbl := tk_inr [476, 478, 480, 482, 484, 486, 488, 490, 492, 494, 496, 498, 500, 502, 504, 506, 508, 510, 512, 514, 516, 518, 520, 522, 524, 526, 528, 530, 532, 534, 536, 538] (by decide +kernel)
theorem nwi_X1 : ∀ w ∈ wsX10, w ∈ lw_tbl := tk_inr [86, 88, 90, 92, 94] (by decide +kernel)
theorem nwi_X0 : ∀ w ∈ wsX00, w ∈ lw_tbl := tk_inr [116, 118, 120, 122, 124, 126] (by decide +kernel)
theorem nwi_X2 : ∀ w ∈ wsX20, w ∈ lw_tbl := tk_inr [141, 143, 145, 147] (by decide +kernel)
theorem wsL_law_in : ∀ w ∈ wsL_law, w ∈ lw_tbl := by
  intro w h
  unfold wsL_law at h
  simp only [List.mem_append, List.append_nil, or_assoc] at h
  rcases h with h | h | h | h | h | h | h | h | h | h | h | h | h | h | h | h | h | h | h | h | h | h | h | h | h | h | h | h | h | h
  · exact nwi_wsL_law_r1 w h
  · exact nwi_wsL_law_r2 w h
  · exact nwi_wsL_law_r3 w h
  · exact nwi_wsL_law_r4 w h
  · exact nwi_wsL_law_r5 w h
  · exact nwi_wsL_law_r6 w h
  · exact nwi_wsL_law_r7 w h
  · exact nwi_wsL_law_r8 w h
  · exact nwi_wsL_law_r9 w h
  · exact nwi_wsL_law_r10 w h
  · exact nwi_wsL_law_r11 w h
  · exact nwi_wsL_law_r12 w h
  · exact nwi_wsL_law_r13 w h
  · exact nwi_wsL_law_r14 w h
  · exact nwi_wsL_law_r15 w h
  · exact nwi_wsL_law_r16 w h
  · exact nwi_wsL_law_r17 w h
  · exact nwi_wsL_law_r18 w h
  · exact nwi_wsL_law_r19 w h
  · exact nwi_wsL_law_r20 w h
  · exact nwi_wsL_law_r21 w h
  · exact nwi_wsL_law_r22 w h
  · exact nwi_wsL_law_r23 w h
  · exact nwi_wsL_law_r24 w h
  · exact nwi_wsL_law_r25 w h
  · exact nwi_X3 w h
  · exact nwi_X4 w h
  · exact nwi_X1 w h
  · exact nwi_X0 w h
  · exact nwi_X2 w h
theorem inlX0 : ∀ w ∈ wsX00, w ∈ wsL_law := fun _ h => List.mem_append_left _ (List.mem_append_left _ (List.mem_append_right _ h))
theorem inX0 : ∀ w ∈ wsX00, w ∈ lw_tbl := fun w h => wsL_law_in w (inlX0 w h)
theorem inlX1 : ∀ w ∈ wsX10, w ∈ wsL_law := fun _ h => List.mem_append_left _ (List.mem_append_left _ (List.mem_append_left _ (List.mem_append_right _ h)))
theorem inX1 : ∀ w ∈ wsX10, w ∈ lw_tbl := fun w h => wsL_law_in w (inlX1 w h)
theorem inlX2 : ∀ w ∈ wsX20, w ∈ wsL_law := fun _ h => List.mem_append_left _ (List.mem_append_right _ h)
theorem inX2 : ∀ w ∈ wsX20, w ∈ lw_tbl := fun w h => wsL_law_in w (inlX2 w h)
theorem inlX3 : ∀ w ∈ wsX30, w ∈ wsL_law := fun _ h => List.mem_append_left _ (List.mem_append_left _ (List.mem_append_left _ (List.mem_append_left _ (List.mem_append_left _ (List.mem_append_right _ h)))))
theorem inX3 : ∀ w ∈ wsX30, w ∈ lw_tbl := fun w h => wsL_law_in w (inlX3 w h)
theorem inlX4 : ∀ w ∈ wsX40, w ∈ wsL_law := fun _ h => List.mem_append_left _ (List.mem_append_left _ (List.mem_append_left _ (List.mem_append_left _ (List.mem_append_right _ h))))
theorem inX4 : ∀ w ∈ wsX40, w ∈ lw_tbl := fun w h => wsL_law_in w (inlX4 w h)
theorem inJ6 : ∀ w ∈ wsJ60, w ∈ lw_tbl := by decide +kernel
theorem inJ13 : ∀ w ∈ wsJ130, w ∈ lw_tbl := by decide +kernel
theorem mw_0 : Cond.classLink RL 7 RX3 ∈ wsL_law := List.mem_of_getElem? (i := 0) (by decide +kernel)
theorem mw_1 : Cond.instantiable RX3 13 ∈ wsL_law := List.mem_of_getElem? (i := 1) (by decide +kernel)
theorem mw_2 : Cond.initialized RX3 ∈ wsL_law := List.mem_of_getElem? (i := 2) (by decide +kernel)
theorem mw_3 : Cond.classLink RL 10 RX4 ∈ wsL_law := List.mem_of_getElem? (i := 3) (by decide +kernel)
theorem mw_4 : Cond.instantiable RX4 32 ∈ wsL_law := List.mem_of_getElem? (i := 4) (by decide +kernel)
theorem mw_5 : Cond.initialized RX4 ∈ wsL_law := List.mem_of_getElem? (i := 5) (by decide +kernel)
theorem mw_6 : Cond.methodLink RL 9 yX3_init ∈ wsL_law := List.mem_of_getElem? (i := 6) (by decide +kernel)
theorem mw_7 : Cond.instanceMethod yX3_init ∈ wsL_law := List.mem_of_getElem? (i := 7) (by decide +kernel)
theorem mw_8 : Cond.code yX3_init cX3_init 1 none ∈ wsL_law := List.mem_of_getElem? (i := 8) (by decide +kernel)
theorem mw_9 : Cond.methodLink RX3 1 objectInit ∈ wsL_law := List.mem_of_getElem? (i := 9) (by decide +kernel)
theorem mw_10 : Cond.instanceMethod objectInit ∈ wsL_law := List.mem_of_getElem? (i := 10) (by decide +kernel)
theorem mw_11 : Cond.code objectInit ⟨#[0xb1]⟩ 1 none ∈ wsL_law := List.mem_of_getElem? (i := 11) (by decide +kernel)
theorem mw_12 : Cond.arrayClass .int ∈ wsL_law := List.mem_of_getElem? (i := 12) (by decide +kernel)
theorem mw_13 : Cond.fieldLink RX3 9 "TrackedLetters" "page" "[I" ∈ wsL_law := List.mem_of_getElem? (i := 13) (by decide +kernel)
theorem mw_14 : Cond.fieldLink RX3 13 "TrackedLetters" "pageSize" "I" ∈ wsL_law := List.mem_of_getElem? (i := 14) (by decide +kernel)
theorem mw_15 : Cond.fieldLink RX3 17 "TrackedLetters" "codeOf" "[I" ∈ wsL_law := List.mem_of_getElem? (i := 15) (by decide +kernel)
theorem mw_16 : Cond.fieldLink RX3 20 "TrackedLetters" "letters" "I" ∈ wsL_law := List.mem_of_getElem? (i := 16) (by decide +kernel)
theorem mw_17 : Cond.fieldLink RX3 23 "TrackedLetters" "firstText" "J" ∈ wsL_law := List.mem_of_getElem? (i := 17) (by decide +kernel)
theorem mw_18 : Cond.classLink RX3 27 RX1 ∈ wsL_law := List.mem_of_getElem? (i := 18) (by decide +kernel)
theorem mw_19 : Cond.instantiable RX1 5 ∈ wsL_law := List.mem_of_getElem? (i := 19) (by decide +kernel)
theorem mw_20 : Cond.initialized RX1 ∈ wsL_law := List.mem_of_getElem? (i := 20) (by decide +kernel)
theorem mw_21 : Cond.fieldLink RX3 30 "TrackedLetters" "line" "LTrackedLetters$Line;" ∈ wsL_law := List.mem_of_getElem? (i := 21) (by decide +kernel)
theorem mw_22 : Cond.classLink RX3 34 RX0 ∈ wsL_law := List.mem_of_getElem? (i := 22) (by decide +kernel)
theorem mw_23 : Cond.instantiable RX0 6 ∈ wsL_law := List.mem_of_getElem? (i := 23) (by decide +kernel)
theorem mw_24 : Cond.initialized RX0 ∈ wsL_law := List.mem_of_getElem? (i := 24) (by decide +kernel)
theorem mw_25 : Cond.fieldLink RX3 37 "TrackedLetters" "changes" "LTrackedLetters$Changes;" ∈ wsL_law := List.mem_of_getElem? (i := 25) (by decide +kernel)
theorem mw_26 : Cond.classLink RX3 41 RX2 ∈ wsL_law := List.mem_of_getElem? (i := 26) (by decide +kernel)
theorem mw_27 : Cond.instantiable RX2 4 ∈ wsL_law := List.mem_of_getElem? (i := 27) (by decide +kernel)
theorem mw_28 : Cond.initialized RX2 ∈ wsL_law := List.mem_of_getElem? (i := 28) (by decide +kernel)
theorem mw_29 : Cond.fieldLink RX3 44 "TrackedLetters" "spans" "LTrackedLetters$Spans;" ∈ wsL_law := List.mem_of_getElem? (i := 29) (by decide +kernel)
theorem mw_30 : Cond.fieldLink RX3 48 "TrackedLetters" "row" "[I" ∈ wsL_law := List.mem_of_getElem? (i := 30) (by decide +kernel)
theorem mw_31 : Cond.fieldLink RX3 51 "TrackedLetters" "foundSets" "I" ∈ wsL_law := List.mem_of_getElem? (i := 31) (by decide +kernel)
theorem mw_32 : Cond.fieldLink RX3 54 "TrackedLetters" "foundLeast" "I" ∈ wsL_law := List.mem_of_getElem? (i := 32) (by decide +kernel)
theorem mw_33 : Cond.fieldLink RX3 57 "TrackedLetters" "begun" "I" ∈ wsL_law := List.mem_of_getElem? (i := 33) (by decide +kernel)
theorem mw_34 : Cond.fieldLink RX3 60 "TrackedLetters" "settled" "I" ∈ wsL_law := List.mem_of_getElem? (i := 34) (by decide +kernel)
theorem mw_35 : Cond.instanceMethod yX1_init ∈ wsL_law := List.mem_of_getElem? (i := 35) (by decide +kernel)
theorem mw_36 : Cond.code yX1_init cX1_init 1 none ∈ wsL_law := List.mem_of_getElem? (i := 36) (by decide +kernel)
theorem mw_37 : Cond.methodLink RX1 3 objectInit ∈ wsL_law := List.mem_of_getElem? (i := 37) (by decide +kernel)
theorem mw_38 : Cond.fieldLink RX1 9 "TrackedLetters$Line" "letterOf" "[I" ∈ wsL_law := List.mem_of_getElem? (i := 38) (by decide +kernel)
theorem mw_39 : Cond.fieldLink RX1 15 "TrackedLetters$Line" "fromOf" "[I" ∈ wsL_law := List.mem_of_getElem? (i := 39) (by decide +kernel)
theorem mw_40 : Cond.fieldLink RX1 18 "TrackedLetters$Line" "byOf" "[I" ∈ wsL_law := List.mem_of_getElem? (i := 40) (by decide +kernel)
theorem mw_41 : Cond.fieldLink RX1 21 "TrackedLetters$Line" "onwardOf" "[I" ∈ wsL_law := List.mem_of_getElem? (i := 41) (by decide +kernel)
theorem mw_42 : Cond.fieldLink RX1 24 "TrackedLetters$Line" "size" "I" ∈ wsL_law := List.mem_of_getElem? (i := 42) (by decide +kernel)
theorem mw_43 : Cond.instanceMethod yX0_init ∈ wsL_law := List.mem_of_getElem? (i := 43) (by decide +kernel)
theorem mw_44 : Cond.code yX0_init cX0_init 1 none ∈ wsL_law := List.mem_of_getElem? (i := 44) (by decide +kernel)
theorem mw_45 : Cond.methodLink RX0 3 objectInit ∈ wsL_law := List.mem_of_getElem? (i := 45) (by decide +kernel)
theorem mw_46 : Cond.fieldLink RX0 9 "TrackedLetters$Changes" "kindOf" "[I" ∈ wsL_law := List.mem_of_getElem? (i := 46) (by decide +kernel)
theorem mw_47 : Cond.fieldLink RX0 15 "TrackedLetters$Changes" "authorOf" "[I" ∈ wsL_law := List.mem_of_getElem? (i := 47) (by decide +kernel)
theorem mw_48 : Cond.fieldLink RX0 18 "TrackedLetters$Changes" "statusOf" "[I" ∈ wsL_law := List.mem_of_getElem? (i := 48) (by decide +kernel)
theorem mw_49 : Cond.fieldLink RX0 21 "TrackedLetters$Changes" "shownOf" "[I" ∈ wsL_law := List.mem_of_getElem? (i := 49) (by decide +kernel)
theorem mw_50 : Cond.arrayClass .long ∈ wsL_law := List.mem_of_getElem? (i := 50) (by decide +kernel)
theorem mw_51 : Cond.fieldLink RX0 24 "TrackedLetters$Changes" "touchedBy" "[J" ∈ wsL_law := List.mem_of_getElem? (i := 51) (by decide +kernel)
theorem mw_52 : Cond.fieldLink RX0 28 "TrackedLetters$Changes" "size" "I" ∈ wsL_law := List.mem_of_getElem? (i := 52) (by decide +kernel)
theorem mw_53 : Cond.instanceMethod yX2_init ∈ wsL_law := List.mem_of_getElem? (i := 53) (by decide +kernel)
theorem mw_54 : Cond.code yX2_init cX2_init 1 none ∈ wsL_law := List.mem_of_getElem? (i := 54) (by decide +kernel)
theorem mw_55 : Cond.methodLink RX2 3 objectInit ∈ wsL_law := List.mem_of_getElem? (i := 55) (by decide +kernel)
theorem mw_56 : Cond.fieldLink RX2 9 "TrackedLetters$Spans" "markOf" "[I" ∈ wsL_law := List.mem_of_getElem? (i := 56) (by decide +kernel)
theorem mw_57 : Cond.fieldLink RX2 15 "TrackedLetters$Spans" "placesOf" "[I" ∈ wsL_law := List.mem_of_getElem? (i := 57) (by decide +kernel)
theorem mw_58 : Cond.fieldLink RX2 18 "TrackedLetters$Spans" "startOf" "[I" ∈ wsL_law := List.mem_of_getElem? (i := 58) (by decide +kernel)
theorem mw_59 : Cond.fieldLink RX2 21 "TrackedLetters$Spans" "size" "I" ∈ wsL_law := List.mem_of_getElem? (i := 59) (by decide +kernel)
theorem mw_60 : Cond.methodLink RL 12 yX4_init ∈ wsL_law := List.mem_of_getElem? (i := 60) (by decide +kernel)
theorem mw_61 : Cond.instanceMethod yX4_init ∈ wsL_law := List.mem_of_getElem? (i := 61) (by decide +kernel)
theorem mw_62 : Cond.code yX4_init cX4_init 1 none ∈ wsL_law := List.mem_of_getElem? (i := 62) (by decide +kernel)
theorem mw_63 : Cond.methodLink RX4 1 objectInit ∈ wsL_law := List.mem_of_getElem? (i := 63) (by decide +kernel)
theorem mw_64 : Cond.fieldLink RX4 7 "TrackedLettersModel" "page" "[I" ∈ wsL_law := List.mem_of_getElem? (i := 64) (by decide +kernel)
theorem mw_65 : Cond.fieldLink RX4 13 "TrackedLettersModel" "sign" "[I" ∈ wsL_law := List.mem_of_getElem? (i := 65) (by decide +kernel)
theorem mw_66 : Cond.fieldLink RX4 16 "TrackedLettersModel" "insertOf" "[I" ∈ wsL_law := List.mem_of_getElem? (i := 66) (by decide +kernel)
theorem mw_67 : Cond.fieldLink RX4 19 "TrackedLettersModel" "homeOf" "[I" ∈ wsL_law := List.mem_of_getElem? (i := 67) (by decide +kernel)
theorem mw_68 : Cond.fieldLink RX4 22 "TrackedLettersModel" "deletedBy" "[I" ∈ wsL_law := List.mem_of_getElem? (i := 68) (by decide +kernel)
theorem mw_69 : Cond.fieldLink RX4 25 "TrackedLettersModel" "kindOf" "[I" ∈ wsL_law := List.mem_of_getElem? (i := 69) (by decide +kernel)
theorem mw_70 : Cond.fieldLink RX4 28 "TrackedLettersModel" "authorOf" "[I" ∈ wsL_law := List.mem_of_getElem? (i := 70) (by decide +kernel)
theorem mw_71 : Cond.fieldLink RX4 31 "TrackedLettersModel" "stateOf" "[I" ∈ wsL_law := List.mem_of_getElem? (i := 71) (by decide +kernel)
theorem mw_72 : Cond.arrayClass .boolean ∈ wsL_law := List.mem_of_getElem? (i := 72) (by decide +kernel)
theorem mw_73 : Cond.fieldLink RX4 34 "TrackedLettersModel" "isShown" "[Z" ∈ wsL_law := List.mem_of_getElem? (i := 73) (by decide +kernel)
theorem mw_74 : Cond.fieldLink RX4 38 "TrackedLettersModel" "letterOf" "[I" ∈ wsL_law := List.mem_of_getElem? (i := 74) (by decide +kernel)
theorem mw_75 : Cond.fieldLink RX4 41 "TrackedLettersModel" "fromOf" "[I" ∈ wsL_law := List.mem_of_getElem? (i := 75) (by decide +kernel)
theorem mw_76 : Cond.fieldLink RX4 44 "TrackedLettersModel" "byOf" "[I" ∈ wsL_law := List.mem_of_getElem? (i := 76) (by decide +kernel)
theorem mw_77 : Cond.fieldLink RX4 47 "TrackedLettersModel" "line" "[I" ∈ wsL_law := List.mem_of_getElem? (i := 77) (by decide +kernel)
theorem mw_78 : Cond.fieldLink RX4 50 "TrackedLettersModel" "firstOn" "[I" ∈ wsL_law := List.mem_of_getElem? (i := 78) (by decide +kernel)
theorem mw_79 : Cond.fieldLink RX4 53 "TrackedLettersModel" "nextOn" "[I" ∈ wsL_law := List.mem_of_getElem? (i := 79) (by decide +kernel)
theorem mw_80 : Cond.fieldLink RX4 56 "TrackedLettersModel" "readAt" "[I" ∈ wsL_law := List.mem_of_getElem? (i := 80) (by decide +kernel)
theorem mw_81 : Cond.fieldLink RX4 59 "TrackedLettersModel" "isStood" "[Z" ∈ wsL_law := List.mem_of_getElem? (i := 81) (by decide +kernel)
theorem mw_82 : Cond.fieldLink RX4 62 "TrackedLettersModel" "kept" "[I" ∈ wsL_law := List.mem_of_getElem? (i := 82) (by decide +kernel)
theorem mw_83 : Cond.fieldLink RX4 65 "TrackedLettersModel" "spanMark" "[I" ∈ wsL_law := List.mem_of_getElem? (i := 83) (by decide +kernel)
theorem mw_84 : Cond.fieldLink RX4 68 "TrackedLettersModel" "spanMany" "[I" ∈ wsL_law := List.mem_of_getElem? (i := 84) (by decide +kernel)
theorem mw_85 : Cond.fieldLink RX4 71 "TrackedLettersModel" "spanFirst" "[I" ∈ wsL_law := List.mem_of_getElem? (i := 85) (by decide +kernel)
theorem mw_86 : Cond.methodLink RL 13 yX3_letter ∈ wsL_law := List.mem_of_getElem? (i := 86) (by decide +kernel)
theorem mw_87 : Cond.instanceMethod yX3_letter ∈ wsL_law := List.mem_of_getElem? (i := 87) (by decide +kernel)
theorem mw_88 : Cond.selects RX3 yX3_letter yX3_letter ∈ wsL_law := List.mem_of_getElem? (i := 88) (by decide +kernel)
theorem mw_89 : Cond.code yX3_letter cX3_letter 2 (some .int) ∈ wsL_law := List.mem_of_getElem? (i := 89) (by decide +kernel)
theorem mw_90 : Cond.methodLink RL 17 yX4_letter ∈ wsL_law := List.mem_of_getElem? (i := 90) (by decide +kernel)
theorem mw_91 : Cond.instanceMethod yX4_letter ∈ wsL_law := List.mem_of_getElem? (i := 91) (by decide +kernel)
theorem mw_92 : Cond.selects RX4 yX4_letter yX4_letter ∈ wsL_law := List.mem_of_getElem? (i := 92) (by decide +kernel)
theorem mw_93 : Cond.code yX4_letter cX4_letter 2 (some .int) ∈ wsL_law := List.mem_of_getElem? (i := 93) (by decide +kernel)
theorem mw_94 : Cond.fieldLink RX4 78 "TrackedLettersModel" "pageLength" "I" ∈ wsL_law := List.mem_of_getElem? (i := 94) (by decide +kernel)
theorem mw_95 : Cond.methodLink RX4 74 yX4_within ∈ wsL_law := List.mem_of_getElem? (i := 95) (by decide +kernel)
theorem mw_96 : Cond.static yX4_within ∈ wsL_law := List.mem_of_getElem? (i := 96) (by decide +kernel)
theorem mw_97 : Cond.code yX4_within cX4_within 3 (some .boolean) ∈ wsL_law := List.mem_of_getElem? (i := 97) (by decide +kernel)
theorem mw_98 : Cond.methodLink RL 18 yX3_blank ∈ wsL_law := List.mem_of_getElem? (i := 98) (by decide +kernel)
theorem mw_99 : Cond.instanceMethod yX3_blank ∈ wsL_law := List.mem_of_getElem? (i := 99) (by decide +kernel)
theorem mw_100 : Cond.selects RX3 yX3_blank yX3_blank ∈ wsL_law := List.mem_of_getElem? (i := 100) (by decide +kernel)
theorem mw_101 : Cond.code yX3_blank cX3_blank 2 (some .int) ∈ wsL_law := List.mem_of_getElem? (i := 101) (by decide +kernel)
theorem mw_102 : Cond.methodLink RL 22 yX4_blank ∈ wsL_law := List.mem_of_getElem? (i := 102) (by decide +kernel)
theorem mw_103 : Cond.instanceMethod yX4_blank ∈ wsL_law := List.mem_of_getElem? (i := 103) (by decide +kernel)
theorem mw_104 : Cond.selects RX4 yX4_blank yX4_blank ∈ wsL_law := List.mem_of_getElem? (i := 104) (by decide +kernel)
theorem mw_105 : Cond.code yX4_blank cX4_blank 2 (some .int) ∈ wsL_law := List.mem_of_getElem? (i := 105) (by decide +kernel)
theorem mw_106 : Cond.methodLink RL 23 yX3_begin ∈ wsL_law := List.mem_of_getElem? (i := 106) (by decide +kernel)
theorem mw_107 : Cond.instanceMethod yX3_begin ∈ wsL_law := List.mem_of_getElem? (i := 107) (by decide +kernel)
theorem mw_108 : Cond.selects RX3 yX3_begin yX3_begin ∈ wsL_law := List.mem_of_getElem? (i := 108) (by decide +kernel)
theorem mw_109 : Cond.code yX3_begin cX3_begin 1 (some .int) ∈ wsL_law := List.mem_of_getElem? (i := 109) (by decide +kernel)
theorem mw_110 : Cond.methodLink RX3 63 yX3_startText ∈ wsL_law := List.mem_of_getElem? (i := 110) (by decide +kernel)
theorem mw_111 : Cond.instanceMethod yX3_startText ∈ wsL_law := List.mem_of_getElem? (i := 111) (by decide +kernel)
theorem mw_112 : Cond.selects RX3 yX3_startText yX3_startText ∈ wsL_law := List.mem_of_getElem? (i := 112) (by decide +kernel)
theorem mw_113 : Cond.code yX3_startText cX3_startText 4 none ∈ wsL_law := List.mem_of_getElem? (i := 113) (by decide +kernel)
theorem mw_114 : Cond.fieldLink RX3 67 "TrackedLetters$Line" "size" "I" ∈ wsL_law := List.mem_of_getElem? (i := 114) (by decide +kernel)
theorem mw_115 : Cond.fieldLink RX3 70 "TrackedLetters$Changes" "size" "I" ∈ wsL_law := List.mem_of_getElem? (i := 115) (by decide +kernel)
theorem mw_116 : Cond.methodLink RX3 71 yX3_addLetter ∈ wsL_law := List.mem_of_getElem? (i := 116) (by decide +kernel)
theorem mw_117 : Cond.instanceMethod yX3_addLetter ∈ wsL_law := List.mem_of_getElem? (i := 117) (by decide +kernel)
theorem mw_118 : Cond.selects RX3 yX3_addLetter yX3_addLetter ∈ wsL_law := List.mem_of_getElem? (i := 118) (by decide +kernel)
theorem mw_119 : Cond.code yX3_addLetter cX3_addLetter 4 none ∈ wsL_law := List.mem_of_getElem? (i := 119) (by decide +kernel)
theorem mw_120 : Cond.methodLink RX3 81 yX1_openGap ∈ wsL_law := List.mem_of_getElem? (i := 120) (by decide +kernel)
theorem mw_121 : Cond.instanceMethod yX1_openGap ∈ wsL_law := List.mem_of_getElem? (i := 121) (by decide +kernel)
theorem mw_122 : Cond.selects RX1 yX1_openGap yX1_openGap ∈ wsL_law := List.mem_of_getElem? (i := 122) (by decide +kernel)
theorem mw_123 : Cond.code yX1_openGap cX1_openGap 4 none ∈ wsL_law := List.mem_of_getElem? (i := 123) (by decide +kernel)
theorem mw_124 : Cond.methodLink RX3 85 yX1_put ∈ wsL_law := List.mem_of_getElem? (i := 124) (by decide +kernel)
theorem mw_125 : Cond.instanceMethod yX1_put ∈ wsL_law := List.mem_of_getElem? (i := 125) (by decide +kernel)
theorem mw_126 : Cond.selects RX1 yX1_put yX1_put ∈ wsL_law := List.mem_of_getElem? (i := 126) (by decide +kernel)
theorem mw_127 : Cond.code yX1_put cX1_put 5 none ∈ wsL_law := List.mem_of_getElem? (i := 127) (by decide +kernel)
theorem mw_128 : Cond.methodLink RX3 75 yX3_firstLetters ∈ wsL_law := List.mem_of_getElem? (i := 128) (by decide +kernel)
theorem mw_129 : Cond.static yX3_firstLetters ∈ wsL_law := List.mem_of_getElem? (i := 129) (by decide +kernel)
theorem mw_130 : Cond.code yX3_firstLetters cX3_firstLetters 1 (some .long) ∈ wsL_law := List.mem_of_getElem? (i := 130) (by decide +kernel)
theorem mw_131 : Cond.constantLong RX3 79 (-1) ∈ wsL_law := List.mem_of_getElem? (i := 131) (by decide +kernel)
theorem mw_132 : Cond.methodLink RL 26 yX4_begin ∈ wsL_law := List.mem_of_getElem? (i := 132) (by decide +kernel)
theorem mw_133 : Cond.instanceMethod yX4_begin ∈ wsL_law := List.mem_of_getElem? (i := 133) (by decide +kernel)
theorem mw_134 : Cond.selects RX4 yX4_begin yX4_begin ∈ wsL_law := List.mem_of_getElem? (i := 134) (by decide +kernel)
theorem mw_135 : Cond.code yX4_begin cX4_begin 2 (some .int) ∈ wsL_law := List.mem_of_getElem? (i := 135) (by decide +kernel)
theorem mw_136 : Cond.fieldLink RX4 82 "TrackedLettersModel" "letters" "I" ∈ wsL_law := List.mem_of_getElem? (i := 136) (by decide +kernel)
theorem mw_137 : Cond.fieldLink RX4 85 "TrackedLettersModel" "places" "I" ∈ wsL_law := List.mem_of_getElem? (i := 137) (by decide +kernel)
theorem mw_138 : Cond.fieldLink RX4 96 "TrackedLettersModel" "changes" "I" ∈ wsL_law := List.mem_of_getElem? (i := 138) (by decide +kernel)
theorem mw_139 : Cond.fieldLink RX4 103 "TrackedLettersModel" "begun" "I" ∈ wsL_law := List.mem_of_getElem? (i := 139) (by decide +kernel)
theorem mw_140 : Cond.methodLink RX4 99 yX4_comes ∈ wsL_law := List.mem_of_getElem? (i := 140) (by decide +kernel)
theorem mw_141 : Cond.instanceMethod yX4_comes ∈ wsL_law := List.mem_of_getElem? (i := 141) (by decide +kernel)
theorem mw_142 : Cond.selects RX4 yX4_comes yX4_comes ∈ wsL_law := List.mem_of_getElem? (i := 142) (by decide +kernel)
theorem mw_143 : Cond.code yX4_comes cX4_comes 4 none ∈ wsL_law := List.mem_of_getElem? (i := 143) (by decide +kernel)
theorem mw_144 : Cond.methodLink RX4 88 yX4_layPlace ∈ wsL_law := List.mem_of_getElem? (i := 144) (by decide +kernel)
theorem mw_145 : Cond.instanceMethod yX4_layPlace ∈ wsL_law := List.mem_of_getElem? (i := 145) (by decide +kernel)
theorem mw_146 : Cond.selects RX4 yX4_layPlace yX4_layPlace ∈ wsL_law := List.mem_of_getElem? (i := 146) (by decide +kernel)
theorem mw_147 : Cond.code yX4_layPlace cX4_layPlace 6 none ∈ wsL_law := List.mem_of_getElem? (i := 147) (by decide +kernel)
theorem mw_148 : Cond.methodLink RX4 92 yX4_layOn ∈ wsL_law := List.mem_of_getElem? (i := 148) (by decide +kernel)
theorem mw_149 : Cond.instanceMethod yX4_layOn ∈ wsL_law := List.mem_of_getElem? (i := 149) (by decide +kernel)
theorem mw_150 : Cond.selects RX4 yX4_layOn yX4_layOn ∈ wsL_law := List.mem_of_getElem? (i := 150) (by decide +kernel)
theorem mw_151 : Cond.code yX4_layOn cX4_layOn 4 none ∈ wsL_law := List.mem_of_getElem? (i := 151) (by decide +kernel)
theorem mw_152 : Cond.methodLink RL 27 yX3_insert ∈ wsL_law := List.mem_of_getElem? (i := 152) (by decide +kernel)
theorem mw_153 : Cond.instanceMethod yX3_insert ∈ wsL_law := List.mem_of_getElem? (i := 153) (by decide +kernel)
theorem mw_154 : Cond.selects RX3 yX3_insert yX3_insert ∈ wsL_law := List.mem_of_getElem? (i := 154) (by decide +kernel)
theorem mw_155 : Cond.code yX3_insert cX3_insert 4 (some .int) ∈ wsL_law := List.mem_of_getElem? (i := 155) (by decide +kernel)
theorem mw_156 : Cond.methodLink RX3 89 yX3_isAuthor ∈ wsL_law := List.mem_of_getElem? (i := 156) (by decide +kernel)
theorem mw_157 : Cond.static yX3_isAuthor ∈ wsL_law := List.mem_of_getElem? (i := 157) (by decide +kernel)
theorem mw_158 : Cond.code yX3_isAuthor cX3_isAuthor 1 (some .boolean) ∈ wsL_law := List.mem_of_getElem? (i := 158) (by decide +kernel)
theorem mw_159 : Cond.methodLink RX3 93 yX3_setOf ∈ wsL_law := List.mem_of_getElem? (i := 159) (by decide +kernel)
theorem mw_160 : Cond.instanceMethod yX3_setOf ∈ wsL_law := List.mem_of_getElem? (i := 160) (by decide +kernel)
theorem mw_161 : Cond.selects RX3 yX3_setOf yX3_setOf ∈ wsL_law := List.mem_of_getElem? (i := 161) (by decide +kernel)
theorem mw_162 : Cond.code yX3_setOf cX3_setOf 4 (some .int) ∈ wsL_law := List.mem_of_getElem? (i := 162) (by decide +kernel)
theorem mw_163 : Cond.methodLink RX3 137 yX0_inStatus ∈ wsL_law := List.mem_of_getElem? (i := 163) (by decide +kernel)
theorem mw_164 : Cond.instanceMethod yX0_inStatus ∈ wsL_law := List.mem_of_getElem? (i := 164) (by decide +kernel)
theorem mw_165 : Cond.selects RX0 yX0_inStatus yX0_inStatus ∈ wsL_law := List.mem_of_getElem? (i := 165) (by decide +kernel)
theorem mw_166 : Cond.code yX0_inStatus cX0_inStatus 4 (some .int) ∈ wsL_law := List.mem_of_getElem? (i := 166) (by decide +kernel)
theorem mw_167 : Cond.methodLink RX3 140 yX0_seenBy ∈ wsL_law := List.mem_of_getElem? (i := 167) (by decide +kernel)
theorem mw_168 : Cond.instanceMethod yX0_seenBy ∈ wsL_law := List.mem_of_getElem? (i := 168) (by decide +kernel)
theorem mw_169 : Cond.selects RX0 yX0_seenBy yX0_seenBy ∈ wsL_law := List.mem_of_getElem? (i := 169) (by decide +kernel)
theorem mw_170 : Cond.code yX0_seenBy cX0_seenBy 4 (some .int) ∈ wsL_law := List.mem_of_getElem? (i := 170) (by decide +kernel)
theorem mw_171 : Cond.methodLink RX3 97 yX3_lineUp ∈ wsL_law := List.mem_of_getElem? (i := 171) (by decide +kernel)
theorem mw_172 : Cond.instanceMethod yX3_lineUp ∈ wsL_law := List.mem_of_getElem? (i := 172) (by decide +kernel)
theorem mw_173 : Cond.selects RX3 yX3_lineUp yX3_lineUp ∈ wsL_law := List.mem_of_getElem? (i := 173) (by decide +kernel)
theorem mw_174 : Cond.code yX3_lineUp cX3_lineUp 6 (some .int) ∈ wsL_law := List.mem_of_getElem? (i := 174) (by decide +kernel)
theorem mw_175 : Cond.methodLink RX3 150 yX3_thereBy ∈ wsL_law := List.mem_of_getElem? (i := 175) (by decide +kernel)
theorem mw_176 : Cond.instanceMethod yX3_thereBy ∈ wsL_law := List.mem_of_getElem? (i := 176) (by decide +kernel)
theorem mw_177 : Cond.selects RX3 yX3_thereBy yX3_thereBy ∈ wsL_law := List.mem_of_getElem? (i := 177) (by decide +kernel)
theorem mw_178 : Cond.code yX3_thereBy cX3_thereBy 7 (some .long) ∈ wsL_law := List.mem_of_getElem? (i := 178) (by decide +kernel)
theorem mw_179 : Cond.fieldLink RX3 143 "TrackedLetters$Changes" "kindOf" "[I" ∈ wsL_law := List.mem_of_getElem? (i := 179) (by decide +kernel)
theorem mw_180 : Cond.fieldLink RX3 146 "TrackedLetters$Changes" "touchedBy" "[J" ∈ wsL_law := List.mem_of_getElem? (i := 180) (by decide +kernel)
theorem mw_181 : Cond.methodLink RX3 153 yX1_holds ∈ wsL_law := List.mem_of_getElem? (i := 181) (by decide +kernel)
theorem mw_182 : Cond.instanceMethod yX1_holds ∈ wsL_law := List.mem_of_getElem? (i := 182) (by decide +kernel)
theorem mw_183 : Cond.selects RX1 yX1_holds yX1_holds ∈ wsL_law := List.mem_of_getElem? (i := 183) (by decide +kernel)
theorem mw_184 : Cond.code yX1_holds cX1_holds 5 (some .boolean) ∈ wsL_law := List.mem_of_getElem? (i := 184) (by decide +kernel)
theorem mw_185 : Cond.methodLink RX1 28 yX1_leadsTo ∈ wsL_law := List.mem_of_getElem? (i := 185) (by decide +kernel)
theorem mw_186 : Cond.instanceMethod yX1_leadsTo ∈ wsL_law := List.mem_of_getElem? (i := 186) (by decide +kernel)
theorem mw_187 : Cond.selects RX1 yX1_leadsTo yX1_leadsTo ∈ wsL_law := List.mem_of_getElem? (i := 187) (by decide +kernel)
theorem mw_188 : Cond.code yX1_leadsTo cX1_leadsTo 6 (some .boolean) ∈ wsL_law := List.mem_of_getElem? (i := 188) (by decide +kernel)
theorem mw_189 : Cond.methodLink RX3 100 yX0_isFull ∈ wsL_law := List.mem_of_getElem? (i := 189) (by decide +kernel)
theorem mw_190 : Cond.instanceMethod yX0_isFull ∈ wsL_law := List.mem_of_getElem? (i := 190) (by decide +kernel)
theorem mw_191 : Cond.selects RX0 yX0_isFull yX0_isFull ∈ wsL_law := List.mem_of_getElem? (i := 191) (by decide +kernel)
theorem mw_192 : Cond.code yX0_isFull cX0_isFull 1 (some .boolean) ∈ wsL_law := List.mem_of_getElem? (i := 192) (by decide +kernel)
theorem mw_193 : Cond.methodLink RX3 104 yX3_placeAhead ∈ wsL_law := List.mem_of_getElem? (i := 193) (by decide +kernel)
theorem mw_194 : Cond.instanceMethod yX3_placeAhead ∈ wsL_law := List.mem_of_getElem? (i := 194) (by decide +kernel)
theorem mw_195 : Cond.selects RX3 yX3_placeAhead yX3_placeAhead ∈ wsL_law := List.mem_of_getElem? (i := 195) (by decide +kernel)
theorem mw_196 : Cond.code yX3_placeAhead cX3_placeAhead 3 (some .int) ∈ wsL_law := List.mem_of_getElem? (i := 196) (by decide +kernel)
theorem mw_197 : Cond.methodLink RX3 108 yX3_insertPage ∈ wsL_law := List.mem_of_getElem? (i := 197) (by decide +kernel)
theorem mw_198 : Cond.instanceMethod yX3_insertPage ∈ wsL_law := List.mem_of_getElem? (i := 198) (by decide +kernel)
theorem mw_199 : Cond.selects RX3 yX3_insertPage yX3_insertPage ∈ wsL_law := List.mem_of_getElem? (i := 199) (by decide +kernel)
theorem mw_200 : Cond.code yX3_insertPage cX3_insertPage 5 (some .int) ∈ wsL_law := List.mem_of_getElem? (i := 200) (by decide +kernel)
theorem mw_201 : Cond.methodLink RX3 111 yX0_add ∈ wsL_law := List.mem_of_getElem? (i := 201) (by decide +kernel)
theorem mw_202 : Cond.instanceMethod yX0_add ∈ wsL_law := List.mem_of_getElem? (i := 202) (by decide +kernel)
theorem mw_203 : Cond.selects RX0 yX0_add yX0_add ∈ wsL_law := List.mem_of_getElem? (i := 203) (by decide +kernel)
theorem mw_204 : Cond.code yX0_add cX0_add 4 (some .int) ∈ wsL_law := List.mem_of_getElem? (i := 204) (by decide +kernel)
theorem mw_205 : Cond.methodLink RX3 114 yX0_touch ∈ wsL_law := List.mem_of_getElem? (i := 205) (by decide +kernel)
theorem mw_206 : Cond.instanceMethod yX0_touch ∈ wsL_law := List.mem_of_getElem? (i := 206) (by decide +kernel)
theorem mw_207 : Cond.selects RX0 yX0_touch yX0_touch ∈ wsL_law := List.mem_of_getElem? (i := 207) (by decide +kernel)
theorem mw_208 : Cond.code yX0_touch cX0_touch 3 none ∈ wsL_law := List.mem_of_getElem? (i := 208) (by decide +kernel)
theorem mw_209 : Cond.methodLink RL 31 yX4_insert ∈ wsL_law := List.mem_of_getElem? (i := 209) (by decide +kernel)
theorem mw_210 : Cond.instanceMethod yX4_insert ∈ wsL_law := List.mem_of_getElem? (i := 210) (by decide +kernel)
theorem mw_211 : Cond.selects RX4 yX4_insert yX4_insert ∈ wsL_law := List.mem_of_getElem? (i := 211) (by decide +kernel)
theorem mw_212 : Cond.code yX4_insert cX4_insert 6 (some .int) ∈ wsL_law := List.mem_of_getElem? (i := 212) (by decide +kernel)
theorem mw_213 : Cond.fieldLink RX4 120 "TrackedLettersModel" "reads" "I" ∈ wsL_law := List.mem_of_getElem? (i := 213) (by decide +kernel)
theorem mw_214 : Cond.methodLink RX4 127 yX4_isAuthor ∈ wsL_law := List.mem_of_getElem? (i := 214) (by decide +kernel)
theorem mw_215 : Cond.static yX4_isAuthor ∈ wsL_law := List.mem_of_getElem? (i := 215) (by decide +kernel)
theorem mw_216 : Cond.code yX4_isAuthor cX4_isAuthor 1 (some .boolean) ∈ wsL_law := List.mem_of_getElem? (i := 216) (by decide +kernel)
theorem mw_217 : Cond.methodLink RX4 131 yX4_setOf ∈ wsL_law := List.mem_of_getElem? (i := 217) (by decide +kernel)
theorem mw_218 : Cond.instanceMethod yX4_setOf ∈ wsL_law := List.mem_of_getElem? (i := 218) (by decide +kernel)
theorem mw_219 : Cond.selects RX4 yX4_setOf yX4_setOf ∈ wsL_law := List.mem_of_getElem? (i := 219) (by decide +kernel)
theorem mw_220 : Cond.code yX4_setOf cX4_setOf 5 (some .int) ∈ wsL_law := List.mem_of_getElem? (i := 220) (by decide +kernel)
theorem mw_221 : Cond.methodLink RX4 134 yX4_layRead ∈ wsL_law := List.mem_of_getElem? (i := 221) (by decide +kernel)
theorem mw_222 : Cond.instanceMethod yX4_layRead ∈ wsL_law := List.mem_of_getElem? (i := 222) (by decide +kernel)
theorem mw_223 : Cond.selects RX4 yX4_layRead yX4_layRead ∈ wsL_law := List.mem_of_getElem? (i := 223) (by decide +kernel)
theorem mw_224 : Cond.code yX4_layRead cX4_layRead 3 none ∈ wsL_law := List.mem_of_getElem? (i := 224) (by decide +kernel)
theorem mw_225 : Cond.methodLink RX4 114 yX4_isThere ∈ wsL_law := List.mem_of_getElem? (i := 225) (by decide +kernel)
theorem mw_226 : Cond.instanceMethod yX4_isThere ∈ wsL_law := List.mem_of_getElem? (i := 226) (by decide +kernel)
theorem mw_227 : Cond.selects RX4 yX4_isThere yX4_isThere ∈ wsL_law := List.mem_of_getElem? (i := 227) (by decide +kernel)
theorem mw_228 : Cond.code yX4_isThere cX4_isThere 4 (some .boolean) ∈ wsL_law := List.mem_of_getElem? (i := 228) (by decide +kernel)
theorem mw_229 : Cond.methodLink RX4 106 yX4_has ∈ wsL_law := List.mem_of_getElem? (i := 229) (by decide +kernel)
theorem mw_230 : Cond.static yX4_has ∈ wsL_law := List.mem_of_getElem? (i := 230) (by decide +kernel)
theorem mw_231 : Cond.code yX4_has cX4_has 2 (some .boolean) ∈ wsL_law := List.mem_of_getElem? (i := 231) (by decide +kernel)
theorem mw_232 : Cond.methodLink RX4 117 yX4_standsAt ∈ wsL_law := List.mem_of_getElem? (i := 232) (by decide +kernel)
theorem mw_233 : Cond.instanceMethod yX4_standsAt ∈ wsL_law := List.mem_of_getElem? (i := 233) (by decide +kernel)
theorem mw_234 : Cond.selects RX4 yX4_standsAt yX4_standsAt ∈ wsL_law := List.mem_of_getElem? (i := 234) (by decide +kernel)
theorem mw_235 : Cond.code yX4_standsAt cX4_standsAt 5 (some .int) ∈ wsL_law := List.mem_of_getElem? (i := 235) (by decide +kernel)
theorem mw_236 : Cond.methodLink RX4 110 yX4_leadsOn ∈ wsL_law := List.mem_of_getElem? (i := 236) (by decide +kernel)
theorem mw_237 : Cond.instanceMethod yX4_leadsOn ∈ wsL_law := List.mem_of_getElem? (i := 237) (by decide +kernel)
theorem mw_238 : Cond.selects RX4 yX4_leadsOn yX4_leadsOn ∈ wsL_law := List.mem_of_getElem? (i := 238) (by decide +kernel)
theorem mw_239 : Cond.code yX4_leadsOn cX4_leadsOn 4 (some .int) ∈ wsL_law := List.mem_of_getElem? (i := 239) (by decide +kernel)
theorem mw_240 : Cond.methodLink RX4 138 yX4_ahead ∈ wsL_law := List.mem_of_getElem? (i := 240) (by decide +kernel)
theorem mw_241 : Cond.instanceMethod yX4_ahead ∈ wsL_law := List.mem_of_getElem? (i := 241) (by decide +kernel)
theorem mw_242 : Cond.selects RX4 yX4_ahead yX4_ahead ∈ wsL_law := List.mem_of_getElem? (i := 242) (by decide +kernel)
theorem mw_243 : Cond.code yX4_ahead cX4_ahead 2 (some .int) ∈ wsL_law := List.mem_of_getElem? (i := 243) (by decide +kernel)
theorem mw_244 : Cond.methodLink RX4 123 yX4_inLine ∈ wsL_law := List.mem_of_getElem? (i := 244) (by decide +kernel)
theorem mw_245 : Cond.instanceMethod yX4_inLine ∈ wsL_law := List.mem_of_getElem? (i := 245) (by decide +kernel)
theorem mw_246 : Cond.selects RX4 yX4_inLine yX4_inLine ∈ wsL_law := List.mem_of_getElem? (i := 246) (by decide +kernel)
theorem mw_247 : Cond.code yX4_inLine cX4_inLine 3 (some .int) ∈ wsL_law := List.mem_of_getElem? (i := 247) (by decide +kernel)
theorem mw_248 : Cond.methodLink RX4 141 yX4_layChange ∈ wsL_law := List.mem_of_getElem? (i := 248) (by decide +kernel)
theorem mw_249 : Cond.instanceMethod yX4_layChange ∈ wsL_law := List.mem_of_getElem? (i := 249) (by decide +kernel)
theorem mw_250 : Cond.selects RX4 yX4_layChange yX4_layChange ∈ wsL_law := List.mem_of_getElem? (i := 250) (by decide +kernel)
theorem mw_251 : Cond.code yX4_layChange cX4_layChange 3 (some .int) ∈ wsL_law := List.mem_of_getElem? (i := 251) (by decide +kernel)
theorem mw_252 : Cond.methodLink RL 32 yX3_remove ∈ wsL_law := List.mem_of_getElem? (i := 252) (by decide +kernel)
theorem mw_253 : Cond.instanceMethod yX3_remove ∈ wsL_law := List.mem_of_getElem? (i := 253) (by decide +kernel)
theorem mw_254 : Cond.selects RX3 yX3_remove yX3_remove ∈ wsL_law := List.mem_of_getElem? (i := 254) (by decide +kernel)
theorem mw_255 : Cond.code yX3_remove cX3_remove 8 (some .int) ∈ wsL_law := List.mem_of_getElem? (i := 255) (by decide +kernel)
theorem mw_256 : Cond.fieldLink RX3 121 "TrackedLetters$Line" "letterOf" "[I" ∈ wsL_law := List.mem_of_getElem? (i := 256) (by decide +kernel)
theorem mw_257 : Cond.methodLink RX3 117 yX3_refusalOfRange ∈ wsL_law := List.mem_of_getElem? (i := 257) (by decide +kernel)
theorem mw_258 : Cond.static yX3_refusalOfRange ∈ wsL_law := List.mem_of_getElem? (i := 258) (by decide +kernel)
theorem mw_259 : Cond.code yX3_refusalOfRange cX3_refusalOfRange 3 (some .int) ∈ wsL_law := List.mem_of_getElem? (i := 259) (by decide +kernel)
theorem mw_260 : Cond.methodLink RL 36 yX4_remove ∈ wsL_law := List.mem_of_getElem? (i := 260) (by decide +kernel)
theorem mw_261 : Cond.instanceMethod yX4_remove ∈ wsL_law := List.mem_of_getElem? (i := 261) (by decide +kernel)
theorem mw_262 : Cond.selects RX4 yX4_remove yX4_remove ∈ wsL_law := List.mem_of_getElem? (i := 262) (by decide +kernel)
theorem mw_263 : Cond.code yX4_remove cX4_remove 6 (some .int) ∈ wsL_law := List.mem_of_getElem? (i := 263) (by decide +kernel)
theorem mw_264 : Cond.methodLink RL 37 yX3_move ∈ wsL_law := List.mem_of_getElem? (i := 264) (by decide +kernel)
theorem mw_265 : Cond.instanceMethod yX3_move ∈ wsL_law := List.mem_of_getElem? (i := 265) (by decide +kernel)
theorem mw_266 : Cond.selects RX3 yX3_move yX3_move ∈ wsL_law := List.mem_of_getElem? (i := 266) (by decide +kernel)
theorem mw_267 : Cond.code yX3_move cX3_move 7 (some .int) ∈ wsL_law := List.mem_of_getElem? (i := 267) (by decide +kernel)
theorem mw_268 : Cond.methodLink RX3 124 yX3_moveLetters ∈ wsL_law := List.mem_of_getElem? (i := 268) (by decide +kernel)
theorem mw_269 : Cond.instanceMethod yX3_moveLetters ∈ wsL_law := List.mem_of_getElem? (i := 269) (by decide +kernel)
theorem mw_270 : Cond.selects RX3 yX3_moveLetters yX3_moveLetters ∈ wsL_law := List.mem_of_getElem? (i := 270) (by decide +kernel)
theorem mw_271 : Cond.code yX3_moveLetters cX3_moveLetters 8 (some .int) ∈ wsL_law := List.mem_of_getElem? (i := 271) (by decide +kernel)
theorem mw_272 : Cond.methodLink RL 41 yX4_move ∈ wsL_law := List.mem_of_getElem? (i := 272) (by decide +kernel)
theorem mw_273 : Cond.instanceMethod yX4_move ∈ wsL_law := List.mem_of_getElem? (i := 273) (by decide +kernel)
theorem mw_274 : Cond.selects RX4 yX4_move yX4_move ∈ wsL_law := List.mem_of_getElem? (i := 274) (by decide +kernel)
theorem mw_275 : Cond.code yX4_move cX4_move 8 (some .int) ∈ wsL_law := List.mem_of_getElem? (i := 275) (by decide +kernel)
theorem mw_276 : Cond.methodLink RL 42 yX3_show ∈ wsL_law := List.mem_of_getElem? (i := 276) (by decide +kernel)
theorem mw_277 : Cond.instanceMethod yX3_show ∈ wsL_law := List.mem_of_getElem? (i := 277) (by decide +kernel)
theorem mw_278 : Cond.selects RX3 yX3_show yX3_show ∈ wsL_law := List.mem_of_getElem? (i := 278) (by decide +kernel)
theorem mw_279 : Cond.code yX3_show cX3_show 4 (some .int) ∈ wsL_law := List.mem_of_getElem? (i := 279) (by decide +kernel)
theorem mw_280 : Cond.fieldLink RX3 131 "TrackedLetters$Changes" "shownOf" "[I" ∈ wsL_law := List.mem_of_getElem? (i := 280) (by decide +kernel)
theorem mw_281 : Cond.methodLink RX3 128 yX0_names ∈ wsL_law := List.mem_of_getElem? (i := 281) (by decide +kernel)
theorem mw_282 : Cond.instanceMethod yX0_names ∈ wsL_law := List.mem_of_getElem? (i := 282) (by decide +kernel)
theorem mw_283 : Cond.selects RX0 yX0_names yX0_names ∈ wsL_law := List.mem_of_getElem? (i := 283) (by decide +kernel)
theorem mw_284 : Cond.code yX0_names cX0_names 2 (some .boolean) ∈ wsL_law := List.mem_of_getElem? (i := 284) (by decide +kernel)
theorem mw_285 : Cond.methodLink RL 46 yX4_show ∈ wsL_law := List.mem_of_getElem? (i := 285) (by decide +kernel)
theorem mw_286 : Cond.instanceMethod yX4_show ∈ wsL_law := List.mem_of_getElem? (i := 286) (by decide +kernel)
theorem mw_287 : Cond.selects RX4 yX4_show yX4_show ∈ wsL_law := List.mem_of_getElem? (i := 287) (by decide +kernel)
theorem mw_288 : Cond.code yX4_show cX4_show 4 (some .int) ∈ wsL_law := List.mem_of_getElem? (i := 288) (by decide +kernel)
theorem mw_289 : Cond.methodLink RX4 144 yX4_isChange ∈ wsL_law := List.mem_of_getElem? (i := 289) (by decide +kernel)
theorem mw_290 : Cond.instanceMethod yX4_isChange ∈ wsL_law := List.mem_of_getElem? (i := 290) (by decide +kernel)
theorem mw_291 : Cond.selects RX4 yX4_isChange yX4_isChange ∈ wsL_law := List.mem_of_getElem? (i := 291) (by decide +kernel)
theorem mw_292 : Cond.code yX4_isChange cX4_isChange 2 (some .boolean) ∈ wsL_law := List.mem_of_getElem? (i := 292) (by decide +kernel)
theorem mw_293 : Cond.methodLink RL 47 yX3_decide ∈ wsL_law := List.mem_of_getElem? (i := 293) (by decide +kernel)
theorem mw_294 : Cond.instanceMethod yX3_decide ∈ wsL_law := List.mem_of_getElem? (i := 294) (by decide +kernel)
theorem mw_295 : Cond.selects RX3 yX3_decide yX3_decide ∈ wsL_law := List.mem_of_getElem? (i := 295) (by decide +kernel)
theorem mw_296 : Cond.code yX3_decide cX3_decide 4 (some .int) ∈ wsL_law := List.mem_of_getElem? (i := 296) (by decide +kernel)
theorem mw_297 : Cond.fieldLink RX3 134 "TrackedLetters$Changes" "statusOf" "[I" ∈ wsL_law := List.mem_of_getElem? (i := 297) (by decide +kernel)
theorem mw_298 : Cond.methodLink RL 50 yX4_decide ∈ wsL_law := List.mem_of_getElem? (i := 298) (by decide +kernel)
theorem mw_299 : Cond.instanceMethod yX4_decide ∈ wsL_law := List.mem_of_getElem? (i := 299) (by decide +kernel)
theorem mw_300 : Cond.selects RX4 yX4_decide yX4_decide ∈ wsL_law := List.mem_of_getElem? (i := 300) (by decide +kernel)
theorem mw_301 : Cond.code yX4_decide cX4_decide 4 (some .int) ∈ wsL_law := List.mem_of_getElem? (i := 301) (by decide +kernel)
theorem mw_302 : Cond.methodLink RL 51 yX3_settle ∈ wsL_law := List.mem_of_getElem? (i := 302) (by decide +kernel)
theorem mw_303 : Cond.instanceMethod yX3_settle ∈ wsL_law := List.mem_of_getElem? (i := 303) (by decide +kernel)
theorem mw_304 : Cond.selects RX3 yX3_settle yX3_settle ∈ wsL_law := List.mem_of_getElem? (i := 304) (by decide +kernel)
theorem mw_305 : Cond.code yX3_settle cX3_settle 3 (some .int) ∈ wsL_law := List.mem_of_getElem? (i := 305) (by decide +kernel)
theorem mw_306 : Cond.methodLink RL 54 yX4_settle ∈ wsL_law := List.mem_of_getElem? (i := 306) (by decide +kernel)
theorem mw_307 : Cond.instanceMethod yX4_settle ∈ wsL_law := List.mem_of_getElem? (i := 307) (by decide +kernel)
theorem mw_308 : Cond.selects RX4 yX4_settle yX4_settle ∈ wsL_law := List.mem_of_getElem? (i := 308) (by decide +kernel)
theorem mw_309 : Cond.code yX4_settle cX4_settle 2 (some .int) ∈ wsL_law := List.mem_of_getElem? (i := 309) (by decide +kernel)
theorem mw_310 : Cond.fieldLink RX4 150 "TrackedLettersModel" "settled" "I" ∈ wsL_law := List.mem_of_getElem? (i := 310) (by decide +kernel)
theorem mw_311 : Cond.methodLink RX4 147 yX4_inState ∈ wsL_law := List.mem_of_getElem? (i := 311) (by decide +kernel)
theorem mw_312 : Cond.instanceMethod yX4_inState ∈ wsL_law := List.mem_of_getElem? (i := 312) (by decide +kernel)
theorem mw_313 : Cond.selects RX4 yX4_inState yX4_inState ∈ wsL_law := List.mem_of_getElem? (i := 313) (by decide +kernel)
theorem mw_314 : Cond.code yX4_inState cX4_inState 4 (some .int) ∈ wsL_law := List.mem_of_getElem? (i := 314) (by decide +kernel)
theorem mw_315 : Cond.methodLink RL 55 yX3_length ∈ wsL_law := List.mem_of_getElem? (i := 315) (by decide +kernel)
theorem mw_316 : Cond.instanceMethod yX3_length ∈ wsL_law := List.mem_of_getElem? (i := 316) (by decide +kernel)
theorem mw_317 : Cond.selects RX3 yX3_length yX3_length ∈ wsL_law := List.mem_of_getElem? (i := 317) (by decide +kernel)
theorem mw_318 : Cond.code yX3_length cX3_length 2 (some .int) ∈ wsL_law := List.mem_of_getElem? (i := 318) (by decide +kernel)
theorem mw_319 : Cond.methodLink RX3 163 yX3_isView ∈ wsL_law := List.mem_of_getElem? (i := 319) (by decide +kernel)
theorem mw_320 : Cond.static yX3_isView ∈ wsL_law := List.mem_of_getElem? (i := 320) (by decide +kernel)
theorem mw_321 : Cond.code yX3_isView cX3_isView 1 (some .boolean) ∈ wsL_law := List.mem_of_getElem? (i := 321) (by decide +kernel)
theorem mw_322 : Cond.methodLink RL 58 yX4_length ∈ wsL_law := List.mem_of_getElem? (i := 322) (by decide +kernel)
theorem mw_323 : Cond.instanceMethod yX4_length ∈ wsL_law := List.mem_of_getElem? (i := 323) (by decide +kernel)
theorem mw_324 : Cond.selects RX4 yX4_length yX4_length ∈ wsL_law := List.mem_of_getElem? (i := 324) (by decide +kernel)
theorem mw_325 : Cond.code yX4_length cX4_length 2 (some .int) ∈ wsL_law := List.mem_of_getElem? (i := 325) (by decide +kernel)
theorem mw_326 : Cond.methodLink RX4 153 yX4_isView ∈ wsL_law := List.mem_of_getElem? (i := 326) (by decide +kernel)
theorem mw_327 : Cond.static yX4_isView ∈ wsL_law := List.mem_of_getElem? (i := 327) (by decide +kernel)
theorem mw_328 : Cond.code yX4_isView cX4_isView 1 (some .boolean) ∈ wsL_law := List.mem_of_getElem? (i := 328) (by decide +kernel)
theorem mw_329 : Cond.methodLink RX4 156 yX4_lengthOf ∈ wsL_law := List.mem_of_getElem? (i := 329) (by decide +kernel)
theorem mw_330 : Cond.instanceMethod yX4_lengthOf ∈ wsL_law := List.mem_of_getElem? (i := 330) (by decide +kernel)
theorem mw_331 : Cond.selects RX4 yX4_lengthOf yX4_lengthOf ∈ wsL_law := List.mem_of_getElem? (i := 331) (by decide +kernel)
theorem mw_332 : Cond.code yX4_lengthOf cX4_lengthOf 2 (some .int) ∈ wsL_law := List.mem_of_getElem? (i := 332) (by decide +kernel)
theorem mw_333 : Cond.methodLink RL 59 yX3_read ∈ wsL_law := List.mem_of_getElem? (i := 333) (by decide +kernel)
theorem mw_334 : Cond.instanceMethod yX3_read ∈ wsL_law := List.mem_of_getElem? (i := 334) (by decide +kernel)
theorem mw_335 : Cond.selects RX3 yX3_read yX3_read ∈ wsL_law := List.mem_of_getElem? (i := 335) (by decide +kernel)
theorem mw_336 : Cond.code yX3_read cX3_read 5 (some .int) ∈ wsL_law := List.mem_of_getElem? (i := 336) (by decide +kernel)
theorem mw_337 : Cond.methodLink RX3 166 yX3_letterFact ∈ wsL_law := List.mem_of_getElem? (i := 337) (by decide +kernel)
theorem mw_338 : Cond.instanceMethod yX3_letterFact ∈ wsL_law := List.mem_of_getElem? (i := 338) (by decide +kernel)
theorem mw_339 : Cond.selects RX3 yX3_letterFact yX3_letterFact ∈ wsL_law := List.mem_of_getElem? (i := 339) (by decide +kernel)
theorem mw_340 : Cond.code yX3_letterFact cX3_letterFact 4 (some .int) ∈ wsL_law := List.mem_of_getElem? (i := 340) (by decide +kernel)
theorem mw_341 : Cond.fieldLink RX3 169 "TrackedLetters$Line" "byOf" "[I" ∈ wsL_law := List.mem_of_getElem? (i := 341) (by decide +kernel)
theorem mw_342 : Cond.methodLink RX3 172 yX0_openOnes ∈ wsL_law := List.mem_of_getElem? (i := 342) (by decide +kernel)
theorem mw_343 : Cond.instanceMethod yX0_openOnes ∈ wsL_law := List.mem_of_getElem? (i := 343) (by decide +kernel)
theorem mw_344 : Cond.selects RX0 yX0_openOnes yX0_openOnes ∈ wsL_law := List.mem_of_getElem? (i := 344) (by decide +kernel)
theorem mw_345 : Cond.code yX0_openOnes cX0_openOnes 5 (some .int) ∈ wsL_law := List.mem_of_getElem? (i := 345) (by decide +kernel)
theorem mw_346 : Cond.methodLink RL 62 yX4_read ∈ wsL_law := List.mem_of_getElem? (i := 346) (by decide +kernel)
theorem mw_347 : Cond.instanceMethod yX4_read ∈ wsL_law := List.mem_of_getElem? (i := 347) (by decide +kernel)
theorem mw_348 : Cond.selects RX4 yX4_read yX4_read ∈ wsL_law := List.mem_of_getElem? (i := 348) (by decide +kernel)
theorem mw_349 : Cond.code yX4_read cX4_read 4 (some .int) ∈ wsL_law := List.mem_of_getElem? (i := 349) (by decide +kernel)
theorem mw_350 : Cond.methodLink RX4 165 yX4_readNow ∈ wsL_law := List.mem_of_getElem? (i := 350) (by decide +kernel)
theorem mw_351 : Cond.instanceMethod yX4_readNow ∈ wsL_law := List.mem_of_getElem? (i := 351) (by decide +kernel)
theorem mw_352 : Cond.selects RX4 yX4_readNow yX4_readNow ∈ wsL_law := List.mem_of_getElem? (i := 352) (by decide +kernel)
theorem mw_353 : Cond.code yX4_readNow cX4_readNow 4 (some .int) ∈ wsL_law := List.mem_of_getElem? (i := 353) (by decide +kernel)
theorem mw_354 : Cond.methodLink RX4 159 yX4_ones ∈ wsL_law := List.mem_of_getElem? (i := 354) (by decide +kernel)
theorem mw_355 : Cond.static yX4_ones ∈ wsL_law := List.mem_of_getElem? (i := 355) (by decide +kernel)
theorem mw_356 : Cond.code yX4_ones cX4_ones 3 (some .int) ∈ wsL_law := List.mem_of_getElem? (i := 356) (by decide +kernel)
theorem mw_357 : Cond.methodLink RX4 162 yX4_movedBy ∈ wsL_law := List.mem_of_getElem? (i := 357) (by decide +kernel)
theorem mw_358 : Cond.instanceMethod yX4_movedBy ∈ wsL_law := List.mem_of_getElem? (i := 358) (by decide +kernel)
theorem mw_359 : Cond.selects RX4 yX4_movedBy yX4_movedBy ∈ wsL_law := List.mem_of_getElem? (i := 359) (by decide +kernel)
theorem mw_360 : Cond.code yX4_movedBy cX4_movedBy 4 (some .int) ∈ wsL_law := List.mem_of_getElem? (i := 360) (by decide +kernel)
theorem mw_361 : Cond.methodLink RL 63 yX3_place ∈ wsL_law := List.mem_of_getElem? (i := 361) (by decide +kernel)
theorem mw_362 : Cond.instanceMethod yX3_place ∈ wsL_law := List.mem_of_getElem? (i := 362) (by decide +kernel)
theorem mw_363 : Cond.selects RX3 yX3_place yX3_place ∈ wsL_law := List.mem_of_getElem? (i := 363) (by decide +kernel)
theorem mw_364 : Cond.code yX3_place cX3_place 3 (some .int) ∈ wsL_law := List.mem_of_getElem? (i := 364) (by decide +kernel)
theorem mw_365 : Cond.methodLink RX3 175 yX3_placeFact ∈ wsL_law := List.mem_of_getElem? (i := 365) (by decide +kernel)
theorem mw_366 : Cond.instanceMethod yX3_placeFact ∈ wsL_law := List.mem_of_getElem? (i := 366) (by decide +kernel)
theorem mw_367 : Cond.selects RX3 yX3_placeFact yX3_placeFact ∈ wsL_law := List.mem_of_getElem? (i := 367) (by decide +kernel)
theorem mw_368 : Cond.code yX3_placeFact cX3_placeFact 3 (some .int) ∈ wsL_law := List.mem_of_getElem? (i := 368) (by decide +kernel)
theorem mw_369 : Cond.fieldLink RX3 178 "TrackedLetters$Line" "fromOf" "[I" ∈ wsL_law := List.mem_of_getElem? (i := 369) (by decide +kernel)
theorem mw_370 : Cond.methodLink RX3 181 yX3_markOf ∈ wsL_law := List.mem_of_getElem? (i := 370) (by decide +kernel)
theorem mw_371 : Cond.instanceMethod yX3_markOf ∈ wsL_law := List.mem_of_getElem? (i := 371) (by decide +kernel)
theorem mw_372 : Cond.selects RX3 yX3_markOf yX3_markOf ∈ wsL_law := List.mem_of_getElem? (i := 372) (by decide +kernel)
theorem mw_373 : Cond.code yX3_markOf cX3_markOf 6 (some .int) ∈ wsL_law := List.mem_of_getElem? (i := 373) (by decide +kernel)
theorem mw_374 : Cond.methodLink RL 66 yX4_place ∈ wsL_law := List.mem_of_getElem? (i := 374) (by decide +kernel)
theorem mw_375 : Cond.instanceMethod yX4_place ∈ wsL_law := List.mem_of_getElem? (i := 375) (by decide +kernel)
theorem mw_376 : Cond.selects RX4 yX4_place yX4_place ∈ wsL_law := List.mem_of_getElem? (i := 376) (by decide +kernel)
theorem mw_377 : Cond.code yX4_place cX4_place 3 (some .int) ∈ wsL_law := List.mem_of_getElem? (i := 377) (by decide +kernel)
theorem mw_378 : Cond.methodLink RX4 174 yX4_placeNow ∈ wsL_law := List.mem_of_getElem? (i := 378) (by decide +kernel)
theorem mw_379 : Cond.instanceMethod yX4_placeNow ∈ wsL_law := List.mem_of_getElem? (i := 379) (by decide +kernel)
theorem mw_380 : Cond.selects RX4 yX4_placeNow yX4_placeNow ∈ wsL_law := List.mem_of_getElem? (i := 380) (by decide +kernel)
theorem mw_381 : Cond.code yX4_placeNow cX4_placeNow 3 (some .int) ∈ wsL_law := List.mem_of_getElem? (i := 381) (by decide +kernel)
theorem mw_382 : Cond.methodLink RX4 171 yX4_markOf ∈ wsL_law := List.mem_of_getElem? (i := 382) (by decide +kernel)
theorem mw_383 : Cond.instanceMethod yX4_markOf ∈ wsL_law := List.mem_of_getElem? (i := 383) (by decide +kernel)
theorem mw_384 : Cond.selects RX4 yX4_markOf yX4_markOf ∈ wsL_law := List.mem_of_getElem? (i := 384) (by decide +kernel)
theorem mw_385 : Cond.code yX4_markOf cX4_markOf 4 (some .int) ∈ wsL_law := List.mem_of_getElem? (i := 385) (by decide +kernel)
theorem mw_386 : Cond.methodLink RX4 168 yX4_isAt ∈ wsL_law := List.mem_of_getElem? (i := 386) (by decide +kernel)
theorem mw_387 : Cond.instanceMethod yX4_isAt ∈ wsL_law := List.mem_of_getElem? (i := 387) (by decide +kernel)
theorem mw_388 : Cond.selects RX4 yX4_isAt yX4_isAt ∈ wsL_law := List.mem_of_getElem? (i := 388) (by decide +kernel)
theorem mw_389 : Cond.code yX4_isAt cX4_isAt 4 (some .boolean) ∈ wsL_law := List.mem_of_getElem? (i := 389) (by decide +kernel)
theorem mw_390 : Cond.methodLink RL 67 yX3_change ∈ wsL_law := List.mem_of_getElem? (i := 390) (by decide +kernel)
theorem mw_391 : Cond.instanceMethod yX3_change ∈ wsL_law := List.mem_of_getElem? (i := 391) (by decide +kernel)
theorem mw_392 : Cond.selects RX3 yX3_change yX3_change ∈ wsL_law := List.mem_of_getElem? (i := 392) (by decide +kernel)
theorem mw_393 : Cond.code yX3_change cX3_change 3 (some .int) ∈ wsL_law := List.mem_of_getElem? (i := 393) (by decide +kernel)
theorem mw_394 : Cond.methodLink RX3 184 yX3_changeFact ∈ wsL_law := List.mem_of_getElem? (i := 394) (by decide +kernel)
theorem mw_395 : Cond.instanceMethod yX3_changeFact ∈ wsL_law := List.mem_of_getElem? (i := 395) (by decide +kernel)
theorem mw_396 : Cond.selects RX3 yX3_changeFact yX3_changeFact ∈ wsL_law := List.mem_of_getElem? (i := 396) (by decide +kernel)
theorem mw_397 : Cond.code yX3_changeFact cX3_changeFact 3 (some .int) ∈ wsL_law := List.mem_of_getElem? (i := 397) (by decide +kernel)
theorem mw_398 : Cond.fieldLink RX3 187 "TrackedLetters$Changes" "authorOf" "[I" ∈ wsL_law := List.mem_of_getElem? (i := 398) (by decide +kernel)
theorem mw_399 : Cond.methodLink RX3 157 yJ13_bitCount_95d88 ∈ wsL_law := List.mem_of_getElem? (i := 399) (by decide +kernel)
theorem mw_400 : Cond.static yJ13_bitCount_95d88 ∈ wsL_law := List.mem_of_getElem? (i := 400) (by decide +kernel)
theorem mw_401 : Cond.initialized RJ13 ∈ wsL_law := List.mem_of_getElem? (i := 401) (by decide +kernel)
theorem mw_402 : Cond.code yJ13_bitCount_95d88 cJ13_bitCount_95d88 2 (some .int) ∈ wsL_law := List.mem_of_getElem? (i := 402) (by decide +kernel)
theorem mw_403 : Cond.constantLong RJ13 314 (6148914691236517205) ∈ wsL_law := List.mem_of_getElem? (i := 403) (by decide +kernel)
theorem mw_404 : Cond.constantLong RJ13 316 (3689348814741910323) ∈ wsL_law := List.mem_of_getElem? (i := 404) (by decide +kernel)
theorem mw_405 : Cond.constantLong RJ13 318 (1085102592571150095) ∈ wsL_law := List.mem_of_getElem? (i := 405) (by decide +kernel)
theorem mw_406 : Cond.methodLink RX3 190 yX3_idleOf ∈ wsL_law := List.mem_of_getElem? (i := 406) (by decide +kernel)
theorem mw_407 : Cond.instanceMethod yX3_idleOf ∈ wsL_law := List.mem_of_getElem? (i := 407) (by decide +kernel)
theorem mw_408 : Cond.selects RX3 yX3_idleOf yX3_idleOf ∈ wsL_law := List.mem_of_getElem? (i := 408) (by decide +kernel)
theorem mw_409 : Cond.code yX3_idleOf cX3_idleOf 12 (some .int) ∈ wsL_law := List.mem_of_getElem? (i := 409) (by decide +kernel)
theorem mw_410 : Cond.methodLink RX3 193 yX0_insertsUnder ∈ wsL_law := List.mem_of_getElem? (i := 410) (by decide +kernel)
theorem mw_411 : Cond.instanceMethod yX0_insertsUnder ∈ wsL_law := List.mem_of_getElem? (i := 411) (by decide +kernel)
theorem mw_412 : Cond.selects RX0 yX0_insertsUnder yX0_insertsUnder ∈ wsL_law := List.mem_of_getElem? (i := 412) (by decide +kernel)
theorem mw_413 : Cond.code yX0_insertsUnder cX0_insertsUnder 4 (some .int) ∈ wsL_law := List.mem_of_getElem? (i := 413) (by decide +kernel)
theorem mw_414 : Cond.methodLink RX3 196 yX1_leadersUnder ∈ wsL_law := List.mem_of_getElem? (i := 414) (by decide +kernel)
theorem mw_415 : Cond.instanceMethod yX1_leadersUnder ∈ wsL_law := List.mem_of_getElem? (i := 415) (by decide +kernel)
theorem mw_416 : Cond.selects RX1 yX1_leadersUnder yX1_leadersUnder ∈ wsL_law := List.mem_of_getElem? (i := 416) (by decide +kernel)
theorem mw_417 : Cond.code yX1_leadersUnder cX1_leadersUnder 4 (some .int) ∈ wsL_law := List.mem_of_getElem? (i := 417) (by decide +kernel)
theorem mw_418 : Cond.methodLink RL 70 yX4_change ∈ wsL_law := List.mem_of_getElem? (i := 418) (by decide +kernel)
theorem mw_419 : Cond.instanceMethod yX4_change ∈ wsL_law := List.mem_of_getElem? (i := 419) (by decide +kernel)
theorem mw_420 : Cond.selects RX4 yX4_change yX4_change ∈ wsL_law := List.mem_of_getElem? (i := 420) (by decide +kernel)
theorem mw_421 : Cond.code yX4_change cX4_change 3 (some .int) ∈ wsL_law := List.mem_of_getElem? (i := 421) (by decide +kernel)
theorem mw_422 : Cond.methodLink RX4 190 yX4_changeNow ∈ wsL_law := List.mem_of_getElem? (i := 422) (by decide +kernel)
theorem mw_423 : Cond.instanceMethod yX4_changeNow ∈ wsL_law := List.mem_of_getElem? (i := 423) (by decide +kernel)
theorem mw_424 : Cond.selects RX4 yX4_changeNow yX4_changeNow ∈ wsL_law := List.mem_of_getElem? (i := 424) (by decide +kernel)
theorem mw_425 : Cond.code yX4_changeNow cX4_changeNow 3 (some .int) ∈ wsL_law := List.mem_of_getElem? (i := 425) (by decide +kernel)
theorem mw_426 : Cond.methodLink RX4 183 yX4_touchedBy ∈ wsL_law := List.mem_of_getElem? (i := 426) (by decide +kernel)
theorem mw_427 : Cond.instanceMethod yX4_touchedBy ∈ wsL_law := List.mem_of_getElem? (i := 427) (by decide +kernel)
theorem mw_428 : Cond.selects RX4 yX4_touchedBy yX4_touchedBy ∈ wsL_law := List.mem_of_getElem? (i := 428) (by decide +kernel)
theorem mw_429 : Cond.code yX4_touchedBy cX4_touchedBy 5 (some .int) ∈ wsL_law := List.mem_of_getElem? (i := 429) (by decide +kernel)
theorem mw_430 : Cond.methodLink RX4 177 yX4_isTouched ∈ wsL_law := List.mem_of_getElem? (i := 430) (by decide +kernel)
theorem mw_431 : Cond.instanceMethod yX4_isTouched ∈ wsL_law := List.mem_of_getElem? (i := 431) (by decide +kernel)
theorem mw_432 : Cond.selects RX4 yX4_isTouched yX4_isTouched ∈ wsL_law := List.mem_of_getElem? (i := 432) (by decide +kernel)
theorem mw_433 : Cond.code yX4_isTouched cX4_isTouched 3 (some .boolean) ∈ wsL_law := List.mem_of_getElem? (i := 433) (by decide +kernel)
theorem mw_434 : Cond.methodLink RX4 180 yX4_isIdle ∈ wsL_law := List.mem_of_getElem? (i := 434) (by decide +kernel)
theorem mw_435 : Cond.instanceMethod yX4_isIdle ∈ wsL_law := List.mem_of_getElem? (i := 435) (by decide +kernel)
theorem mw_436 : Cond.selects RX4 yX4_isIdle yX4_isIdle ∈ wsL_law := List.mem_of_getElem? (i := 436) (by decide +kernel)
theorem mw_437 : Cond.code yX4_isIdle cX4_isIdle 6 (some .boolean) ∈ wsL_law := List.mem_of_getElem? (i := 437) (by decide +kernel)
theorem mw_438 : Cond.methodLink RX4 187 yX4_leansOn ∈ wsL_law := List.mem_of_getElem? (i := 438) (by decide +kernel)
theorem mw_439 : Cond.instanceMethod yX4_leansOn ∈ wsL_law := List.mem_of_getElem? (i := 439) (by decide +kernel)
theorem mw_440 : Cond.selects RX4 yX4_leansOn yX4_leansOn ∈ wsL_law := List.mem_of_getElem? (i := 440) (by decide +kernel)
theorem mw_441 : Cond.code yX4_leansOn cX4_leansOn 5 (some .int) ∈ wsL_law := List.mem_of_getElem? (i := 441) (by decide +kernel)
theorem mw_442 : Cond.methodLink RL 71 yX3_span ∈ wsL_law := List.mem_of_getElem? (i := 442) (by decide +kernel)
theorem mw_443 : Cond.instanceMethod yX3_span ∈ wsL_law := List.mem_of_getElem? (i := 443) (by decide +kernel)
theorem mw_444 : Cond.selects RX3 yX3_span yX3_span ∈ wsL_law := List.mem_of_getElem? (i := 444) (by decide +kernel)
theorem mw_445 : Cond.code yX3_span cX3_span 3 (some .int) ∈ wsL_law := List.mem_of_getElem? (i := 445) (by decide +kernel)
theorem mw_446 : Cond.fieldLink RX3 202 "TrackedLetters$Spans" "size" "I" ∈ wsL_law := List.mem_of_getElem? (i := 446) (by decide +kernel)
theorem mw_447 : Cond.methodLink RX3 199 yX3_cutSpans ∈ wsL_law := List.mem_of_getElem? (i := 447) (by decide +kernel)
theorem mw_448 : Cond.instanceMethod yX3_cutSpans ∈ wsL_law := List.mem_of_getElem? (i := 448) (by decide +kernel)
theorem mw_449 : Cond.selects RX3 yX3_cutSpans yX3_cutSpans ∈ wsL_law := List.mem_of_getElem? (i := 449) (by decide +kernel)
theorem mw_450 : Cond.code yX3_cutSpans cX3_cutSpans 3 none ∈ wsL_law := List.mem_of_getElem? (i := 450) (by decide +kernel)
theorem mw_451 : Cond.methodLink RX3 206 yX2_take ∈ wsL_law := List.mem_of_getElem? (i := 451) (by decide +kernel)
theorem mw_452 : Cond.instanceMethod yX2_take ∈ wsL_law := List.mem_of_getElem? (i := 452) (by decide +kernel)
theorem mw_453 : Cond.selects RX2 yX2_take yX2_take ∈ wsL_law := List.mem_of_getElem? (i := 453) (by decide +kernel)
theorem mw_454 : Cond.code yX2_take cX2_take 3 none ∈ wsL_law := List.mem_of_getElem? (i := 454) (by decide +kernel)
theorem mw_455 : Cond.methodLink RX3 203 yX2_factOf ∈ wsL_law := List.mem_of_getElem? (i := 455) (by decide +kernel)
theorem mw_456 : Cond.instanceMethod yX2_factOf ∈ wsL_law := List.mem_of_getElem? (i := 456) (by decide +kernel)
theorem mw_457 : Cond.selects RX2 yX2_factOf yX2_factOf ∈ wsL_law := List.mem_of_getElem? (i := 457) (by decide +kernel)
theorem mw_458 : Cond.code yX2_factOf cX2_factOf 3 (some .int) ∈ wsL_law := List.mem_of_getElem? (i := 458) (by decide +kernel)
theorem mw_459 : Cond.methodLink RL 74 yX4_span ∈ wsL_law := List.mem_of_getElem? (i := 459) (by decide +kernel)
theorem mw_460 : Cond.instanceMethod yX4_span ∈ wsL_law := List.mem_of_getElem? (i := 460) (by decide +kernel)
theorem mw_461 : Cond.selects RX4 yX4_span yX4_span ∈ wsL_law := List.mem_of_getElem? (i := 461) (by decide +kernel)
theorem mw_462 : Cond.code yX4_span cX4_span 3 (some .int) ∈ wsL_law := List.mem_of_getElem? (i := 462) (by decide +kernel)
theorem mw_463 : Cond.fieldLink RX4 193 "TrackedLettersModel" "spans" "I" ∈ wsL_law := List.mem_of_getElem? (i := 463) (by decide +kernel)
theorem mw_464 : Cond.methodLink RX4 196 yX4_laySpans ∈ wsL_law := List.mem_of_getElem? (i := 464) (by decide +kernel)
theorem mw_465 : Cond.instanceMethod yX4_laySpans ∈ wsL_law := List.mem_of_getElem? (i := 465) (by decide +kernel)
theorem mw_466 : Cond.selects RX4 yX4_laySpans yX4_laySpans ∈ wsL_law := List.mem_of_getElem? (i := 466) (by decide +kernel)
theorem mw_467 : Cond.code yX4_laySpans cX4_laySpans 4 none ∈ wsL_law := List.mem_of_getElem? (i := 467) (by decide +kernel)
theorem mw_468 : Cond.methodLink RL 75 yX3_found ∈ wsL_law := List.mem_of_getElem? (i := 468) (by decide +kernel)
theorem mw_469 : Cond.instanceMethod yX3_found ∈ wsL_law := List.mem_of_getElem? (i := 469) (by decide +kernel)
theorem mw_470 : Cond.selects RX3 yX3_found yX3_found ∈ wsL_law := List.mem_of_getElem? (i := 470) (by decide +kernel)
theorem mw_471 : Cond.code yX3_found cX3_found 2 (some .int) ∈ wsL_law := List.mem_of_getElem? (i := 471) (by decide +kernel)
theorem mw_472 : Cond.methodLink RX3 209 yX3_seekPage ∈ wsL_law := List.mem_of_getElem? (i := 472) (by decide +kernel)
theorem mw_473 : Cond.instanceMethod yX3_seekPage ∈ wsL_law := List.mem_of_getElem? (i := 473) (by decide +kernel)
theorem mw_474 : Cond.selects RX3 yX3_seekPage yX3_seekPage ∈ wsL_law := List.mem_of_getElem? (i := 474) (by decide +kernel)
theorem mw_475 : Cond.code yX3_seekPage cX3_seekPage 4 none ∈ wsL_law := List.mem_of_getElem? (i := 475) (by decide +kernel)
theorem mw_476 : Cond.methodLink RX3 212 yX3_readsAsPage ∈ wsL_law := List.mem_of_getElem? (i := 476) (by decide +kernel)
theorem mw_477 : Cond.instanceMethod yX3_readsAsPage ∈ wsL_law := List.mem_of_getElem? (i := 477) (by decide +kernel)
theorem mw_478 : Cond.selects RX3 yX3_readsAsPage yX3_readsAsPage ∈ wsL_law := List.mem_of_getElem? (i := 478) (by decide +kernel)
theorem mw_479 : Cond.code yX3_readsAsPage cX3_readsAsPage 6 (some .boolean) ∈ wsL_law := List.mem_of_getElem? (i := 479) (by decide +kernel)
theorem mw_480 : Cond.methodLink RX3 215 yJ6_bitCount_0f7a4 ∈ wsL_law := List.mem_of_getElem? (i := 480) (by decide +kernel)
theorem mw_481 : Cond.static yJ6_bitCount_0f7a4 ∈ wsL_law := List.mem_of_getElem? (i := 481) (by decide +kernel)
theorem mw_482 : Cond.initialized RJ6 ∈ wsL_law := List.mem_of_getElem? (i := 482) (by decide +kernel)
theorem mw_483 : Cond.code yJ6_bitCount_0f7a4 cJ6_bitCount_0f7a4 1 (some .int) ∈ wsL_law := List.mem_of_getElem? (i := 483) (by decide +kernel)
theorem mw_484 : Cond.constant RJ6 265 (1431655765) ∈ wsL_law := List.mem_of_getElem? (i := 484) (by decide +kernel)
theorem mw_485 : Cond.constant RJ6 266 (858993459) ∈ wsL_law := List.mem_of_getElem? (i := 485) (by decide +kernel)
theorem mw_486 : Cond.constant RJ6 267 (252645135) ∈ wsL_law := List.mem_of_getElem? (i := 486) (by decide +kernel)
theorem mw_487 : Cond.methodLink RL 78 yX4_found ∈ wsL_law := List.mem_of_getElem? (i := 487) (by decide +kernel)
theorem mw_488 : Cond.instanceMethod yX4_found ∈ wsL_law := List.mem_of_getElem? (i := 488) (by decide +kernel)
theorem mw_489 : Cond.selects RX4 yX4_found yX4_found ∈ wsL_law := List.mem_of_getElem? (i := 489) (by decide +kernel)
theorem mw_490 : Cond.code yX4_found cX4_found 2 (some .int) ∈ wsL_law := List.mem_of_getElem? (i := 490) (by decide +kernel)
theorem mw_491 : Cond.fieldLink RX4 199 "TrackedLettersModel" "sets" "I" ∈ wsL_law := List.mem_of_getElem? (i := 491) (by decide +kernel)
theorem mw_492 : Cond.fieldLink RX4 202 "TrackedLettersModel" "best" "I" ∈ wsL_law := List.mem_of_getElem? (i := 492) (by decide +kernel)
theorem mw_493 : Cond.methodLink RX4 208 yX4_layFound ∈ wsL_law := List.mem_of_getElem? (i := 493) (by decide +kernel)
theorem mw_494 : Cond.instanceMethod yX4_layFound ∈ wsL_law := List.mem_of_getElem? (i := 494) (by decide +kernel)
theorem mw_495 : Cond.selects RX4 yX4_layFound yX4_layFound ∈ wsL_law := List.mem_of_getElem? (i := 495) (by decide +kernel)
theorem mw_496 : Cond.code yX4_layFound cX4_layFound 4 none ∈ wsL_law := List.mem_of_getElem? (i := 496) (by decide +kernel)
theorem mw_497 : Cond.methodLink RX4 205 yX4_readsAsPage ∈ wsL_law := List.mem_of_getElem? (i := 497) (by decide +kernel)
theorem mw_498 : Cond.instanceMethod yX4_readsAsPage ∈ wsL_law := List.mem_of_getElem? (i := 498) (by decide +kernel)
theorem mw_499 : Cond.selects RX4 yX4_readsAsPage yX4_readsAsPage ∈ wsL_law := List.mem_of_getElem? (i := 499) (by decide +kernel)
theorem mw_500 : Cond.code yX4_readsAsPage cX4_readsAsPage 4 (some .boolean) ∈ wsL_law := List.mem_of_getElem? (i := 500) (by decide +kernel)
theorem mw_501 : Cond.methodLink RL 79 yX3_count ∈ wsL_law := List.mem_of_getElem? (i := 501) (by decide +kernel)
theorem mw_502 : Cond.instanceMethod yX3_count ∈ wsL_law := List.mem_of_getElem? (i := 502) (by decide +kernel)
theorem mw_503 : Cond.selects RX3 yX3_count yX3_count ∈ wsL_law := List.mem_of_getElem? (i := 503) (by decide +kernel)
theorem mw_504 : Cond.code yX3_count cX3_count 2 (some .int) ∈ wsL_law := List.mem_of_getElem? (i := 504) (by decide +kernel)
theorem mw_505 : Cond.methodLink RX3 219 yX1_tornBy ∈ wsL_law := List.mem_of_getElem? (i := 505) (by decide +kernel)
theorem mw_506 : Cond.instanceMethod yX1_tornBy ∈ wsL_law := List.mem_of_getElem? (i := 506) (by decide +kernel)
theorem mw_507 : Cond.selects RX1 yX1_tornBy yX1_tornBy ∈ wsL_law := List.mem_of_getElem? (i := 507) (by decide +kernel)
theorem mw_508 : Cond.code yX1_tornBy cX1_tornBy 5 (some .long) ∈ wsL_law := List.mem_of_getElem? (i := 508) (by decide +kernel)
theorem mw_509 : Cond.methodLink RX1 32 yJ6_bitCount_0f7a4 ∈ wsL_law := List.mem_of_getElem? (i := 509) (by decide +kernel)
theorem mw_510 : Cond.methodLink RX3 222 yX0_deletedTwice ∈ wsL_law := List.mem_of_getElem? (i := 510) (by decide +kernel)
theorem mw_511 : Cond.instanceMethod yX0_deletedTwice ∈ wsL_law := List.mem_of_getElem? (i := 511) (by decide +kernel)
theorem mw_512 : Cond.selects RX0 yX0_deletedTwice yX0_deletedTwice ∈ wsL_law := List.mem_of_getElem? (i := 512) (by decide +kernel)
theorem mw_513 : Cond.code yX0_deletedTwice cX0_deletedTwice 6 (some .long) ∈ wsL_law := List.mem_of_getElem? (i := 513) (by decide +kernel)
theorem mw_514 : Cond.methodLink RL 82 yX4_count ∈ wsL_law := List.mem_of_getElem? (i := 514) (by decide +kernel)
theorem mw_515 : Cond.instanceMethod yX4_count ∈ wsL_law := List.mem_of_getElem? (i := 515) (by decide +kernel)
theorem mw_516 : Cond.selects RX4 yX4_count yX4_count ∈ wsL_law := List.mem_of_getElem? (i := 516) (by decide +kernel)
theorem mw_517 : Cond.code yX4_count cX4_count 2 (some .int) ∈ wsL_law := List.mem_of_getElem? (i := 517) (by decide +kernel)
theorem mw_518 : Cond.methodLink RX4 221 yX4_howMany ∈ wsL_law := List.mem_of_getElem? (i := 518) (by decide +kernel)
theorem mw_519 : Cond.instanceMethod yX4_howMany ∈ wsL_law := List.mem_of_getElem? (i := 519) (by decide +kernel)
theorem mw_520 : Cond.selects RX4 yX4_howMany yX4_howMany ∈ wsL_law := List.mem_of_getElem? (i := 520) (by decide +kernel)
theorem mw_521 : Cond.code yX4_howMany cX4_howMany 2 (some .int) ∈ wsL_law := List.mem_of_getElem? (i := 521) (by decide +kernel)
theorem mw_522 : Cond.methodLink RX4 217 yX4_tornMany ∈ wsL_law := List.mem_of_getElem? (i := 522) (by decide +kernel)
theorem mw_523 : Cond.instanceMethod yX4_tornMany ∈ wsL_law := List.mem_of_getElem? (i := 523) (by decide +kernel)
theorem mw_524 : Cond.selects RX4 yX4_tornMany yX4_tornMany ∈ wsL_law := List.mem_of_getElem? (i := 524) (by decide +kernel)
theorem mw_525 : Cond.code yX4_tornMany cX4_tornMany 3 (some .int) ∈ wsL_law := List.mem_of_getElem? (i := 525) (by decide +kernel)
theorem mw_526 : Cond.methodLink RX4 214 yX4_isTorn ∈ wsL_law := List.mem_of_getElem? (i := 526) (by decide +kernel)
theorem mw_527 : Cond.instanceMethod yX4_isTorn ∈ wsL_law := List.mem_of_getElem? (i := 527) (by decide +kernel)
theorem mw_528 : Cond.selects RX4 yX4_isTorn yX4_isTorn ∈ wsL_law := List.mem_of_getElem? (i := 528) (by decide +kernel)
theorem mw_529 : Cond.code yX4_isTorn cX4_isTorn 5 (some .boolean) ∈ wsL_law := List.mem_of_getElem? (i := 529) (by decide +kernel)
theorem mw_530 : Cond.methodLink RX4 211 yX4_openFrom ∈ wsL_law := List.mem_of_getElem? (i := 530) (by decide +kernel)
theorem mw_531 : Cond.instanceMethod yX4_openFrom ∈ wsL_law := List.mem_of_getElem? (i := 531) (by decide +kernel)
theorem mw_532 : Cond.selects RX4 yX4_openFrom yX4_openFrom ∈ wsL_law := List.mem_of_getElem? (i := 532) (by decide +kernel)
theorem mw_533 : Cond.code yX4_openFrom cX4_openFrom 5 (some .int) ∈ wsL_law := List.mem_of_getElem? (i := 533) (by decide +kernel)
theorem mw_534 : Cond.methodLink RL 83 yX3_digest ∈ wsL_law := List.mem_of_getElem? (i := 534) (by decide +kernel)
theorem mw_535 : Cond.instanceMethod yX3_digest ∈ wsL_law := List.mem_of_getElem? (i := 535) (by decide +kernel)
theorem mw_536 : Cond.selects RX3 yX3_digest yX3_digest ∈ wsL_law := List.mem_of_getElem? (i := 536) (by decide +kernel)
theorem mw_537 : Cond.code yX3_digest cX3_digest 4 (some .long) ∈ wsL_law := List.mem_of_getElem? (i := 537) (by decide +kernel)
theorem mw_538 : Cond.constantLong RX3 226 (1619) ∈ wsL_law := List.mem_of_getElem? (i := 538) (by decide +kernel)
theorem mw_539 : Cond.methodLink RX3 228 yX3_withView ∈ wsL_law := List.mem_of_getElem? (i := 539) (by decide +kernel)
theorem mw_540 : Cond.instanceMethod yX3_withView ∈ wsL_law := List.mem_of_getElem? (i := 540) (by decide +kernel)
theorem mw_541 : Cond.selects RX3 yX3_withView yX3_withView ∈ wsL_law := List.mem_of_getElem? (i := 541) (by decide +kernel)
theorem mw_542 : Cond.code yX3_withView cX3_withView 9 (some .long) ∈ wsL_law := List.mem_of_getElem? (i := 542) (by decide +kernel)
theorem mw_543 : Cond.methodLink RX3 242 yX3_with ∈ wsL_law := List.mem_of_getElem? (i := 543) (by decide +kernel)
theorem mw_544 : Cond.static yX3_with ∈ wsL_law := List.mem_of_getElem? (i := 544) (by decide +kernel)
theorem mw_545 : Cond.code yX3_with cX3_with 3 (some .long) ∈ wsL_law := List.mem_of_getElem? (i := 545) (by decide +kernel)
theorem mw_546 : Cond.constantLong RX3 248 (31) ∈ wsL_law := List.mem_of_getElem? (i := 546) (by decide +kernel)
theorem mw_547 : Cond.methodLink RX3 232 yX3_withPlaces ∈ wsL_law := List.mem_of_getElem? (i := 547) (by decide +kernel)
theorem mw_548 : Cond.instanceMethod yX3_withPlaces ∈ wsL_law := List.mem_of_getElem? (i := 548) (by decide +kernel)
theorem mw_549 : Cond.selects RX3 yX3_withPlaces yX3_withPlaces ∈ wsL_law := List.mem_of_getElem? (i := 549) (by decide +kernel)
theorem mw_550 : Cond.code yX3_withPlaces cX3_withPlaces 7 (some .long) ∈ wsL_law := List.mem_of_getElem? (i := 550) (by decide +kernel)
theorem mw_551 : Cond.methodLink RX3 236 yX3_withChanges ∈ wsL_law := List.mem_of_getElem? (i := 551) (by decide +kernel)
theorem mw_552 : Cond.instanceMethod yX3_withChanges ∈ wsL_law := List.mem_of_getElem? (i := 552) (by decide +kernel)
theorem mw_553 : Cond.selects RX3 yX3_withChanges yX3_withChanges ∈ wsL_law := List.mem_of_getElem? (i := 553) (by decide +kernel)
theorem mw_554 : Cond.code yX3_withChanges cX3_withChanges 7 (some .long) ∈ wsL_law := List.mem_of_getElem? (i := 554) (by decide +kernel)
theorem mw_555 : Cond.methodLink RX3 239 yX3_withSpans ∈ wsL_law := List.mem_of_getElem? (i := 555) (by decide +kernel)
theorem mw_556 : Cond.instanceMethod yX3_withSpans ∈ wsL_law := List.mem_of_getElem? (i := 556) (by decide +kernel)
theorem mw_557 : Cond.selects RX3 yX3_withSpans yX3_withSpans ∈ wsL_law := List.mem_of_getElem? (i := 557) (by decide +kernel)
theorem mw_558 : Cond.code yX3_withSpans cX3_withSpans 7 (some .long) ∈ wsL_law := List.mem_of_getElem? (i := 558) (by decide +kernel)
theorem mw_559 : Cond.methodLink RX3 245 yX3_count ∈ wsL_law := List.mem_of_getElem? (i := 559) (by decide +kernel)
theorem mw_560 : Cond.methodLink RL 87 yX4_digest ∈ wsL_law := List.mem_of_getElem? (i := 560) (by decide +kernel)
theorem mw_561 : Cond.instanceMethod yX4_digest ∈ wsL_law := List.mem_of_getElem? (i := 561) (by decide +kernel)
theorem mw_562 : Cond.selects RX4 yX4_digest yX4_digest ∈ wsL_law := List.mem_of_getElem? (i := 562) (by decide +kernel)
theorem mw_563 : Cond.code yX4_digest cX4_digest 2 (some .long) ∈ wsL_law := List.mem_of_getElem? (i := 563) (by decide +kernel)
theorem mw_564 : Cond.constantLong RX4 234 (1619) ∈ wsL_law := List.mem_of_getElem? (i := 564) (by decide +kernel)
theorem mw_565 : Cond.fieldLink RX4 226 "TrackedLettersModel" "h" "J" ∈ wsL_law := List.mem_of_getElem? (i := 565) (by decide +kernel)
theorem mw_566 : Cond.methodLink RX4 236 yX4_mixView ∈ wsL_law := List.mem_of_getElem? (i := 566) (by decide +kernel)
theorem mw_567 : Cond.instanceMethod yX4_mixView ∈ wsL_law := List.mem_of_getElem? (i := 567) (by decide +kernel)
theorem mw_568 : Cond.selects RX4 yX4_mixView yX4_mixView ∈ wsL_law := List.mem_of_getElem? (i := 568) (by decide +kernel)
theorem mw_569 : Cond.code yX4_mixView cX4_mixView 4 none ∈ wsL_law := List.mem_of_getElem? (i := 569) (by decide +kernel)
theorem mw_570 : Cond.methodLink RX4 230 yX4_mix ∈ wsL_law := List.mem_of_getElem? (i := 570) (by decide +kernel)
theorem mw_571 : Cond.instanceMethod yX4_mix ∈ wsL_law := List.mem_of_getElem? (i := 571) (by decide +kernel)
theorem mw_572 : Cond.selects RX4 yX4_mix yX4_mix ∈ wsL_law := List.mem_of_getElem? (i := 572) (by decide +kernel)
theorem mw_573 : Cond.code yX4_mix cX4_mix 3 none ∈ wsL_law := List.mem_of_getElem? (i := 573) (by decide +kernel)
theorem mw_574 : Cond.constantLong RX4 224 (31) ∈ wsL_law := List.mem_of_getElem? (i := 574) (by decide +kernel)
theorem mw_575 : Cond.methodLink RX4 239 yX4_mixSpans ∈ wsL_law := List.mem_of_getElem? (i := 575) (by decide +kernel)
theorem mw_576 : Cond.instanceMethod yX4_mixSpans ∈ wsL_law := List.mem_of_getElem? (i := 576) (by decide +kernel)
theorem mw_577 : Cond.selects RX4 yX4_mixSpans yX4_mixSpans ∈ wsL_law := List.mem_of_getElem? (i := 577) (by decide +kernel)
theorem mw_578 : Cond.code yX4_mixSpans cX4_mixSpans 2 none ∈ wsL_law := List.mem_of_getElem? (i := 578) (by decide +kernel)
theorem tk_goodL : GoodIn wsL_law wsL_law := goodIn_sub (fun _ h => h) (by decide +kernel)
abbrev vwCl : List vw_C := [(RX0, TX0, 6), (RX1, TX1, 5), (RX2, TX2, 4), (RX3, TX3, 13), (RX4, TX4, 32)]
end
section
theorem dX0_init_0 : decode cX0_init 0 = .ok (.aload_n 0, 1) := by decide +kernel
theorem dX0_init_1 : decode cX0_init 1 = .ok (.invokespecial 3, 3) := by decide +kernel
theorem dX0_init_4 : decode cX0_init 4 = .ok (.aload_n 0, 1) := by decide +kernel
theorem dX0_init_5 : decode cX0_init 5 = .ok (.bipush 12, 2) := by decide +kernel
theorem dX0_init_7 : decode cX0_init 7 = .ok (.newarray .int, 2) := by decide +kernel
theorem dX0_init_9 : decode cX0_init 9 = .ok (.putfield 9, 3) := by decide +kernel
theorem dX0_init_12 : decode cX0_init 12 = .ok (.aload_n 0, 1) := by decide +kernel
theorem dX0_init_13 : decode cX0_init 13 = .ok (.bipush 12, 2) := by decide +kernel
theorem dX0_init_15 : decode cX0_init 15 = .ok (.newarray .int, 2) := by decide +kernel
theorem dX0_init_17 : decode cX0_init 17 = .ok (.putfield 15, 3) := by decide +kernel
theorem dX0_init_20 : decode cX0_init 20 = .ok (.aload_n 0, 1) := by decide +kernel
theorem dX0_init_21 : decode cX0_init 21 = .ok (.bipush 12, 2) := by decide +kernel
theorem dX0_init_23 : decode cX0_init 23 = .ok (.newarray .int, 2) := by decide +kernel
theorem dX0_init_25 : decode cX0_init 25 = .ok (.putfield 18, 3) := by decide +kernel
theorem dX0_init_28 : decode cX0_init 28 = .ok (.aload_n 0, 1) := by decide +kernel
theorem dX0_init_29 : decode cX0_init 29 = .ok (.bipush 12, 2) := by decide +kernel
theorem dX0_init_31 : decode cX0_init 31 = .ok (.newarray .int, 2) := by decide +kernel
theorem dX0_init_33 : decode cX0_init 33 = .ok (.putfield 21, 3) := by decide +kernel
theorem dX0_init_36 : decode cX0_init 36 = .ok (.aload_n 0, 1) := by decide +kernel
theorem dX0_init_37 : decode cX0_init 37 = .ok (.bipush 12, 2) := by decide +kernel
theorem dX0_init_39 : decode cX0_init 39 = .ok (.newarray .long, 2) := by decide +kernel
theorem dX0_init_41 : decode cX0_init 41 = .ok (.putfield 24, 3) := by decide +kernel
theorem dX0_init_44 : decode cX0_init 44 = .ok (.aload_n 0, 1) := by decide +kernel
theorem dX0_init_45 : decode cX0_init 45 = .ok (.iconst 0, 1) := by decide +kernel
theorem dX0_init_46 : decode cX0_init 46 = .ok (.putfield 28, 3) := by decide +kernel
theorem dX0_init_49 : decode cX0_init 49 = .ok (.return_, 1) := by decide +kernel
theorem dX0_names_0 : decode cX0_names 0 = .ok (.iload_n 1, 1) := by decide +kernel
theorem dX0_names_1 : decode cX0_names 1 = .ok (.ifCond .lt 15, 3) := by decide +kernel
theorem dX0_names_4 : decode cX0_names 4 = .ok (.iload_n 1, 1) := by decide +kernel
theorem dX0_names_5 : decode cX0_names 5 = .ok (.aload_n 0, 1) := by decide +kernel
theorem dX0_names_6 : decode cX0_names 6 = .ok (.getfield 28, 3) := by decide +kernel
theorem dX0_names_9 : decode cX0_names 9 = .ok (.if_icmp .ge 7, 3) := by decide +kernel
theorem dX0_names_12 : decode cX0_names 12 = .ok (.iconst 1, 1) := by decide +kernel
theorem dX0_names_13 : decode cX0_names 13 = .ok (.goto 4, 3) := by decide +kernel
theorem dX0_names_16 : decode cX0_names 16 = .ok (.iconst 0, 1) := by decide +kernel
theorem dX0_names_17 : decode cX0_names 17 = .ok (.ireturn, 1) := by decide +kernel
theorem dX0_isFull_0 : decode cX0_isFull 0 = .ok (.aload_n 0, 1) := by decide +kernel
theorem dX0_isFull_1 : decode cX0_isFull 1 = .ok (.getfield 28, 3) := by decide +kernel
theorem dX0_isFull_4 : decode cX0_isFull 4 = .ok (.bipush 12, 2) := by decide +kernel
theorem dX0_isFull_6 : decode cX0_isFull 6 = .ok (.if_icmp .lt 7, 3) := by decide +kernel
theorem dX0_isFull_9 : decode cX0_isFull 9 = .ok (.iconst 1, 1) := by decide +kernel
theorem dX0_isFull_10 : decode cX0_isFull 10 = .ok (.goto 4, 3) := by decide +kernel
theorem dX0_isFull_13 : decode cX0_isFull 13 = .ok (.iconst 0, 1) := by decide +kernel
theorem dX0_isFull_14 : decode cX0_isFull 14 = .ok (.ireturn, 1) := by decide +kernel
theorem dX0_add_0 : decode cX0_add 0 = .ok (.aload_n 0, 1) := by decide +kernel
theorem dX0_add_1 : decode cX0_add 1 = .ok (.getfield 28, 3) := by decide +kernel
theorem dX0_add_4 : decode cX0_add 4 = .ok (.istore_n 3, 1) := by decide +kernel
theorem dX0_add_5 : decode cX0_add 5 = .ok (.aload_n 0, 1) := by decide +kernel
theorem dX0_add_6 : decode cX0_add 6 = .ok (.getfield 9, 3) := by decide +kernel
theorem dX0_add_9 : decode cX0_add 9 = .ok (.iload_n 3, 1) := by decide +kernel
theorem dX0_add_10 : decode cX0_add 10 = .ok (.iload_n 1, 1) := by decide +kernel
theorem dX0_add_11 : decode cX0_add 11 = .ok (.iastore, 1) := by decide +kernel
theorem dX0_add_12 : decode cX0_add 12 = .ok (.aload_n 0, 1) := by decide +kernel
theorem dX0_add_13 : decode cX0_add 13 = .ok (.getfield 15, 3) := by decide +kernel
theorem dX0_add_16 : decode cX0_add 16 = .ok (.iload_n 3, 1) := by decide +kernel
theorem dX0_add_17 : decode cX0_add 17 = .ok (.iload_n 2, 1) := by decide +kernel
theorem dX0_add_18 : decode cX0_add 18 = .ok (.iastore, 1) := by decide +kernel
theorem dX0_add_19 : decode cX0_add 19 = .ok (.aload_n 0, 1) := by decide +kernel
theorem dX0_add_20 : decode cX0_add 20 = .ok (.getfield 18, 3) := by decide +kernel
theorem dX0_add_23 : decode cX0_add 23 = .ok (.iload_n 3, 1) := by decide +kernel
theorem dX0_add_24 : decode cX0_add 24 = .ok (.iconst 0, 1) := by decide +kernel
theorem dX0_add_25 : decode cX0_add 25 = .ok (.iastore, 1) := by decide +kernel
theorem dX0_add_26 : decode cX0_add 26 = .ok (.aload_n 0, 1) := by decide +kernel
theorem dX0_add_27 : decode cX0_add 27 = .ok (.getfield 21, 3) := by decide +kernel
theorem dX0_add_30 : decode cX0_add 30 = .ok (.iload_n 3, 1) := by decide +kernel
theorem dX0_add_31 : decode cX0_add 31 = .ok (.iconst 0, 1) := by decide +kernel
theorem dX0_add_32 : decode cX0_add 32 = .ok (.iastore, 1) := by decide +kernel
theorem dX0_add_33 : decode cX0_add 33 = .ok (.aload_n 0, 1) := by decide +kernel
theorem dX0_add_34 : decode cX0_add 34 = .ok (.getfield 24, 3) := by decide +kernel
theorem dX0_add_37 : decode cX0_add 37 = .ok (.iload_n 3, 1) := by decide +kernel
theorem dX0_add_38 : decode cX0_add 38 = .ok (.lconst 0, 1) := by decide +kernel
theorem dX0_add_39 : decode cX0_add 39 = .ok (.lastore, 1) := by decide +kernel
theorem dX0_add_40 : decode cX0_add 40 = .ok (.aload_n 0, 1) := by decide +kernel
theorem dX0_add_41 : decode cX0_add 41 = .ok (.dup, 1) := by decide +kernel
theorem dX0_add_42 : decode cX0_add 42 = .ok (.getfield 28, 3) := by decide +kernel
theorem dX0_add_45 : decode cX0_add 45 = .ok (.iconst 1, 1) := by decide +kernel
theorem dX0_add_46 : decode cX0_add 46 = .ok (.iadd, 1) := by decide +kernel
theorem dX0_add_47 : decode cX0_add 47 = .ok (.putfield 28, 3) := by decide +kernel
theorem dX0_add_50 : decode cX0_add 50 = .ok (.iload_n 3, 1) := by decide +kernel
theorem dX0_add_51 : decode cX0_add 51 = .ok (.ireturn, 1) := by decide +kernel
theorem dX0_touch_0 : decode cX0_touch 0 = .ok (.aload_n 0, 1) := by decide +kernel
theorem dX0_touch_1 : decode cX0_touch 1 = .ok (.getfield 24, 3) := by decide +kernel
theorem dX0_touch_4 : decode cX0_touch 4 = .ok (.iload_n 1, 1) := by decide +kernel
theorem dX0_touch_5 : decode cX0_touch 5 = .ok (.dup2, 1) := by decide +kernel
theorem dX0_touch_6 : decode cX0_touch 6 = .ok (.laload, 1) := by decide +kernel
theorem dX0_touch_7 : decode cX0_touch 7 = .ok (.lconst 1, 1) := by decide +kernel
theorem dX0_touch_8 : decode cX0_touch 8 = .ok (.iload_n 2, 1) := by decide +kernel
theorem dX0_touch_9 : decode cX0_touch 9 = .ok (.lshl, 1) := by decide +kernel
theorem dX0_touch_10 : decode cX0_touch 10 = .ok (.lor, 1) := by decide +kernel
theorem dX0_touch_11 : decode cX0_touch 11 = .ok (.lastore, 1) := by decide +kernel
theorem dX0_touch_12 : decode cX0_touch 12 = .ok (.return_, 1) := by decide +kernel
theorem dX0_inStatus_0 : decode cX0_inStatus 0 = .ok (.iconst 0, 1) := by decide +kernel
theorem dX0_inStatus_1 : decode cX0_inStatus 1 = .ok (.istore_n 2, 1) := by decide +kernel
theorem dX0_inStatus_2 : decode cX0_inStatus 2 = .ok (.iconst 0, 1) := by decide +kernel
theorem dX0_inStatus_3 : decode cX0_inStatus 3 = .ok (.istore_n 3, 1) := by decide +kernel
theorem dX0_inStatus_4 : decode cX0_inStatus 4 = .ok (.iload_n 3, 1) := by decide +kernel
theorem dX0_inStatus_5 : decode cX0_inStatus 5 = .ok (.aload_n 0, 1) := by decide +kernel
theorem dX0_inStatus_6 : decode cX0_inStatus 6 = .ok (.getfield 28, 3) := by decide +kernel
theorem dX0_inStatus_9 : decode cX0_inStatus 9 = .ok (.if_icmp .ge 25, 3) := by decide +kernel
theorem dX0_inStatus_12 : decode cX0_inStatus 12 = .ok (.aload_n 0, 1) := by decide +kernel
theorem dX0_inStatus_13 : decode cX0_inStatus 13 = .ok (.getfield 18, 3) := by decide +kernel
theorem dX0_inStatus_16 : decode cX0_inStatus 16 = .ok (.iload_n 3, 1) := by decide +kernel
theorem dX0_inStatus_17 : decode cX0_inStatus 17 = .ok (.iaload, 1) := by decide +kernel
theorem dX0_inStatus_18 : decode cX0_inStatus 18 = .ok (.iload_n 1, 1) := by decide +kernel
theorem dX0_inStatus_19 : decode cX0_inStatus 19 = .ok (.if_icmp .ne 9, 3) := by decide +kernel
theorem dX0_inStatus_22 : decode cX0_inStatus 22 = .ok (.iload_n 2, 1) := by decide +kernel
theorem dX0_inStatus_23 : decode cX0_inStatus 23 = .ok (.iconst 1, 1) := by decide +kernel
theorem dX0_inStatus_24 : decode cX0_inStatus 24 = .ok (.iload_n 3, 1) := by decide +kernel
theorem dX0_inStatus_25 : decode cX0_inStatus 25 = .ok (.ishl, 1) := by decide +kernel
theorem dX0_inStatus_26 : decode cX0_inStatus 26 = .ok (.ior, 1) := by decide +kernel
theorem dX0_inStatus_27 : decode cX0_inStatus 27 = .ok (.istore_n 2, 1) := by decide +kernel
theorem dX0_inStatus_28 : decode cX0_inStatus 28 = .ok (.iinc 3 1, 3) := by decide +kernel
theorem dX0_inStatus_31 : decode cX0_inStatus 31 = .ok (.goto (-27), 3) := by decide +kernel
theorem dX0_inStatus_34 : decode cX0_inStatus 34 = .ok (.iload_n 2, 1) := by decide +kernel
theorem dX0_inStatus_35 : decode cX0_inStatus 35 = .ok (.ireturn, 1) := by decide +kernel
theorem dX0_seenBy_0 : decode cX0_seenBy 0 = .ok (.iconst 0, 1) := by decide +kernel
theorem dX0_seenBy_1 : decode cX0_seenBy 1 = .ok (.istore_n 2, 1) := by decide +kernel
theorem dX0_seenBy_2 : decode cX0_seenBy 2 = .ok (.iconst 0, 1) := by decide +kernel
theorem dX0_seenBy_3 : decode cX0_seenBy 3 = .ok (.istore_n 3, 1) := by decide +kernel
theorem dX0_seenBy_4 : decode cX0_seenBy 4 = .ok (.iload_n 3, 1) := by decide +kernel
theorem dX0_seenBy_5 : decode cX0_seenBy 5 = .ok (.aload_n 0, 1) := by decide +kernel
theorem dX0_seenBy_6 : decode cX0_seenBy 6 = .ok (.getfield 28, 3) := by decide +kernel
theorem dX0_seenBy_9 : decode cX0_seenBy 9 = .ok (.if_icmp .ge 35, 3) := by decide +kernel
theorem dX0_seenBy_12 : decode cX0_seenBy 12 = .ok (.aload_n 0, 1) := by decide +kernel
theorem dX0_seenBy_13 : decode cX0_seenBy 13 = .ok (.getfield 15, 3) := by decide +kernel
theorem dX0_seenBy_16 : decode cX0_seenBy 16 = .ok (.iload_n 3, 1) := by decide +kernel
theorem dX0_seenBy_17 : decode cX0_seenBy 17 = .ok (.iaload, 1) := by decide +kernel
theorem dX0_seenBy_18 : decode cX0_seenBy 18 = .ok (.iload_n 1, 1) := by decide +kernel
theorem dX0_seenBy_19 : decode cX0_seenBy 19 = .ok (.if_icmp .eq 13, 3) := by decide +kernel
theorem dX0_seenBy_22 : decode cX0_seenBy 22 = .ok (.aload_n 0, 1) := by decide +kernel
theorem dX0_seenBy_23 : decode cX0_seenBy 23 = .ok (.getfield 21, 3) := by decide +kernel
theorem dX0_seenBy_26 : decode cX0_seenBy 26 = .ok (.iload_n 3, 1) := by decide +kernel
theorem dX0_seenBy_27 : decode cX0_seenBy 27 = .ok (.iaload, 1) := by decide +kernel
theorem dX0_seenBy_28 : decode cX0_seenBy 28 = .ok (.iconst 1, 1) := by decide +kernel
theorem dX0_seenBy_29 : decode cX0_seenBy 29 = .ok (.if_icmp .ne 9, 3) := by decide +kernel
theorem dX0_seenBy_32 : decode cX0_seenBy 32 = .ok (.iload_n 2, 1) := by decide +kernel
theorem dX0_seenBy_33 : decode cX0_seenBy 33 = .ok (.iconst 1, 1) := by decide +kernel
theorem dX0_seenBy_34 : decode cX0_seenBy 34 = .ok (.iload_n 3, 1) := by decide +kernel
theorem dX0_seenBy_35 : decode cX0_seenBy 35 = .ok (.ishl, 1) := by decide +kernel
theorem dX0_seenBy_36 : decode cX0_seenBy 36 = .ok (.ior, 1) := by decide +kernel
theorem dX0_seenBy_37 : decode cX0_seenBy 37 = .ok (.istore_n 2, 1) := by decide +kernel
theorem dX0_seenBy_38 : decode cX0_seenBy 38 = .ok (.iinc 3 1, 3) := by decide +kernel
theorem dX0_seenBy_41 : decode cX0_seenBy 41 = .ok (.goto (-37), 3) := by decide +kernel
theorem dX0_seenBy_44 : decode cX0_seenBy 44 = .ok (.iload_n 2, 1) := by decide +kernel
theorem dX0_seenBy_45 : decode cX0_seenBy 45 = .ok (.ireturn, 1) := by decide +kernel
theorem dX0_openOnes_0 : decode cX0_openOnes 0 = .ok (.iconst 0, 1) := by decide +kernel
theorem dX0_openOnes_1 : decode cX0_openOnes 1 = .ok (.istore_n 3, 1) := by decide +kernel
theorem dX0_openOnes_2 : decode cX0_openOnes 2 = .ok (.iconst 0, 1) := by decide +kernel
theorem dX0_openOnes_3 : decode cX0_openOnes 3 = .ok (.istore 4, 2) := by decide +kernel
theorem dX0_openOnes_5 : decode cX0_openOnes 5 = .ok (.iload 4, 2) := by decide +kernel
theorem dX0_openOnes_7 : decode cX0_openOnes 7 = .ok (.aload_n 0, 1) := by decide +kernel
theorem dX0_openOnes_8 : decode cX0_openOnes 8 = .ok (.getfield 28, 3) := by decide +kernel
theorem dX0_openOnes_11 : decode cX0_openOnes 11 = .ok (.if_icmp .ge 49, 3) := by decide +kernel
theorem dX0_openOnes_14 : decode cX0_openOnes 14 = .ok (.aload_n 0, 1) := by decide +kernel
theorem dX0_openOnes_15 : decode cX0_openOnes 15 = .ok (.getfield 18, 3) := by decide +kernel
theorem dX0_openOnes_18 : decode cX0_openOnes 18 = .ok (.iload 4, 2) := by decide +kernel
theorem dX0_openOnes_20 : decode cX0_openOnes 20 = .ok (.iaload, 1) := by decide +kernel
theorem dX0_openOnes_21 : decode cX0_openOnes 21 = .ok (.ifCond .ne 33, 3) := by decide +kernel
theorem dX0_openOnes_24 : decode cX0_openOnes 24 = .ok (.aload_n 0, 1) := by decide +kernel
theorem dX0_openOnes_25 : decode cX0_openOnes 25 = .ok (.getfield 9, 3) := by decide +kernel
theorem dX0_openOnes_28 : decode cX0_openOnes 28 = .ok (.iload 4, 2) := by decide +kernel
theorem dX0_openOnes_30 : decode cX0_openOnes 30 = .ok (.iaload, 1) := by decide +kernel
theorem dX0_openOnes_31 : decode cX0_openOnes 31 = .ok (.iload_n 1, 1) := by decide +kernel
theorem dX0_openOnes_32 : decode cX0_openOnes 32 = .ok (.if_icmp .ne 22, 3) := by decide +kernel
theorem dX0_openOnes_35 : decode cX0_openOnes 35 = .ok (.aload_n 0, 1) := by decide +kernel
theorem dX0_openOnes_36 : decode cX0_openOnes 36 = .ok (.getfield 24, 3) := by decide +kernel
theorem dX0_openOnes_39 : decode cX0_openOnes 39 = .ok (.iload 4, 2) := by decide +kernel
theorem dX0_openOnes_41 : decode cX0_openOnes 41 = .ok (.laload, 1) := by decide +kernel
theorem dX0_openOnes_42 : decode cX0_openOnes 42 = .ok (.iload_n 2, 1) := by decide +kernel
theorem dX0_openOnes_43 : decode cX0_openOnes 43 = .ok (.lushr, 1) := by decide +kernel
theorem dX0_openOnes_44 : decode cX0_openOnes 44 = .ok (.lconst 1, 1) := by decide +kernel
theorem dX0_openOnes_45 : decode cX0_openOnes 45 = .ok (.land, 1) := by decide +kernel
theorem dX0_openOnes_46 : decode cX0_openOnes 46 = .ok (.lconst 0, 1) := by decide +kernel
theorem dX0_openOnes_47 : decode cX0_openOnes 47 = .ok (.lcmp, 1) := by decide +kernel
theorem dX0_openOnes_48 : decode cX0_openOnes 48 = .ok (.ifCond .eq 6, 3) := by decide +kernel
theorem dX0_openOnes_51 : decode cX0_openOnes 51 = .ok (.iinc 3 1, 3) := by decide +kernel
theorem dX0_openOnes_54 : decode cX0_openOnes 54 = .ok (.iinc 4 1, 3) := by decide +kernel
theorem dX0_openOnes_57 : decode cX0_openOnes 57 = .ok (.goto (-52), 3) := by decide +kernel
theorem dX0_openOnes_60 : decode cX0_openOnes 60 = .ok (.iload_n 3, 1) := by decide +kernel
theorem dX0_openOnes_61 : decode cX0_openOnes 61 = .ok (.ireturn, 1) := by decide +kernel
theorem dX0_insertsUnder_0 : decode cX0_insertsUnder 0 = .ok (.iconst 0, 1) := by decide +kernel
theorem dX0_insertsUnder_1 : decode cX0_insertsUnder 1 = .ok (.istore_n 2, 1) := by decide +kernel
theorem dX0_insertsUnder_2 : decode cX0_insertsUnder 2 = .ok (.iconst 0, 1) := by decide +kernel
theorem dX0_insertsUnder_3 : decode cX0_insertsUnder 3 = .ok (.istore_n 3, 1) := by decide +kernel
theorem dX0_insertsUnder_4 : decode cX0_insertsUnder 4 = .ok (.iload_n 3, 1) := by decide +kernel
theorem dX0_insertsUnder_5 : decode cX0_insertsUnder 5 = .ok (.aload_n 0, 1) := by decide +kernel
theorem dX0_insertsUnder_6 : decode cX0_insertsUnder 6 = .ok (.getfield 28, 3) := by decide +kernel
theorem dX0_insertsUnder_9 : decode cX0_insertsUnder 9 = .ok (.if_icmp .ge 47, 3) := by decide +kernel
theorem dX0_insertsUnder_12 : decode cX0_insertsUnder 12 = .ok (.iload_n 3, 1) := by decide +kernel
theorem dX0_insertsUnder_13 : decode cX0_insertsUnder 13 = .ok (.iload_n 1, 1) := by decide +kernel
theorem dX0_insertsUnder_14 : decode cX0_insertsUnder 14 = .ok (.if_icmp .eq 36, 3) := by decide +kernel
theorem dX0_insertsUnder_17 : decode cX0_insertsUnder 17 = .ok (.aload_n 0, 1) := by decide +kernel
theorem dX0_insertsUnder_18 : decode cX0_insertsUnder 18 = .ok (.getfield 9, 3) := by decide +kernel
theorem dX0_insertsUnder_21 : decode cX0_insertsUnder 21 = .ok (.iload_n 3, 1) := by decide +kernel
theorem dX0_insertsUnder_22 : decode cX0_insertsUnder 22 = .ok (.iaload, 1) := by decide +kernel
theorem dX0_insertsUnder_23 : decode cX0_insertsUnder 23 = .ok (.ifCond .ne 27, 3) := by decide +kernel
theorem dX0_insertsUnder_26 : decode cX0_insertsUnder 26 = .ok (.aload_n 0, 1) := by decide +kernel
theorem dX0_insertsUnder_27 : decode cX0_insertsUnder 27 = .ok (.getfield 24, 3) := by decide +kernel
theorem dX0_insertsUnder_30 : decode cX0_insertsUnder 30 = .ok (.iload_n 3, 1) := by decide +kernel
theorem dX0_insertsUnder_31 : decode cX0_insertsUnder 31 = .ok (.laload, 1) := by decide +kernel
theorem dX0_insertsUnder_32 : decode cX0_insertsUnder 32 = .ok (.aload_n 0, 1) := by decide +kernel
theorem dX0_insertsUnder_33 : decode cX0_insertsUnder 33 = .ok (.getfield 24, 3) := by decide +kernel
theorem dX0_insertsUnder_36 : decode cX0_insertsUnder 36 = .ok (.iload_n 1, 1) := by decide +kernel
theorem dX0_insertsUnder_37 : decode cX0_insertsUnder 37 = .ok (.laload, 1) := by decide +kernel
theorem dX0_insertsUnder_38 : decode cX0_insertsUnder 38 = .ok (.land, 1) := by decide +kernel
theorem dX0_insertsUnder_39 : decode cX0_insertsUnder 39 = .ok (.lconst 0, 1) := by decide +kernel
theorem dX0_insertsUnder_40 : decode cX0_insertsUnder 40 = .ok (.lcmp, 1) := by decide +kernel
theorem dX0_insertsUnder_41 : decode cX0_insertsUnder 41 = .ok (.ifCond .eq 9, 3) := by decide +kernel
theorem dX0_insertsUnder_44 : decode cX0_insertsUnder 44 = .ok (.iload_n 2, 1) := by decide +kernel
theorem dX0_insertsUnder_45 : decode cX0_insertsUnder 45 = .ok (.iconst 1, 1) := by decide +kernel
theorem dX0_insertsUnder_46 : decode cX0_insertsUnder 46 = .ok (.iload_n 3, 1) := by decide +kernel
theorem dX0_insertsUnder_47 : decode cX0_insertsUnder 47 = .ok (.ishl, 1) := by decide +kernel
theorem dX0_insertsUnder_48 : decode cX0_insertsUnder 48 = .ok (.ior, 1) := by decide +kernel
theorem dX0_insertsUnder_49 : decode cX0_insertsUnder 49 = .ok (.istore_n 2, 1) := by decide +kernel
theorem dX0_insertsUnder_50 : decode cX0_insertsUnder 50 = .ok (.iinc 3 1, 3) := by decide +kernel
theorem dX0_insertsUnder_53 : decode cX0_insertsUnder 53 = .ok (.goto (-49), 3) := by decide +kernel
theorem dX0_insertsUnder_56 : decode cX0_insertsUnder 56 = .ok (.iload_n 2, 1) := by decide +kernel
theorem dX0_insertsUnder_57 : decode cX0_insertsUnder 57 = .ok (.ireturn, 1) := by decide +kernel
theorem dX0_deletedTwice_0 : decode cX0_deletedTwice 0 = .ok (.lconst 0, 1) := by decide +kernel
theorem dX0_deletedTwice_1 : decode cX0_deletedTwice 1 = .ok (.lstore_n 1, 1) := by decide +kernel
theorem dX0_deletedTwice_2 : decode cX0_deletedTwice 2 = .ok (.lconst 0, 1) := by decide +kernel
theorem dX0_deletedTwice_3 : decode cX0_deletedTwice 3 = .ok (.lstore_n 3, 1) := by decide +kernel
theorem dX0_deletedTwice_4 : decode cX0_deletedTwice 4 = .ok (.iconst 0, 1) := by decide +kernel
theorem dX0_deletedTwice_5 : decode cX0_deletedTwice 5 = .ok (.istore 5, 2) := by decide +kernel
theorem dX0_deletedTwice_7 : decode cX0_deletedTwice 7 = .ok (.iload 5, 2) := by decide +kernel
theorem dX0_deletedTwice_9 : decode cX0_deletedTwice 9 = .ok (.aload_n 0, 1) := by decide +kernel
theorem dX0_deletedTwice_10 : decode cX0_deletedTwice 10 = .ok (.getfield 28, 3) := by decide +kernel
theorem dX0_deletedTwice_13 : decode cX0_deletedTwice 13 = .ok (.if_icmp .ge 52, 3) := by decide +kernel
theorem dX0_deletedTwice_16 : decode cX0_deletedTwice 16 = .ok (.aload_n 0, 1) := by decide +kernel
theorem dX0_deletedTwice_17 : decode cX0_deletedTwice 17 = .ok (.getfield 18, 3) := by decide +kernel
theorem dX0_deletedTwice_20 : decode cX0_deletedTwice 20 = .ok (.iload 5, 2) := by decide +kernel
theorem dX0_deletedTwice_22 : decode cX0_deletedTwice 22 = .ok (.iaload, 1) := by decide +kernel
theorem dX0_deletedTwice_23 : decode cX0_deletedTwice 23 = .ok (.ifCond .ne 36, 3) := by decide +kernel
theorem dX0_deletedTwice_26 : decode cX0_deletedTwice 26 = .ok (.aload_n 0, 1) := by decide +kernel
theorem dX0_deletedTwice_27 : decode cX0_deletedTwice 27 = .ok (.getfield 9, 3) := by decide +kernel
theorem dX0_deletedTwice_30 : decode cX0_deletedTwice 30 = .ok (.iload 5, 2) := by decide +kernel
theorem dX0_deletedTwice_32 : decode cX0_deletedTwice 32 = .ok (.iaload, 1) := by decide +kernel
theorem dX0_deletedTwice_33 : decode cX0_deletedTwice 33 = .ok (.iconst 1, 1) := by decide +kernel
theorem dX0_deletedTwice_34 : decode cX0_deletedTwice 34 = .ok (.if_icmp .ne 25, 3) := by decide +kernel
theorem dX0_deletedTwice_37 : decode cX0_deletedTwice 37 = .ok (.lload_n 3, 1) := by decide +kernel
theorem dX0_deletedTwice_38 : decode cX0_deletedTwice 38 = .ok (.lload_n 1, 1) := by decide +kernel
theorem dX0_deletedTwice_39 : decode cX0_deletedTwice 39 = .ok (.aload_n 0, 1) := by decide +kernel
theorem dX0_deletedTwice_40 : decode cX0_deletedTwice 40 = .ok (.getfield 24, 3) := by decide +kernel
theorem dX0_deletedTwice_43 : decode cX0_deletedTwice 43 = .ok (.iload 5, 2) := by decide +kernel
theorem dX0_deletedTwice_45 : decode cX0_deletedTwice 45 = .ok (.laload, 1) := by decide +kernel
theorem dX0_deletedTwice_46 : decode cX0_deletedTwice 46 = .ok (.land, 1) := by decide +kernel
theorem dX0_deletedTwice_47 : decode cX0_deletedTwice 47 = .ok (.lor, 1) := by decide +kernel
theorem dX0_deletedTwice_48 : decode cX0_deletedTwice 48 = .ok (.lstore_n 3, 1) := by decide +kernel
theorem dX0_deletedTwice_49 : decode cX0_deletedTwice 49 = .ok (.lload_n 1, 1) := by decide +kernel
theorem dX0_deletedTwice_50 : decode cX0_deletedTwice 50 = .ok (.aload_n 0, 1) := by decide +kernel
theorem dX0_deletedTwice_51 : decode cX0_deletedTwice 51 = .ok (.getfield 24, 3) := by decide +kernel
theorem dX0_deletedTwice_54 : decode cX0_deletedTwice 54 = .ok (.iload 5, 2) := by decide +kernel
theorem dX0_deletedTwice_56 : decode cX0_deletedTwice 56 = .ok (.laload, 1) := by decide +kernel
theorem dX0_deletedTwice_57 : decode cX0_deletedTwice 57 = .ok (.lor, 1) := by decide +kernel
theorem dX0_deletedTwice_58 : decode cX0_deletedTwice 58 = .ok (.lstore_n 1, 1) := by decide +kernel
theorem dX0_deletedTwice_59 : decode cX0_deletedTwice 59 = .ok (.iinc 5 1, 3) := by decide +kernel
theorem dX0_deletedTwice_62 : decode cX0_deletedTwice 62 = .ok (.goto (-55), 3) := by decide +kernel
theorem dX0_deletedTwice_65 : decode cX0_deletedTwice 65 = .ok (.lload_n 3, 1) := by decide +kernel
theorem dX0_deletedTwice_66 : decode cX0_deletedTwice 66 = .ok (.lreturn, 1) := by decide +kernel
theorem dX1_init_0 : decode cX1_init 0 = .ok (.aload_n 0, 1) := by decide +kernel
theorem dX1_init_1 : decode cX1_init 1 = .ok (.invokespecial 3, 3) := by decide +kernel
theorem dX1_init_4 : decode cX1_init 4 = .ok (.aload_n 0, 1) := by decide +kernel
theorem dX1_init_5 : decode cX1_init 5 = .ok (.bipush 90, 2) := by decide +kernel
theorem dX1_init_7 : decode cX1_init 7 = .ok (.newarray .int, 2) := by decide +kernel
theorem dX1_init_9 : decode cX1_init 9 = .ok (.putfield 9, 3) := by decide +kernel
theorem dX1_init_12 : decode cX1_init 12 = .ok (.aload_n 0, 1) := by decide +kernel
theorem dX1_init_13 : decode cX1_init 13 = .ok (.bipush 90, 2) := by decide +kernel
theorem dX1_init_15 : decode cX1_init 15 = .ok (.newarray .int, 2) := by decide +kernel
theorem dX1_init_17 : decode cX1_init 17 = .ok (.putfield 15, 3) := by decide +kernel
theorem dX1_init_20 : decode cX1_init 20 = .ok (.aload_n 0, 1) := by decide +kernel
theorem dX1_init_21 : decode cX1_init 21 = .ok (.bipush 90, 2) := by decide +kernel
theorem dX1_init_23 : decode cX1_init 23 = .ok (.newarray .int, 2) := by decide +kernel
theorem dX1_init_25 : decode cX1_init 25 = .ok (.putfield 18, 3) := by decide +kernel
theorem dX1_init_28 : decode cX1_init 28 = .ok (.aload_n 0, 1) := by decide +kernel
theorem dX1_init_29 : decode cX1_init 29 = .ok (.bipush 90, 2) := by decide +kernel
theorem dX1_init_31 : decode cX1_init 31 = .ok (.newarray .int, 2) := by decide +kernel
theorem dX1_init_33 : decode cX1_init 33 = .ok (.putfield 21, 3) := by decide +kernel
theorem dX1_init_36 : decode cX1_init 36 = .ok (.aload_n 0, 1) := by decide +kernel
theorem dX1_init_37 : decode cX1_init 37 = .ok (.iconst 0, 1) := by decide +kernel
theorem dX1_init_38 : decode cX1_init 38 = .ok (.putfield 24, 3) := by decide +kernel
theorem dX1_init_41 : decode cX1_init 41 = .ok (.return_, 1) := by decide +kernel
theorem dX1_openGap_0 : decode cX1_openGap 0 = .ok (.aload_n 0, 1) := by decide +kernel
theorem dX1_openGap_1 : decode cX1_openGap 1 = .ok (.getfield 24, 3) := by decide +kernel
theorem dX1_openGap_4 : decode cX1_openGap 4 = .ok (.iconst 1, 1) := by decide +kernel
theorem dX1_openGap_5 : decode cX1_openGap 5 = .ok (.isub, 1) := by decide +kernel
theorem dX1_openGap_6 : decode cX1_openGap 6 = .ok (.istore_n 3, 1) := by decide +kernel
theorem dX1_openGap_7 : decode cX1_openGap 7 = .ok (.iload_n 3, 1) := by decide +kernel
theorem dX1_openGap_8 : decode cX1_openGap 8 = .ok (.iload_n 1, 1) := by decide +kernel
theorem dX1_openGap_9 : decode cX1_openGap 9 = .ok (.if_icmp .lt 65, 3) := by decide +kernel
theorem dX1_openGap_12 : decode cX1_openGap 12 = .ok (.aload_n 0, 1) := by decide +kernel
theorem dX1_openGap_13 : decode cX1_openGap 13 = .ok (.getfield 9, 3) := by decide +kernel
theorem dX1_openGap_16 : decode cX1_openGap 16 = .ok (.iload_n 3, 1) := by decide +kernel
theorem dX1_openGap_17 : decode cX1_openGap 17 = .ok (.iload_n 2, 1) := by decide +kernel
theorem dX1_openGap_18 : decode cX1_openGap 18 = .ok (.iadd, 1) := by decide +kernel
theorem dX1_openGap_19 : decode cX1_openGap 19 = .ok (.aload_n 0, 1) := by decide +kernel
theorem dX1_openGap_20 : decode cX1_openGap 20 = .ok (.getfield 9, 3) := by decide +kernel
theorem dX1_openGap_23 : decode cX1_openGap 23 = .ok (.iload_n 3, 1) := by decide +kernel
theorem dX1_openGap_24 : decode cX1_openGap 24 = .ok (.iaload, 1) := by decide +kernel
theorem dX1_openGap_25 : decode cX1_openGap 25 = .ok (.iastore, 1) := by decide +kernel
theorem dX1_openGap_26 : decode cX1_openGap 26 = .ok (.aload_n 0, 1) := by decide +kernel
theorem dX1_openGap_27 : decode cX1_openGap 27 = .ok (.getfield 15, 3) := by decide +kernel
theorem dX1_openGap_30 : decode cX1_openGap 30 = .ok (.iload_n 3, 1) := by decide +kernel
theorem dX1_openGap_31 : decode cX1_openGap 31 = .ok (.iload_n 2, 1) := by decide +kernel
theorem dX1_openGap_32 : decode cX1_openGap 32 = .ok (.iadd, 1) := by decide +kernel
theorem dX1_openGap_33 : decode cX1_openGap 33 = .ok (.aload_n 0, 1) := by decide +kernel
theorem dX1_openGap_34 : decode cX1_openGap 34 = .ok (.getfield 15, 3) := by decide +kernel
theorem dX1_openGap_37 : decode cX1_openGap 37 = .ok (.iload_n 3, 1) := by decide +kernel
theorem dX1_openGap_38 : decode cX1_openGap 38 = .ok (.iaload, 1) := by decide +kernel
theorem dX1_openGap_39 : decode cX1_openGap 39 = .ok (.iastore, 1) := by decide +kernel
theorem dX1_openGap_40 : decode cX1_openGap 40 = .ok (.aload_n 0, 1) := by decide +kernel
theorem dX1_openGap_41 : decode cX1_openGap 41 = .ok (.getfield 18, 3) := by decide +kernel
theorem dX1_openGap_44 : decode cX1_openGap 44 = .ok (.iload_n 3, 1) := by decide +kernel
theorem dX1_openGap_45 : decode cX1_openGap 45 = .ok (.iload_n 2, 1) := by decide +kernel
theorem dX1_openGap_46 : decode cX1_openGap 46 = .ok (.iadd, 1) := by decide +kernel
theorem dX1_openGap_47 : decode cX1_openGap 47 = .ok (.aload_n 0, 1) := by decide +kernel
theorem dX1_openGap_48 : decode cX1_openGap 48 = .ok (.getfield 18, 3) := by decide +kernel
theorem dX1_openGap_51 : decode cX1_openGap 51 = .ok (.iload_n 3, 1) := by decide +kernel
theorem dX1_openGap_52 : decode cX1_openGap 52 = .ok (.iaload, 1) := by decide +kernel
theorem dX1_openGap_53 : decode cX1_openGap 53 = .ok (.iastore, 1) := by decide +kernel
theorem dX1_openGap_54 : decode cX1_openGap 54 = .ok (.aload_n 0, 1) := by decide +kernel
theorem dX1_openGap_55 : decode cX1_openGap 55 = .ok (.getfield 21, 3) := by decide +kernel
theorem dX1_openGap_58 : decode cX1_openGap 58 = .ok (.iload_n 3, 1) := by decide +kernel
theorem dX1_openGap_59 : decode cX1_openGap 59 = .ok (.iload_n 2, 1) := by decide +kernel
theorem dX1_openGap_60 : decode cX1_openGap 60 = .ok (.iadd, 1) := by decide +kernel
theorem dX1_openGap_61 : decode cX1_openGap 61 = .ok (.aload_n 0, 1) := by decide +kernel
theorem dX1_openGap_62 : decode cX1_openGap 62 = .ok (.getfield 21, 3) := by decide +kernel
theorem dX1_openGap_65 : decode cX1_openGap 65 = .ok (.iload_n 3, 1) := by decide +kernel
theorem dX1_openGap_66 : decode cX1_openGap 66 = .ok (.iaload, 1) := by decide +kernel
theorem dX1_openGap_67 : decode cX1_openGap 67 = .ok (.iastore, 1) := by decide +kernel
theorem dX1_openGap_68 : decode cX1_openGap 68 = .ok (.iinc 3 (-1), 3) := by decide +kernel
theorem dX1_openGap_71 : decode cX1_openGap 71 = .ok (.goto (-64), 3) := by decide +kernel
theorem dX1_openGap_74 : decode cX1_openGap 74 = .ok (.aload_n 0, 1) := by decide +kernel
theorem dX1_openGap_75 : decode cX1_openGap 75 = .ok (.dup, 1) := by decide +kernel
theorem dX1_openGap_76 : decode cX1_openGap 76 = .ok (.getfield 24, 3) := by decide +kernel
theorem dX1_openGap_79 : decode cX1_openGap 79 = .ok (.iload_n 2, 1) := by decide +kernel
theorem dX1_openGap_80 : decode cX1_openGap 80 = .ok (.iadd, 1) := by decide +kernel
theorem dX1_openGap_81 : decode cX1_openGap 81 = .ok (.putfield 24, 3) := by decide +kernel
theorem dX1_openGap_84 : decode cX1_openGap 84 = .ok (.iconst 0, 1) := by decide +kernel
theorem dX1_openGap_85 : decode cX1_openGap 85 = .ok (.istore_n 3, 1) := by decide +kernel
theorem dX1_openGap_86 : decode cX1_openGap 86 = .ok (.iload_n 3, 1) := by decide +kernel
theorem dX1_openGap_87 : decode cX1_openGap 87 = .ok (.aload_n 0, 1) := by decide +kernel
theorem dX1_openGap_88 : decode cX1_openGap 88 = .ok (.getfield 24, 3) := by decide +kernel
theorem dX1_openGap_91 : decode cX1_openGap 91 = .ok (.if_icmp .ge 29, 3) := by decide +kernel
theorem dX1_openGap_94 : decode cX1_openGap 94 = .ok (.aload_n 0, 1) := by decide +kernel
theorem dX1_openGap_95 : decode cX1_openGap 95 = .ok (.getfield 15, 3) := by decide +kernel
theorem dX1_openGap_98 : decode cX1_openGap 98 = .ok (.iload_n 3, 1) := by decide +kernel
theorem dX1_openGap_99 : decode cX1_openGap 99 = .ok (.iaload, 1) := by decide +kernel
theorem dX1_openGap_100 : decode cX1_openGap 100 = .ok (.iload_n 1, 1) := by decide +kernel
theorem dX1_openGap_101 : decode cX1_openGap 101 = .ok (.if_icmp .lt 13, 3) := by decide +kernel
theorem dX1_openGap_104 : decode cX1_openGap 104 = .ok (.aload_n 0, 1) := by decide +kernel
theorem dX1_openGap_105 : decode cX1_openGap 105 = .ok (.getfield 15, 3) := by decide +kernel
theorem dX1_openGap_108 : decode cX1_openGap 108 = .ok (.iload_n 3, 1) := by decide +kernel
theorem dX1_openGap_109 : decode cX1_openGap 109 = .ok (.dup2, 1) := by decide +kernel
theorem dX1_openGap_110 : decode cX1_openGap 110 = .ok (.iaload, 1) := by decide +kernel
theorem dX1_openGap_111 : decode cX1_openGap 111 = .ok (.iload_n 2, 1) := by decide +kernel
theorem dX1_openGap_112 : decode cX1_openGap 112 = .ok (.iadd, 1) := by decide +kernel
theorem dX1_openGap_113 : decode cX1_openGap 113 = .ok (.iastore, 1) := by decide +kernel
theorem dX1_openGap_114 : decode cX1_openGap 114 = .ok (.iinc 3 1, 3) := by decide +kernel
theorem dX1_openGap_117 : decode cX1_openGap 117 = .ok (.goto (-31), 3) := by decide +kernel
theorem dX1_openGap_120 : decode cX1_openGap 120 = .ok (.return_, 1) := by decide +kernel
theorem dX1_put_0 : decode cX1_put 0 = .ok (.aload_n 0, 1) := by decide +kernel
theorem dX1_put_1 : decode cX1_put 1 = .ok (.getfield 9, 3) := by decide +kernel
theorem dX1_put_4 : decode cX1_put 4 = .ok (.iload_n 1, 1) := by decide +kernel
theorem dX1_put_5 : decode cX1_put 5 = .ok (.iload_n 2, 1) := by decide +kernel
theorem dX1_put_6 : decode cX1_put 6 = .ok (.iastore, 1) := by decide +kernel
theorem dX1_put_7 : decode cX1_put 7 = .ok (.aload_n 0, 1) := by decide +kernel
theorem dX1_put_8 : decode cX1_put 8 = .ok (.getfield 15, 3) := by decide +kernel
theorem dX1_put_11 : decode cX1_put 11 = .ok (.iload_n 1, 1) := by decide +kernel
theorem dX1_put_12 : decode cX1_put 12 = .ok (.iload_n 3, 1) := by decide +kernel
theorem dX1_put_13 : decode cX1_put 13 = .ok (.iastore, 1) := by decide +kernel
theorem dX1_put_14 : decode cX1_put 14 = .ok (.aload_n 0, 1) := by decide +kernel
theorem dX1_put_15 : decode cX1_put 15 = .ok (.getfield 18, 3) := by decide +kernel
theorem dX1_put_18 : decode cX1_put 18 = .ok (.iload_n 1, 1) := by decide +kernel
theorem dX1_put_19 : decode cX1_put 19 = .ok (.iload 4, 2) := by decide +kernel
theorem dX1_put_21 : decode cX1_put 21 = .ok (.iastore, 1) := by decide +kernel
theorem dX1_put_22 : decode cX1_put 22 = .ok (.aload_n 0, 1) := by decide +kernel
theorem dX1_put_23 : decode cX1_put 23 = .ok (.getfield 21, 3) := by decide +kernel
theorem dX1_put_26 : decode cX1_put 26 = .ok (.iload_n 1, 1) := by decide +kernel
theorem dX1_put_27 : decode cX1_put 27 = .ok (.iconst 0, 1) := by decide +kernel
theorem dX1_put_28 : decode cX1_put 28 = .ok (.iastore, 1) := by decide +kernel
theorem dX1_put_29 : decode cX1_put 29 = .ok (.iload_n 3, 1) := by decide +kernel
theorem dX1_put_30 : decode cX1_put 30 = .ok (.iconst (-1), 1) := by decide +kernel
theorem dX1_put_31 : decode cX1_put 31 = .ok (.if_icmp .eq 16, 3) := by decide +kernel
theorem dX1_put_34 : decode cX1_put 34 = .ok (.aload_n 0, 1) := by decide +kernel
theorem dX1_put_35 : decode cX1_put 35 = .ok (.getfield 21, 3) := by decide +kernel
theorem dX1_put_38 : decode cX1_put 38 = .ok (.iload_n 3, 1) := by decide +kernel
theorem dX1_put_39 : decode cX1_put 39 = .ok (.dup2, 1) := by decide +kernel
theorem dX1_put_40 : decode cX1_put 40 = .ok (.iaload, 1) := by decide +kernel
theorem dX1_put_41 : decode cX1_put 41 = .ok (.iconst 1, 1) := by decide +kernel
theorem dX1_put_42 : decode cX1_put 42 = .ok (.iload 4, 2) := by decide +kernel
theorem dX1_put_44 : decode cX1_put 44 = .ok (.ishl, 1) := by decide +kernel
theorem dX1_put_45 : decode cX1_put 45 = .ok (.ior, 1) := by decide +kernel
theorem dX1_put_46 : decode cX1_put 46 = .ok (.iastore, 1) := by decide +kernel
theorem dX1_put_47 : decode cX1_put 47 = .ok (.return_, 1) := by decide +kernel
theorem dX1_holds_0 : decode cX1_holds 0 = .ok (.lload_n 2, 1) := by decide +kernel
theorem dX1_holds_1 : decode cX1_holds 1 = .ok (.aload_n 0, 1) := by decide +kernel
theorem dX1_holds_2 : decode cX1_holds 2 = .ok (.getfield 9, 3) := by decide +kernel
theorem dX1_holds_5 : decode cX1_holds 5 = .ok (.iload_n 1, 1) := by decide +kernel
theorem dX1_holds_6 : decode cX1_holds 6 = .ok (.iaload, 1) := by decide +kernel
theorem dX1_holds_7 : decode cX1_holds 7 = .ok (.lushr, 1) := by decide +kernel
theorem dX1_holds_8 : decode cX1_holds 8 = .ok (.lconst 1, 1) := by decide +kernel
theorem dX1_holds_9 : decode cX1_holds 9 = .ok (.land, 1) := by decide +kernel
theorem dX1_holds_10 : decode cX1_holds 10 = .ok (.lconst 0, 1) := by decide +kernel
theorem dX1_holds_11 : decode cX1_holds 11 = .ok (.lcmp, 1) := by decide +kernel
theorem dX1_holds_12 : decode cX1_holds 12 = .ok (.ifCond .eq 29, 3) := by decide +kernel
theorem dX1_holds_15 : decode cX1_holds 15 = .ok (.aload_n 0, 1) := by decide +kernel
theorem dX1_holds_16 : decode cX1_holds 16 = .ok (.getfield 21, 3) := by decide +kernel
theorem dX1_holds_19 : decode cX1_holds 19 = .ok (.iload_n 1, 1) := by decide +kernel
theorem dX1_holds_20 : decode cX1_holds 20 = .ok (.iaload, 1) := by decide +kernel
theorem dX1_holds_21 : decode cX1_holds 21 = .ok (.iload 4, 2) := by decide +kernel
theorem dX1_holds_23 : decode cX1_holds 23 = .ok (.iand, 1) := by decide +kernel
theorem dX1_holds_24 : decode cX1_holds 24 = .ok (.ifCond .ne 17, 3) := by decide +kernel
theorem dX1_holds_27 : decode cX1_holds 27 = .ok (.aload_n 0, 1) := by decide +kernel
theorem dX1_holds_28 : decode cX1_holds 28 = .ok (.iload_n 1, 1) := by decide +kernel
theorem dX1_holds_29 : decode cX1_holds 29 = .ok (.iload 4, 2) := by decide +kernel
theorem dX1_holds_31 : decode cX1_holds 31 = .ok (.invokevirtual 28, 3) := by decide +kernel
theorem dX1_holds_34 : decode cX1_holds 34 = .ok (.ifCond .eq 7, 3) := by decide +kernel
theorem dX1_holds_37 : decode cX1_holds 37 = .ok (.iconst 1, 1) := by decide +kernel
theorem dX1_holds_38 : decode cX1_holds 38 = .ok (.goto 4, 3) := by decide +kernel
theorem dX1_holds_41 : decode cX1_holds 41 = .ok (.iconst 0, 1) := by decide +kernel
theorem dX1_holds_42 : decode cX1_holds 42 = .ok (.ireturn, 1) := by decide +kernel
theorem dX1_leadsTo_0 : decode cX1_leadsTo 0 = .ok (.iload_n 1, 1) := by decide +kernel
theorem dX1_leadsTo_1 : decode cX1_leadsTo 1 = .ok (.istore_n 3, 1) := by decide +kernel
theorem dX1_leadsTo_2 : decode cX1_leadsTo 2 = .ok (.iconst 0, 1) := by decide +kernel
theorem dX1_leadsTo_3 : decode cX1_leadsTo 3 = .ok (.istore 4, 2) := by decide +kernel
theorem dX1_leadsTo_5 : decode cX1_leadsTo 5 = .ok (.iload 4, 2) := by decide +kernel
theorem dX1_leadsTo_7 : decode cX1_leadsTo 7 = .ok (.bipush 90, 2) := by decide +kernel
theorem dX1_leadsTo_9 : decode cX1_leadsTo 9 = .ok (.if_icmp .ge 60, 3) := by decide +kernel
theorem dX1_leadsTo_12 : decode cX1_leadsTo 12 = .ok (.aload_n 0, 1) := by decide +kernel
theorem dX1_leadsTo_13 : decode cX1_leadsTo 13 = .ok (.getfield 15, 3) := by decide +kernel
theorem dX1_leadsTo_16 : decode cX1_leadsTo 16 = .ok (.iload_n 3, 1) := by decide +kernel
theorem dX1_leadsTo_17 : decode cX1_leadsTo 17 = .ok (.iaload, 1) := by decide +kernel
theorem dX1_leadsTo_18 : decode cX1_leadsTo 18 = .ok (.iconst (-1), 1) := by decide +kernel
theorem dX1_leadsTo_19 : decode cX1_leadsTo 19 = .ok (.if_icmp .eq 50, 3) := by decide +kernel
theorem dX1_leadsTo_22 : decode cX1_leadsTo 22 = .ok (.aload_n 0, 1) := by decide +kernel
theorem dX1_leadsTo_23 : decode cX1_leadsTo 23 = .ok (.getfield 21, 3) := by decide +kernel
theorem dX1_leadsTo_26 : decode cX1_leadsTo 26 = .ok (.aload_n 0, 1) := by decide +kernel
theorem dX1_leadsTo_27 : decode cX1_leadsTo 27 = .ok (.getfield 15, 3) := by decide +kernel
theorem dX1_leadsTo_30 : decode cX1_leadsTo 30 = .ok (.iload_n 3, 1) := by decide +kernel
theorem dX1_leadsTo_31 : decode cX1_leadsTo 31 = .ok (.iaload, 1) := by decide +kernel
theorem dX1_leadsTo_32 : decode cX1_leadsTo 32 = .ok (.iaload, 1) := by decide +kernel
theorem dX1_leadsTo_33 : decode cX1_leadsTo 33 = .ok (.iload_n 2, 1) := by decide +kernel
theorem dX1_leadsTo_34 : decode cX1_leadsTo 34 = .ok (.iand, 1) := by decide +kernel
theorem dX1_leadsTo_35 : decode cX1_leadsTo 35 = .ok (.istore 5, 2) := by decide +kernel
theorem dX1_leadsTo_37 : decode cX1_leadsTo 37 = .ok (.iload 5, 2) := by decide +kernel
theorem dX1_leadsTo_39 : decode cX1_leadsTo 39 = .ok (.iload 5, 2) := by decide +kernel
theorem dX1_leadsTo_41 : decode cX1_leadsTo 41 = .ok (.ineg, 1) := by decide +kernel
theorem dX1_leadsTo_42 : decode cX1_leadsTo 42 = .ok (.iand, 1) := by decide +kernel
theorem dX1_leadsTo_43 : decode cX1_leadsTo 43 = .ok (.iconst 1, 1) := by decide +kernel
theorem dX1_leadsTo_44 : decode cX1_leadsTo 44 = .ok (.aload_n 0, 1) := by decide +kernel
theorem dX1_leadsTo_45 : decode cX1_leadsTo 45 = .ok (.getfield 18, 3) := by decide +kernel
theorem dX1_leadsTo_48 : decode cX1_leadsTo 48 = .ok (.iload_n 3, 1) := by decide +kernel
theorem dX1_leadsTo_49 : decode cX1_leadsTo 49 = .ok (.iaload, 1) := by decide +kernel
theorem dX1_leadsTo_50 : decode cX1_leadsTo 50 = .ok (.ishl, 1) := by decide +kernel
theorem dX1_leadsTo_51 : decode cX1_leadsTo 51 = .ok (.if_icmp .eq 5, 3) := by decide +kernel
theorem dX1_leadsTo_54 : decode cX1_leadsTo 54 = .ok (.iconst 0, 1) := by decide +kernel
theorem dX1_leadsTo_55 : decode cX1_leadsTo 55 = .ok (.ireturn, 1) := by decide +kernel
theorem dX1_leadsTo_56 : decode cX1_leadsTo 56 = .ok (.aload_n 0, 1) := by decide +kernel
theorem dX1_leadsTo_57 : decode cX1_leadsTo 57 = .ok (.getfield 15, 3) := by decide +kernel
theorem dX1_leadsTo_60 : decode cX1_leadsTo 60 = .ok (.iload_n 3, 1) := by decide +kernel
theorem dX1_leadsTo_61 : decode cX1_leadsTo 61 = .ok (.iaload, 1) := by decide +kernel
theorem dX1_leadsTo_62 : decode cX1_leadsTo 62 = .ok (.istore_n 3, 1) := by decide +kernel
theorem dX1_leadsTo_63 : decode cX1_leadsTo 63 = .ok (.iinc 4 1, 3) := by decide +kernel
theorem dX1_leadsTo_66 : decode cX1_leadsTo 66 = .ok (.goto (-61), 3) := by decide +kernel
theorem dX1_leadsTo_69 : decode cX1_leadsTo 69 = .ok (.iconst 1, 1) := by decide +kernel
theorem dX1_leadsTo_70 : decode cX1_leadsTo 70 = .ok (.ireturn, 1) := by decide +kernel
theorem dX1_leadersUnder_0 : decode cX1_leadersUnder 0 = .ok (.iconst 0, 1) := by decide +kernel
theorem dX1_leadersUnder_1 : decode cX1_leadersUnder 1 = .ok (.istore_n 2, 1) := by decide +kernel
theorem dX1_leadersUnder_2 : decode cX1_leadersUnder 2 = .ok (.iconst 0, 1) := by decide +kernel
theorem dX1_leadersUnder_3 : decode cX1_leadersUnder 3 = .ok (.istore_n 3, 1) := by decide +kernel
theorem dX1_leadersUnder_4 : decode cX1_leadersUnder 4 = .ok (.iload_n 3, 1) := by decide +kernel
theorem dX1_leadersUnder_5 : decode cX1_leadersUnder 5 = .ok (.aload_n 0, 1) := by decide +kernel
theorem dX1_leadersUnder_6 : decode cX1_leadersUnder 6 = .ok (.getfield 24, 3) := by decide +kernel
theorem dX1_leadersUnder_9 : decode cX1_leadersUnder 9 = .ok (.if_icmp .ge 60, 3) := by decide +kernel
theorem dX1_leadersUnder_12 : decode cX1_leadersUnder 12 = .ok (.aload_n 0, 1) := by decide +kernel
theorem dX1_leadersUnder_13 : decode cX1_leadersUnder 13 = .ok (.getfield 18, 3) := by decide +kernel
theorem dX1_leadersUnder_16 : decode cX1_leadersUnder 16 = .ok (.iload_n 3, 1) := by decide +kernel
theorem dX1_leadersUnder_17 : decode cX1_leadersUnder 17 = .ok (.iaload, 1) := by decide +kernel
theorem dX1_leadersUnder_18 : decode cX1_leadersUnder 18 = .ok (.iload_n 1, 1) := by decide +kernel
theorem dX1_leadersUnder_19 : decode cX1_leadersUnder 19 = .ok (.if_icmp .ne 44, 3) := by decide +kernel
theorem dX1_leadersUnder_22 : decode cX1_leadersUnder 22 = .ok (.aload_n 0, 1) := by decide +kernel
theorem dX1_leadersUnder_23 : decode cX1_leadersUnder 23 = .ok (.getfield 15, 3) := by decide +kernel
theorem dX1_leadersUnder_26 : decode cX1_leadersUnder 26 = .ok (.iload_n 3, 1) := by decide +kernel
theorem dX1_leadersUnder_27 : decode cX1_leadersUnder 27 = .ok (.iaload, 1) := by decide +kernel
theorem dX1_leadersUnder_28 : decode cX1_leadersUnder 28 = .ok (.iconst (-1), 1) := by decide +kernel
theorem dX1_leadersUnder_29 : decode cX1_leadersUnder 29 = .ok (.if_icmp .eq 34, 3) := by decide +kernel
theorem dX1_leadersUnder_32 : decode cX1_leadersUnder 32 = .ok (.aload_n 0, 1) := by decide +kernel
theorem dX1_leadersUnder_33 : decode cX1_leadersUnder 33 = .ok (.getfield 18, 3) := by decide +kernel
theorem dX1_leadersUnder_36 : decode cX1_leadersUnder 36 = .ok (.aload_n 0, 1) := by decide +kernel
theorem dX1_leadersUnder_37 : decode cX1_leadersUnder 37 = .ok (.getfield 15, 3) := by decide +kernel
theorem dX1_leadersUnder_40 : decode cX1_leadersUnder 40 = .ok (.iload_n 3, 1) := by decide +kernel
theorem dX1_leadersUnder_41 : decode cX1_leadersUnder 41 = .ok (.iaload, 1) := by decide +kernel
theorem dX1_leadersUnder_42 : decode cX1_leadersUnder 42 = .ok (.iaload, 1) := by decide +kernel
theorem dX1_leadersUnder_43 : decode cX1_leadersUnder 43 = .ok (.iconst (-1), 1) := by decide +kernel
theorem dX1_leadersUnder_44 : decode cX1_leadersUnder 44 = .ok (.if_icmp .eq 19, 3) := by decide +kernel
theorem dX1_leadersUnder_47 : decode cX1_leadersUnder 47 = .ok (.iload_n 2, 1) := by decide +kernel
theorem dX1_leadersUnder_48 : decode cX1_leadersUnder 48 = .ok (.iconst 1, 1) := by decide +kernel
theorem dX1_leadersUnder_49 : decode cX1_leadersUnder 49 = .ok (.aload_n 0, 1) := by decide +kernel
theorem dX1_leadersUnder_50 : decode cX1_leadersUnder 50 = .ok (.getfield 18, 3) := by decide +kernel
theorem dX1_leadersUnder_53 : decode cX1_leadersUnder 53 = .ok (.aload_n 0, 1) := by decide +kernel
theorem dX1_leadersUnder_54 : decode cX1_leadersUnder 54 = .ok (.getfield 15, 3) := by decide +kernel
theorem dX1_leadersUnder_57 : decode cX1_leadersUnder 57 = .ok (.iload_n 3, 1) := by decide +kernel
theorem dX1_leadersUnder_58 : decode cX1_leadersUnder 58 = .ok (.iaload, 1) := by decide +kernel
theorem dX1_leadersUnder_59 : decode cX1_leadersUnder 59 = .ok (.iaload, 1) := by decide +kernel
theorem dX1_leadersUnder_60 : decode cX1_leadersUnder 60 = .ok (.ishl, 1) := by decide +kernel
theorem dX1_leadersUnder_61 : decode cX1_leadersUnder 61 = .ok (.ior, 1) := by decide +kernel
theorem dX1_leadersUnder_62 : decode cX1_leadersUnder 62 = .ok (.istore_n 2, 1) := by decide +kernel
theorem dX1_leadersUnder_63 : decode cX1_leadersUnder 63 = .ok (.iinc 3 1, 3) := by decide +kernel
theorem dX1_leadersUnder_66 : decode cX1_leadersUnder 66 = .ok (.goto (-62), 3) := by decide +kernel
theorem dX1_leadersUnder_69 : decode cX1_leadersUnder 69 = .ok (.iload_n 2, 1) := by decide +kernel
theorem dX1_leadersUnder_70 : decode cX1_leadersUnder 70 = .ok (.ireturn, 1) := by decide +kernel
theorem dX1_tornBy_0 : decode cX1_tornBy 0 = .ok (.lconst 0, 1) := by decide +kernel
theorem dX1_tornBy_1 : decode cX1_tornBy 1 = .ok (.lstore_n 2, 1) := by decide +kernel
theorem dX1_tornBy_2 : decode cX1_tornBy 2 = .ok (.iconst 0, 1) := by decide +kernel
theorem dX1_tornBy_3 : decode cX1_tornBy 3 = .ok (.istore 4, 2) := by decide +kernel
theorem dX1_tornBy_5 : decode cX1_tornBy 5 = .ok (.iload 4, 2) := by decide +kernel
theorem dX1_tornBy_7 : decode cX1_tornBy 7 = .ok (.aload_n 0, 1) := by decide +kernel
theorem dX1_tornBy_8 : decode cX1_tornBy 8 = .ok (.getfield 24, 3) := by decide +kernel
theorem dX1_tornBy_11 : decode cX1_tornBy 11 = .ok (.if_icmp .ge 37, 3) := by decide +kernel
theorem dX1_tornBy_14 : decode cX1_tornBy 14 = .ok (.aload_n 0, 1) := by decide +kernel
theorem dX1_tornBy_15 : decode cX1_tornBy 15 = .ok (.getfield 21, 3) := by decide +kernel
theorem dX1_tornBy_18 : decode cX1_tornBy 18 = .ok (.iload 4, 2) := by decide +kernel
theorem dX1_tornBy_20 : decode cX1_tornBy 20 = .ok (.iaload, 1) := by decide +kernel
theorem dX1_tornBy_21 : decode cX1_tornBy 21 = .ok (.iload_n 1, 1) := by decide +kernel
theorem dX1_tornBy_22 : decode cX1_tornBy 22 = .ok (.iand, 1) := by decide +kernel
theorem dX1_tornBy_23 : decode cX1_tornBy 23 = .ok (.invokestatic 32, 3) := by decide +kernel
theorem dX1_tornBy_26 : decode cX1_tornBy 26 = .ok (.iconst 2, 1) := by decide +kernel
theorem dX1_tornBy_27 : decode cX1_tornBy 27 = .ok (.if_icmp .lt 15, 3) := by decide +kernel
theorem dX1_tornBy_30 : decode cX1_tornBy 30 = .ok (.lload_n 2, 1) := by decide +kernel
theorem dX1_tornBy_31 : decode cX1_tornBy 31 = .ok (.lconst 1, 1) := by decide +kernel
theorem dX1_tornBy_32 : decode cX1_tornBy 32 = .ok (.aload_n 0, 1) := by decide +kernel
theorem dX1_tornBy_33 : decode cX1_tornBy 33 = .ok (.getfield 9, 3) := by decide +kernel
theorem dX1_tornBy_36 : decode cX1_tornBy 36 = .ok (.iload 4, 2) := by decide +kernel
theorem dX1_tornBy_38 : decode cX1_tornBy 38 = .ok (.iaload, 1) := by decide +kernel
theorem dX1_tornBy_39 : decode cX1_tornBy 39 = .ok (.lshl, 1) := by decide +kernel
theorem dX1_tornBy_40 : decode cX1_tornBy 40 = .ok (.lor, 1) := by decide +kernel
theorem dX1_tornBy_41 : decode cX1_tornBy 41 = .ok (.lstore_n 2, 1) := by decide +kernel
theorem dX1_tornBy_42 : decode cX1_tornBy 42 = .ok (.iinc 4 1, 3) := by decide +kernel
theorem dX1_tornBy_45 : decode cX1_tornBy 45 = .ok (.goto (-40), 3) := by decide +kernel
theorem dX1_tornBy_48 : decode cX1_tornBy 48 = .ok (.lload_n 2, 1) := by decide +kernel
theorem dX1_tornBy_49 : decode cX1_tornBy 49 = .ok (.lreturn, 1) := by decide +kernel
theorem dX2_init_0 : decode cX2_init 0 = .ok (.aload_n 0, 1) := by decide +kernel
theorem dX2_init_1 : decode cX2_init 1 = .ok (.invokespecial 3, 3) := by decide +kernel
theorem dX2_init_4 : decode cX2_init 4 = .ok (.aload_n 0, 1) := by decide +kernel
theorem dX2_init_5 : decode cX2_init 5 = .ok (.bipush 90, 2) := by decide +kernel
theorem dX2_init_7 : decode cX2_init 7 = .ok (.newarray .int, 2) := by decide +kernel
theorem dX2_init_9 : decode cX2_init 9 = .ok (.putfield 9, 3) := by decide +kernel
theorem dX2_init_12 : decode cX2_init 12 = .ok (.aload_n 0, 1) := by decide +kernel
theorem dX2_init_13 : decode cX2_init 13 = .ok (.bipush 90, 2) := by decide +kernel
theorem dX2_init_15 : decode cX2_init 15 = .ok (.newarray .int, 2) := by decide +kernel
theorem dX2_init_17 : decode cX2_init 17 = .ok (.putfield 15, 3) := by decide +kernel
theorem dX2_init_20 : decode cX2_init 20 = .ok (.aload_n 0, 1) := by decide +kernel
theorem dX2_init_21 : decode cX2_init 21 = .ok (.bipush 90, 2) := by decide +kernel
theorem dX2_init_23 : decode cX2_init 23 = .ok (.newarray .int, 2) := by decide +kernel
theorem dX2_init_25 : decode cX2_init 25 = .ok (.putfield 18, 3) := by decide +kernel
theorem dX2_init_28 : decode cX2_init 28 = .ok (.aload_n 0, 1) := by decide +kernel
theorem dX2_init_29 : decode cX2_init 29 = .ok (.iconst 0, 1) := by decide +kernel
theorem dX2_init_30 : decode cX2_init 30 = .ok (.putfield 21, 3) := by decide +kernel
theorem dX2_init_33 : decode cX2_init 33 = .ok (.return_, 1) := by decide +kernel
theorem dX2_take_0 : decode cX2_take 0 = .ok (.aload_n 0, 1) := by decide +kernel
theorem dX2_take_1 : decode cX2_take 1 = .ok (.getfield 21, 3) := by decide +kernel
theorem dX2_take_4 : decode cX2_take 4 = .ok (.ifCond .eq 18, 3) := by decide +kernel
theorem dX2_take_7 : decode cX2_take 7 = .ok (.aload_n 0, 1) := by decide +kernel
theorem dX2_take_8 : decode cX2_take 8 = .ok (.getfield 9, 3) := by decide +kernel
theorem dX2_take_11 : decode cX2_take 11 = .ok (.aload_n 0, 1) := by decide +kernel
theorem dX2_take_12 : decode cX2_take 12 = .ok (.getfield 21, 3) := by decide +kernel
theorem dX2_take_15 : decode cX2_take 15 = .ok (.iconst 1, 1) := by decide +kernel
theorem dX2_take_16 : decode cX2_take 16 = .ok (.isub, 1) := by decide +kernel
theorem dX2_take_17 : decode cX2_take 17 = .ok (.iaload, 1) := by decide +kernel
theorem dX2_take_18 : decode cX2_take 18 = .ok (.iload_n 2, 1) := by decide +kernel
theorem dX2_take_19 : decode cX2_take 19 = .ok (.if_icmp .eq 43, 3) := by decide +kernel
theorem dX2_take_22 : decode cX2_take 22 = .ok (.aload_n 0, 1) := by decide +kernel
theorem dX2_take_23 : decode cX2_take 23 = .ok (.getfield 9, 3) := by decide +kernel
theorem dX2_take_26 : decode cX2_take 26 = .ok (.aload_n 0, 1) := by decide +kernel
theorem dX2_take_27 : decode cX2_take 27 = .ok (.getfield 21, 3) := by decide +kernel
theorem dX2_take_30 : decode cX2_take 30 = .ok (.iload_n 2, 1) := by decide +kernel
theorem dX2_take_31 : decode cX2_take 31 = .ok (.iastore, 1) := by decide +kernel
theorem dX2_take_32 : decode cX2_take 32 = .ok (.aload_n 0, 1) := by decide +kernel
theorem dX2_take_33 : decode cX2_take 33 = .ok (.getfield 15, 3) := by decide +kernel
theorem dX2_take_36 : decode cX2_take 36 = .ok (.aload_n 0, 1) := by decide +kernel
theorem dX2_take_37 : decode cX2_take 37 = .ok (.getfield 21, 3) := by decide +kernel
theorem dX2_take_40 : decode cX2_take 40 = .ok (.iconst 0, 1) := by decide +kernel
theorem dX2_take_41 : decode cX2_take 41 = .ok (.iastore, 1) := by decide +kernel
theorem dX2_take_42 : decode cX2_take 42 = .ok (.aload_n 0, 1) := by decide +kernel
theorem dX2_take_43 : decode cX2_take 43 = .ok (.getfield 18, 3) := by decide +kernel
theorem dX2_take_46 : decode cX2_take 46 = .ok (.aload_n 0, 1) := by decide +kernel
theorem dX2_take_47 : decode cX2_take 47 = .ok (.getfield 21, 3) := by decide +kernel
theorem dX2_take_50 : decode cX2_take 50 = .ok (.iload_n 1, 1) := by decide +kernel
theorem dX2_take_51 : decode cX2_take 51 = .ok (.iastore, 1) := by decide +kernel
theorem dX2_take_52 : decode cX2_take 52 = .ok (.aload_n 0, 1) := by decide +kernel
theorem dX2_take_53 : decode cX2_take 53 = .ok (.dup, 1) := by decide +kernel
theorem dX2_take_54 : decode cX2_take 54 = .ok (.getfield 21, 3) := by decide +kernel
theorem dX2_take_57 : decode cX2_take 57 = .ok (.iconst 1, 1) := by decide +kernel
theorem dX2_take_58 : decode cX2_take 58 = .ok (.iadd, 1) := by decide +kernel
theorem dX2_take_59 : decode cX2_take 59 = .ok (.putfield 21, 3) := by decide +kernel
theorem dX2_take_62 : decode cX2_take 62 = .ok (.aload_n 0, 1) := by decide +kernel
theorem dX2_take_63 : decode cX2_take 63 = .ok (.getfield 15, 3) := by decide +kernel
theorem dX2_take_66 : decode cX2_take 66 = .ok (.aload_n 0, 1) := by decide +kernel
theorem dX2_take_67 : decode cX2_take 67 = .ok (.getfield 21, 3) := by decide +kernel
theorem dX2_take_70 : decode cX2_take 70 = .ok (.iconst 1, 1) := by decide +kernel
theorem dX2_take_71 : decode cX2_take 71 = .ok (.isub, 1) := by decide +kernel
theorem dX2_take_72 : decode cX2_take 72 = .ok (.dup2, 1) := by decide +kernel
theorem dX2_take_73 : decode cX2_take 73 = .ok (.iaload, 1) := by decide +kernel
theorem dX2_take_74 : decode cX2_take 74 = .ok (.iconst 1, 1) := by decide +kernel
theorem dX2_take_75 : decode cX2_take 75 = .ok (.iadd, 1) := by decide +kernel
theorem dX2_take_76 : decode cX2_take 76 = .ok (.iastore, 1) := by decide +kernel
theorem dX2_take_77 : decode cX2_take 77 = .ok (.return_, 1) := by decide +kernel
theorem dX2_factOf_0 : decode cX2_factOf 0 = .ok (.iload_n 2, 1) := by decide +kernel
theorem dX2_factOf_1 : decode cX2_factOf 1 = .ok (.lookupswitch 41 #[(1, 27), (2, 34)], 27) := by decide +kernel
theorem dX2_factOf_28 : decode cX2_factOf 28 = .ok (.aload_n 0, 1) := by decide +kernel
theorem dX2_factOf_29 : decode cX2_factOf 29 = .ok (.getfield 9, 3) := by decide +kernel
theorem dX2_factOf_32 : decode cX2_factOf 32 = .ok (.iload_n 1, 1) := by decide +kernel
theorem dX2_factOf_33 : decode cX2_factOf 33 = .ok (.iaload, 1) := by decide +kernel
theorem dX2_factOf_34 : decode cX2_factOf 34 = .ok (.ireturn, 1) := by decide +kernel
theorem dX2_factOf_35 : decode cX2_factOf 35 = .ok (.aload_n 0, 1) := by decide +kernel
theorem dX2_factOf_36 : decode cX2_factOf 36 = .ok (.getfield 15, 3) := by decide +kernel
theorem dX2_factOf_39 : decode cX2_factOf 39 = .ok (.iload_n 1, 1) := by decide +kernel
theorem dX2_factOf_40 : decode cX2_factOf 40 = .ok (.iaload, 1) := by decide +kernel
theorem dX2_factOf_41 : decode cX2_factOf 41 = .ok (.ireturn, 1) := by decide +kernel
theorem dX2_factOf_42 : decode cX2_factOf 42 = .ok (.aload_n 0, 1) := by decide +kernel
theorem dX2_factOf_43 : decode cX2_factOf 43 = .ok (.getfield 18, 3) := by decide +kernel
theorem dX2_factOf_46 : decode cX2_factOf 46 = .ok (.iload_n 1, 1) := by decide +kernel
theorem dX2_factOf_47 : decode cX2_factOf 47 = .ok (.iaload, 1) := by decide +kernel
theorem dX2_factOf_48 : decode cX2_factOf 48 = .ok (.ireturn, 1) := by decide +kernel
theorem dX3_init_0 : decode cX3_init 0 = .ok (.aload_n 0, 1) := by decide +kernel
theorem dX3_init_1 : decode cX3_init 1 = .ok (.invokespecial 1, 3) := by decide +kernel
theorem dX3_init_4 : decode cX3_init 4 = .ok (.aload_n 0, 1) := by decide +kernel
theorem dX3_init_5 : decode cX3_init 5 = .ok (.bipush 40, 2) := by decide +kernel
theorem dX3_init_7 : decode cX3_init 7 = .ok (.newarray .int, 2) := by decide +kernel
theorem dX3_init_9 : decode cX3_init 9 = .ok (.putfield 9, 3) := by decide +kernel
theorem dX3_init_12 : decode cX3_init 12 = .ok (.aload_n 0, 1) := by decide +kernel
theorem dX3_init_13 : decode cX3_init 13 = .ok (.iconst 0, 1) := by decide +kernel
theorem dX3_init_14 : decode cX3_init 14 = .ok (.putfield 13, 3) := by decide +kernel
theorem dX3_init_17 : decode cX3_init 17 = .ok (.aload_n 0, 1) := by decide +kernel
theorem dX3_init_18 : decode cX3_init 18 = .ok (.bipush 64, 2) := by decide +kernel
theorem dX3_init_20 : decode cX3_init 20 = .ok (.newarray .int, 2) := by decide +kernel
theorem dX3_init_22 : decode cX3_init 22 = .ok (.putfield 17, 3) := by decide +kernel
theorem dX3_init_25 : decode cX3_init 25 = .ok (.aload_n 0, 1) := by decide +kernel
theorem dX3_init_26 : decode cX3_init 26 = .ok (.iconst 0, 1) := by decide +kernel
theorem dX3_init_27 : decode cX3_init 27 = .ok (.putfield 20, 3) := by decide +kernel
theorem dX3_init_30 : decode cX3_init 30 = .ok (.aload_n 0, 1) := by decide +kernel
theorem dX3_init_31 : decode cX3_init 31 = .ok (.lconst 0, 1) := by decide +kernel
theorem dX3_init_32 : decode cX3_init 32 = .ok (.putfield 23, 3) := by decide +kernel
theorem dX3_init_35 : decode cX3_init 35 = .ok (.aload_n 0, 1) := by decide +kernel
theorem dX3_init_36 : decode cX3_init 36 = .ok (.new 27, 3) := by decide +kernel
theorem dX3_init_39 : decode cX3_init 39 = .ok (.dup, 1) := by decide +kernel
theorem dX3_init_40 : decode cX3_init 40 = .ok (.invokespecial 29, 3) := by decide +kernel
theorem dX3_init_43 : decode cX3_init 43 = .ok (.putfield 30, 3) := by decide +kernel
theorem dX3_init_46 : decode cX3_init 46 = .ok (.aload_n 0, 1) := by decide +kernel
theorem dX3_init_47 : decode cX3_init 47 = .ok (.new 34, 3) := by decide +kernel
theorem dX3_init_50 : decode cX3_init 50 = .ok (.dup, 1) := by decide +kernel
theorem dX3_init_51 : decode cX3_init 51 = .ok (.invokespecial 36, 3) := by decide +kernel
theorem dX3_init_54 : decode cX3_init 54 = .ok (.putfield 37, 3) := by decide +kernel
theorem dX3_init_57 : decode cX3_init 57 = .ok (.aload_n 0, 1) := by decide +kernel
theorem dX3_init_58 : decode cX3_init 58 = .ok (.new 41, 3) := by decide +kernel
theorem dX3_init_61 : decode cX3_init 61 = .ok (.dup, 1) := by decide +kernel
theorem dX3_init_62 : decode cX3_init 62 = .ok (.invokespecial 43, 3) := by decide +kernel
theorem dX3_init_65 : decode cX3_init 65 = .ok (.putfield 44, 3) := by decide +kernel
theorem dX3_init_68 : decode cX3_init 68 = .ok (.aload_n 0, 1) := by decide +kernel
theorem dX3_init_69 : decode cX3_init 69 = .ok (.bipush 90, 2) := by decide +kernel
theorem dX3_init_71 : decode cX3_init 71 = .ok (.newarray .int, 2) := by decide +kernel
theorem dX3_init_73 : decode cX3_init 73 = .ok (.putfield 48, 3) := by decide +kernel
theorem dX3_init_76 : decode cX3_init 76 = .ok (.aload_n 0, 1) := by decide +kernel
theorem dX3_init_77 : decode cX3_init 77 = .ok (.iconst 0, 1) := by decide +kernel
theorem dX3_init_78 : decode cX3_init 78 = .ok (.putfield 51, 3) := by decide +kernel
theorem dX3_init_81 : decode cX3_init 81 = .ok (.aload_n 0, 1) := by decide +kernel
theorem dX3_init_82 : decode cX3_init 82 = .ok (.iconst (-1), 1) := by decide +kernel
theorem dX3_init_83 : decode cX3_init 83 = .ok (.putfield 54, 3) := by decide +kernel
theorem dX3_init_86 : decode cX3_init 86 = .ok (.aload_n 0, 1) := by decide +kernel
theorem dX3_init_87 : decode cX3_init 87 = .ok (.iconst 0, 1) := by decide +kernel
theorem dX3_init_88 : decode cX3_init 88 = .ok (.putfield 57, 3) := by decide +kernel
theorem dX3_init_91 : decode cX3_init 91 = .ok (.aload_n 0, 1) := by decide +kernel
theorem dX3_init_92 : decode cX3_init 92 = .ok (.iconst 0, 1) := by decide +kernel
theorem dX3_init_93 : decode cX3_init 93 = .ok (.putfield 60, 3) := by decide +kernel
theorem dX3_init_96 : decode cX3_init 96 = .ok (.return_, 1) := by decide +kernel
theorem dX3_letter_0 : decode cX3_letter 0 = .ok (.iload_n 1, 1) := by decide +kernel
theorem dX3_letter_1 : decode cX3_letter 1 = .ok (.bipush 32, 2) := by decide +kernel
theorem dX3_letter_3 : decode cX3_letter 3 = .ok (.if_icmp .lt 9, 3) := by decide +kernel
theorem dX3_letter_6 : decode cX3_letter 6 = .ok (.iload_n 1, 1) := by decide +kernel
theorem dX3_letter_7 : decode cX3_letter 7 = .ok (.bipush 126, 2) := by decide +kernel
theorem dX3_letter_9 : decode cX3_letter 9 = .ok (.if_icmp .le 7, 3) := by decide +kernel
theorem dX3_letter_12 : decode cX3_letter 12 = .ok (.sipush (-1002), 3) := by decide +kernel
theorem dX3_letter_15 : decode cX3_letter 15 = .ok (.ireturn, 1) := by decide +kernel
theorem dX3_letter_16 : decode cX3_letter 16 = .ok (.aload_n 0, 1) := by decide +kernel
theorem dX3_letter_17 : decode cX3_letter 17 = .ok (.getfield 13, 3) := by decide +kernel
theorem dX3_letter_20 : decode cX3_letter 20 = .ok (.bipush 40, 2) := by decide +kernel
theorem dX3_letter_22 : decode cX3_letter 22 = .ok (.if_icmp .lt 7, 3) := by decide +kernel
theorem dX3_letter_25 : decode cX3_letter 25 = .ok (.sipush (-1004), 3) := by decide +kernel
theorem dX3_letter_28 : decode cX3_letter 28 = .ok (.ireturn, 1) := by decide +kernel
theorem dX3_letter_29 : decode cX3_letter 29 = .ok (.aload_n 0, 1) := by decide +kernel
theorem dX3_letter_30 : decode cX3_letter 30 = .ok (.getfield 9, 3) := by decide +kernel
theorem dX3_letter_33 : decode cX3_letter 33 = .ok (.aload_n 0, 1) := by decide +kernel
theorem dX3_letter_34 : decode cX3_letter 34 = .ok (.getfield 13, 3) := by decide +kernel
theorem dX3_letter_37 : decode cX3_letter 37 = .ok (.iload_n 1, 1) := by decide +kernel
theorem dX3_letter_38 : decode cX3_letter 38 = .ok (.iastore, 1) := by decide +kernel
theorem dX3_letter_39 : decode cX3_letter 39 = .ok (.aload_n 0, 1) := by decide +kernel
theorem dX3_letter_40 : decode cX3_letter 40 = .ok (.dup, 1) := by decide +kernel
theorem dX3_letter_41 : decode cX3_letter 41 = .ok (.getfield 13, 3) := by decide +kernel
theorem dX3_letter_44 : decode cX3_letter 44 = .ok (.iconst 1, 1) := by decide +kernel
theorem dX3_letter_45 : decode cX3_letter 45 = .ok (.iadd, 1) := by decide +kernel
theorem dX3_letter_46 : decode cX3_letter 46 = .ok (.putfield 13, 3) := by decide +kernel
theorem dX3_letter_49 : decode cX3_letter 49 = .ok (.aload_n 0, 1) := by decide +kernel
theorem dX3_letter_50 : decode cX3_letter 50 = .ok (.getfield 13, 3) := by decide +kernel
theorem dX3_letter_53 : decode cX3_letter 53 = .ok (.ireturn, 1) := by decide +kernel
theorem dX3_blank_0 : decode cX3_blank 0 = .ok (.aload_n 0, 1) := by decide +kernel
theorem dX3_blank_1 : decode cX3_blank 1 = .ok (.getfield 13, 3) := by decide +kernel
theorem dX3_blank_4 : decode cX3_blank 4 = .ok (.istore_n 1, 1) := by decide +kernel
theorem dX3_blank_5 : decode cX3_blank 5 = .ok (.aload_n 0, 1) := by decide +kernel
theorem dX3_blank_6 : decode cX3_blank 6 = .ok (.iconst 0, 1) := by decide +kernel
theorem dX3_blank_7 : decode cX3_blank 7 = .ok (.putfield 13, 3) := by decide +kernel
theorem dX3_blank_10 : decode cX3_blank 10 = .ok (.iload_n 1, 1) := by decide +kernel
theorem dX3_blank_11 : decode cX3_blank 11 = .ok (.ireturn, 1) := by decide +kernel
theorem dX3_begin_0 : decode cX3_begin 0 = .ok (.aload_n 0, 1) := by decide +kernel
theorem dX3_begin_1 : decode cX3_begin 1 = .ok (.aload_n 0, 1) := by decide +kernel
theorem dX3_begin_2 : decode cX3_begin 2 = .ok (.getfield 9, 3) := by decide +kernel
theorem dX3_begin_5 : decode cX3_begin 5 = .ok (.aload_n 0, 1) := by decide +kernel
theorem dX3_begin_6 : decode cX3_begin 6 = .ok (.getfield 13, 3) := by decide +kernel
theorem dX3_begin_9 : decode cX3_begin 9 = .ok (.invokevirtual 63, 3) := by decide +kernel
theorem dX3_begin_12 : decode cX3_begin 12 = .ok (.aload_n 0, 1) := by decide +kernel
theorem dX3_begin_13 : decode cX3_begin 13 = .ok (.iconst 0, 1) := by decide +kernel
theorem dX3_begin_14 : decode cX3_begin 14 = .ok (.putfield 13, 3) := by decide +kernel
theorem dX3_begin_17 : decode cX3_begin 17 = .ok (.aload_n 0, 1) := by decide +kernel
theorem dX3_begin_18 : decode cX3_begin 18 = .ok (.dup, 1) := by decide +kernel
theorem dX3_begin_19 : decode cX3_begin 19 = .ok (.getfield 57, 3) := by decide +kernel
theorem dX3_begin_22 : decode cX3_begin 22 = .ok (.iconst 1, 1) := by decide +kernel
theorem dX3_begin_23 : decode cX3_begin 23 = .ok (.iadd, 1) := by decide +kernel
theorem dX3_begin_24 : decode cX3_begin 24 = .ok (.putfield 57, 3) := by decide +kernel
theorem dX3_begin_27 : decode cX3_begin 27 = .ok (.aload_n 0, 1) := by decide +kernel
theorem dX3_begin_28 : decode cX3_begin 28 = .ok (.getfield 20, 3) := by decide +kernel
theorem dX3_begin_31 : decode cX3_begin 31 = .ok (.ireturn, 1) := by decide +kernel
theorem dX3_startText_0 : decode cX3_startText 0 = .ok (.aload_n 0, 1) := by decide +kernel
theorem dX3_startText_1 : decode cX3_startText 1 = .ok (.getfield 30, 3) := by decide +kernel
theorem dX3_startText_4 : decode cX3_startText 4 = .ok (.iconst 0, 1) := by decide +kernel
theorem dX3_startText_5 : decode cX3_startText 5 = .ok (.putfield 67, 3) := by decide +kernel
theorem dX3_startText_8 : decode cX3_startText 8 = .ok (.aload_n 0, 1) := by decide +kernel
theorem dX3_startText_9 : decode cX3_startText 9 = .ok (.getfield 37, 3) := by decide +kernel
theorem dX3_startText_12 : decode cX3_startText 12 = .ok (.iconst 0, 1) := by decide +kernel
theorem dX3_startText_13 : decode cX3_startText 13 = .ok (.putfield 70, 3) := by decide +kernel
theorem dX3_startText_16 : decode cX3_startText 16 = .ok (.aload_n 0, 1) := by decide +kernel
theorem dX3_startText_17 : decode cX3_startText 17 = .ok (.iconst 0, 1) := by decide +kernel
theorem dX3_startText_18 : decode cX3_startText 18 = .ok (.putfield 20, 3) := by decide +kernel
theorem dX3_startText_21 : decode cX3_startText 21 = .ok (.iconst 0, 1) := by decide +kernel
theorem dX3_startText_22 : decode cX3_startText 22 = .ok (.istore_n 3, 1) := by decide +kernel
theorem dX3_startText_23 : decode cX3_startText 23 = .ok (.iload_n 3, 1) := by decide +kernel
theorem dX3_startText_24 : decode cX3_startText 24 = .ok (.iload_n 2, 1) := by decide +kernel
theorem dX3_startText_25 : decode cX3_startText 25 = .ok (.if_icmp .ge 24, 3) := by decide +kernel
theorem dX3_startText_28 : decode cX3_startText 28 = .ok (.iload_n 3, 1) := by decide +kernel
theorem dX3_startText_29 : decode cX3_startText 29 = .ok (.bipush 64, 2) := by decide +kernel
theorem dX3_startText_31 : decode cX3_startText 31 = .ok (.if_icmp .ge 18, 3) := by decide +kernel
theorem dX3_startText_34 : decode cX3_startText 34 = .ok (.aload_n 0, 1) := by decide +kernel
theorem dX3_startText_35 : decode cX3_startText 35 = .ok (.aload_n 1, 1) := by decide +kernel
theorem dX3_startText_36 : decode cX3_startText 36 = .ok (.iload_n 3, 1) := by decide +kernel
theorem dX3_startText_37 : decode cX3_startText 37 = .ok (.iaload, 1) := by decide +kernel
theorem dX3_startText_38 : decode cX3_startText 38 = .ok (.iload_n 3, 1) := by decide +kernel
theorem dX3_startText_39 : decode cX3_startText 39 = .ok (.iconst (-1), 1) := by decide +kernel
theorem dX3_startText_40 : decode cX3_startText 40 = .ok (.invokevirtual 71, 3) := by decide +kernel
theorem dX3_startText_43 : decode cX3_startText 43 = .ok (.iinc 3 1, 3) := by decide +kernel
theorem dX3_startText_46 : decode cX3_startText 46 = .ok (.goto (-23), 3) := by decide +kernel
theorem dX3_startText_49 : decode cX3_startText 49 = .ok (.aload_n 0, 1) := by decide +kernel
theorem dX3_startText_50 : decode cX3_startText 50 = .ok (.aload_n 0, 1) := by decide +kernel
theorem dX3_startText_51 : decode cX3_startText 51 = .ok (.getfield 20, 3) := by decide +kernel
theorem dX3_startText_54 : decode cX3_startText 54 = .ok (.invokestatic 75, 3) := by decide +kernel
theorem dX3_startText_57 : decode cX3_startText 57 = .ok (.putfield 23, 3) := by decide +kernel
theorem dX3_startText_60 : decode cX3_startText 60 = .ok (.return_, 1) := by decide +kernel
theorem dX3_firstLetters_0 : decode cX3_firstLetters 0 = .ok (.iload_n 0, 1) := by decide +kernel
theorem dX3_firstLetters_1 : decode cX3_firstLetters 1 = .ok (.bipush 64, 2) := by decide +kernel
theorem dX3_firstLetters_3 : decode cX3_firstLetters 3 = .ok (.if_icmp .lt 9, 3) := by decide +kernel
theorem dX3_firstLetters_6 : decode cX3_firstLetters 6 = .ok (.ldc2_w 79, 3) := by decide +kernel
theorem dX3_firstLetters_9 : decode cX3_firstLetters 9 = .ok (.goto 8, 3) := by decide +kernel
theorem dX3_firstLetters_12 : decode cX3_firstLetters 12 = .ok (.lconst 1, 1) := by decide +kernel
theorem dX3_firstLetters_13 : decode cX3_firstLetters 13 = .ok (.iload_n 0, 1) := by decide +kernel
theorem dX3_firstLetters_14 : decode cX3_firstLetters 14 = .ok (.lshl, 1) := by decide +kernel
theorem dX3_firstLetters_15 : decode cX3_firstLetters 15 = .ok (.lconst 1, 1) := by decide +kernel
theorem dX3_firstLetters_16 : decode cX3_firstLetters 16 = .ok (.lsub, 1) := by decide +kernel
theorem dX3_firstLetters_17 : decode cX3_firstLetters 17 = .ok (.lreturn, 1) := by decide +kernel
theorem dX3_addLetter_0 : decode cX3_addLetter 0 = .ok (.aload_n 0, 1) := by decide +kernel
theorem dX3_addLetter_1 : decode cX3_addLetter 1 = .ok (.getfield 17, 3) := by decide +kernel
theorem dX3_addLetter_4 : decode cX3_addLetter 4 = .ok (.aload_n 0, 1) := by decide +kernel
theorem dX3_addLetter_5 : decode cX3_addLetter 5 = .ok (.getfield 20, 3) := by decide +kernel
theorem dX3_addLetter_8 : decode cX3_addLetter 8 = .ok (.iload_n 1, 1) := by decide +kernel
theorem dX3_addLetter_9 : decode cX3_addLetter 9 = .ok (.iastore, 1) := by decide +kernel
theorem dX3_addLetter_10 : decode cX3_addLetter 10 = .ok (.aload_n 0, 1) := by decide +kernel
theorem dX3_addLetter_11 : decode cX3_addLetter 11 = .ok (.getfield 30, 3) := by decide +kernel
theorem dX3_addLetter_14 : decode cX3_addLetter 14 = .ok (.iload_n 2, 1) := by decide +kernel
theorem dX3_addLetter_15 : decode cX3_addLetter 15 = .ok (.iconst 1, 1) := by decide +kernel
theorem dX3_addLetter_16 : decode cX3_addLetter 16 = .ok (.invokevirtual 81, 3) := by decide +kernel
theorem dX3_addLetter_19 : decode cX3_addLetter 19 = .ok (.aload_n 0, 1) := by decide +kernel
theorem dX3_addLetter_20 : decode cX3_addLetter 20 = .ok (.getfield 30, 3) := by decide +kernel
theorem dX3_addLetter_23 : decode cX3_addLetter 23 = .ok (.iload_n 2, 1) := by decide +kernel
theorem dX3_addLetter_24 : decode cX3_addLetter 24 = .ok (.aload_n 0, 1) := by decide +kernel
theorem dX3_addLetter_25 : decode cX3_addLetter 25 = .ok (.getfield 20, 3) := by decide +kernel
theorem dX3_addLetter_28 : decode cX3_addLetter 28 = .ok (.iconst (-1), 1) := by decide +kernel
theorem dX3_addLetter_29 : decode cX3_addLetter 29 = .ok (.iload_n 3, 1) := by decide +kernel
theorem dX3_addLetter_30 : decode cX3_addLetter 30 = .ok (.invokevirtual 85, 3) := by decide +kernel
theorem dX3_addLetter_33 : decode cX3_addLetter 33 = .ok (.aload_n 0, 1) := by decide +kernel
theorem dX3_addLetter_34 : decode cX3_addLetter 34 = .ok (.dup, 1) := by decide +kernel
theorem dX3_addLetter_35 : decode cX3_addLetter 35 = .ok (.getfield 20, 3) := by decide +kernel
theorem dX3_addLetter_38 : decode cX3_addLetter 38 = .ok (.iconst 1, 1) := by decide +kernel
theorem dX3_addLetter_39 : decode cX3_addLetter 39 = .ok (.iadd, 1) := by decide +kernel
theorem dX3_addLetter_40 : decode cX3_addLetter 40 = .ok (.putfield 20, 3) := by decide +kernel
theorem dX3_addLetter_43 : decode cX3_addLetter 43 = .ok (.return_, 1) := by decide +kernel
theorem dX3_insert_0 : decode cX3_insert 0 = .ok (.iload_n 1, 1) := by decide +kernel
theorem dX3_insert_1 : decode cX3_insert 1 = .ok (.invokestatic 89, 3) := by decide +kernel
theorem dX3_insert_4 : decode cX3_insert 4 = .ok (.ifCond .ne 7, 3) := by decide +kernel
theorem dX3_insert_7 : decode cX3_insert 7 = .ok (.sipush (-1001), 3) := by decide +kernel
theorem dX3_insert_10 : decode cX3_insert 10 = .ok (.ireturn, 1) := by decide +kernel
theorem dX3_insert_11 : decode cX3_insert 11 = .ok (.aload_n 0, 1) := by decide +kernel
theorem dX3_insert_12 : decode cX3_insert 12 = .ok (.aload_n 0, 1) := by decide +kernel
theorem dX3_insert_13 : decode cX3_insert 13 = .ok (.iconst 2, 1) := by decide +kernel
theorem dX3_insert_14 : decode cX3_insert 14 = .ok (.iload_n 1, 1) := by decide +kernel
theorem dX3_insert_15 : decode cX3_insert 15 = .ok (.iadd, 1) := by decide +kernel
theorem dX3_insert_16 : decode cX3_insert 16 = .ok (.invokevirtual 93, 3) := by decide +kernel
theorem dX3_insert_19 : decode cX3_insert 19 = .ok (.invokevirtual 97, 3) := by decide +kernel
theorem dX3_insert_22 : decode cX3_insert 22 = .ok (.istore_n 3, 1) := by decide +kernel
theorem dX3_insert_23 : decode cX3_insert 23 = .ok (.iload_n 2, 1) := by decide +kernel
theorem dX3_insert_24 : decode cX3_insert 24 = .ok (.ifCond .lt 8, 3) := by decide +kernel
theorem dX3_insert_27 : decode cX3_insert 27 = .ok (.iload_n 2, 1) := by decide +kernel
theorem dX3_insert_28 : decode cX3_insert 28 = .ok (.iload_n 3, 1) := by decide +kernel
theorem dX3_insert_29 : decode cX3_insert 29 = .ok (.if_icmp .le 7, 3) := by decide +kernel
theorem dX3_insert_32 : decode cX3_insert 32 = .ok (.sipush (-1001), 3) := by decide +kernel
theorem dX3_insert_35 : decode cX3_insert 35 = .ok (.ireturn, 1) := by decide +kernel
theorem dX3_insert_36 : decode cX3_insert 36 = .ok (.aload_n 0, 1) := by decide +kernel
theorem dX3_insert_37 : decode cX3_insert 37 = .ok (.getfield 13, 3) := by decide +kernel
theorem dX3_insert_40 : decode cX3_insert 40 = .ok (.ifCond .ne 7, 3) := by decide +kernel
theorem dX3_insert_43 : decode cX3_insert 43 = .ok (.sipush (-1003), 3) := by decide +kernel
theorem dX3_insert_46 : decode cX3_insert 46 = .ok (.ireturn, 1) := by decide +kernel
theorem dX3_insert_47 : decode cX3_insert 47 = .ok (.aload_n 0, 1) := by decide +kernel
theorem dX3_insert_48 : decode cX3_insert 48 = .ok (.getfield 20, 3) := by decide +kernel
theorem dX3_insert_51 : decode cX3_insert 51 = .ok (.aload_n 0, 1) := by decide +kernel
theorem dX3_insert_52 : decode cX3_insert 52 = .ok (.getfield 13, 3) := by decide +kernel
theorem dX3_insert_55 : decode cX3_insert 55 = .ok (.iadd, 1) := by decide +kernel
theorem dX3_insert_56 : decode cX3_insert 56 = .ok (.bipush 64, 2) := by decide +kernel
theorem dX3_insert_58 : decode cX3_insert 58 = .ok (.if_icmp .gt 30, 3) := by decide +kernel
theorem dX3_insert_61 : decode cX3_insert 61 = .ok (.aload_n 0, 1) := by decide +kernel
theorem dX3_insert_62 : decode cX3_insert 62 = .ok (.getfield 37, 3) := by decide +kernel
theorem dX3_insert_65 : decode cX3_insert 65 = .ok (.invokevirtual 100, 3) := by decide +kernel
theorem dX3_insert_68 : decode cX3_insert 68 = .ok (.ifCond .ne 20, 3) := by decide +kernel
theorem dX3_insert_71 : decode cX3_insert 71 = .ok (.aload_n 0, 1) := by decide +kernel
theorem dX3_insert_72 : decode cX3_insert 72 = .ok (.getfield 30, 3) := by decide +kernel
theorem dX3_insert_75 : decode cX3_insert 75 = .ok (.getfield 67, 3) := by decide +kernel
theorem dX3_insert_78 : decode cX3_insert 78 = .ok (.aload_n 0, 1) := by decide +kernel
theorem dX3_insert_79 : decode cX3_insert 79 = .ok (.getfield 13, 3) := by decide +kernel
theorem dX3_insert_82 : decode cX3_insert 82 = .ok (.iadd, 1) := by decide +kernel
theorem dX3_insert_83 : decode cX3_insert 83 = .ok (.bipush 90, 2) := by decide +kernel
theorem dX3_insert_85 : decode cX3_insert 85 = .ok (.if_icmp .le 7, 3) := by decide +kernel
theorem dX3_insert_88 : decode cX3_insert 88 = .ok (.sipush (-1004), 3) := by decide +kernel
theorem dX3_insert_91 : decode cX3_insert 91 = .ok (.ireturn, 1) := by decide +kernel
theorem dX3_insert_92 : decode cX3_insert 92 = .ok (.aload_n 0, 1) := by decide +kernel
theorem dX3_insert_93 : decode cX3_insert 93 = .ok (.iload_n 1, 1) := by decide +kernel
theorem dX3_insert_94 : decode cX3_insert 94 = .ok (.aload_n 0, 1) := by decide +kernel
theorem dX3_insert_95 : decode cX3_insert 95 = .ok (.iload_n 2, 1) := by decide +kernel
theorem dX3_insert_96 : decode cX3_insert 96 = .ok (.iload_n 3, 1) := by decide +kernel
theorem dX3_insert_97 : decode cX3_insert 97 = .ok (.invokevirtual 104, 3) := by decide +kernel
theorem dX3_insert_100 : decode cX3_insert 100 = .ok (.invokevirtual 108, 3) := by decide +kernel
theorem dX3_insert_103 : decode cX3_insert 103 = .ok (.ireturn, 1) := by decide +kernel
theorem dX3_insertPage_0 : decode cX3_insertPage 0 = .ok (.aload_n 0, 1) := by decide +kernel
theorem dX3_insertPage_1 : decode cX3_insertPage 1 = .ok (.getfield 37, 3) := by decide +kernel
theorem dX3_insertPage_4 : decode cX3_insertPage 4 = .ok (.iconst 0, 1) := by decide +kernel
theorem dX3_insertPage_5 : decode cX3_insertPage 5 = .ok (.iload_n 1, 1) := by decide +kernel
theorem dX3_insertPage_6 : decode cX3_insertPage 6 = .ok (.invokevirtual 111, 3) := by decide +kernel
theorem dX3_insertPage_9 : decode cX3_insertPage 9 = .ok (.istore_n 3, 1) := by decide +kernel
theorem dX3_insertPage_10 : decode cX3_insertPage 10 = .ok (.iconst 0, 1) := by decide +kernel
theorem dX3_insertPage_11 : decode cX3_insertPage 11 = .ok (.istore 4, 2) := by decide +kernel
theorem dX3_insertPage_13 : decode cX3_insertPage 13 = .ok (.iload 4, 2) := by decide +kernel
theorem dX3_insertPage_15 : decode cX3_insertPage 15 = .ok (.aload_n 0, 1) := by decide +kernel
theorem dX3_insertPage_16 : decode cX3_insertPage 16 = .ok (.getfield 13, 3) := by decide +kernel
theorem dX3_insertPage_19 : decode cX3_insertPage 19 = .ok (.if_icmp .ge 37, 3) := by decide +kernel
theorem dX3_insertPage_22 : decode cX3_insertPage 22 = .ok (.aload_n 0, 1) := by decide +kernel
theorem dX3_insertPage_23 : decode cX3_insertPage 23 = .ok (.getfield 37, 3) := by decide +kernel
theorem dX3_insertPage_26 : decode cX3_insertPage 26 = .ok (.iload_n 3, 1) := by decide +kernel
theorem dX3_insertPage_27 : decode cX3_insertPage 27 = .ok (.aload_n 0, 1) := by decide +kernel
theorem dX3_insertPage_28 : decode cX3_insertPage 28 = .ok (.getfield 20, 3) := by decide +kernel
theorem dX3_insertPage_31 : decode cX3_insertPage 31 = .ok (.invokevirtual 114, 3) := by decide +kernel
theorem dX3_insertPage_34 : decode cX3_insertPage 34 = .ok (.aload_n 0, 1) := by decide +kernel
theorem dX3_insertPage_35 : decode cX3_insertPage 35 = .ok (.aload_n 0, 1) := by decide +kernel
theorem dX3_insertPage_36 : decode cX3_insertPage 36 = .ok (.getfield 9, 3) := by decide +kernel
theorem dX3_insertPage_39 : decode cX3_insertPage 39 = .ok (.iload 4, 2) := by decide +kernel
theorem dX3_insertPage_41 : decode cX3_insertPage 41 = .ok (.iaload, 1) := by decide +kernel
theorem dX3_insertPage_42 : decode cX3_insertPage 42 = .ok (.iload_n 2, 1) := by decide +kernel
theorem dX3_insertPage_43 : decode cX3_insertPage 43 = .ok (.iload 4, 2) := by decide +kernel
theorem dX3_insertPage_45 : decode cX3_insertPage 45 = .ok (.iadd, 1) := by decide +kernel
theorem dX3_insertPage_46 : decode cX3_insertPage 46 = .ok (.iload_n 3, 1) := by decide +kernel
theorem dX3_insertPage_47 : decode cX3_insertPage 47 = .ok (.invokevirtual 71, 3) := by decide +kernel
theorem dX3_insertPage_50 : decode cX3_insertPage 50 = .ok (.iinc 4 1, 3) := by decide +kernel
theorem dX3_insertPage_53 : decode cX3_insertPage 53 = .ok (.goto (-40), 3) := by decide +kernel
theorem dX3_insertPage_56 : decode cX3_insertPage 56 = .ok (.aload_n 0, 1) := by decide +kernel
theorem dX3_insertPage_57 : decode cX3_insertPage 57 = .ok (.iconst 0, 1) := by decide +kernel
theorem dX3_insertPage_58 : decode cX3_insertPage 58 = .ok (.putfield 13, 3) := by decide +kernel
theorem dX3_insertPage_61 : decode cX3_insertPage 61 = .ok (.iload_n 3, 1) := by decide +kernel
theorem dX3_insertPage_62 : decode cX3_insertPage 62 = .ok (.ireturn, 1) := by decide +kernel
theorem dX3_remove_0 : decode cX3_remove 0 = .ok (.iload_n 1, 1) := by decide +kernel
theorem dX3_remove_1 : decode cX3_remove 1 = .ok (.invokestatic 89, 3) := by decide +kernel
theorem dX3_remove_4 : decode cX3_remove 4 = .ok (.ifCond .ne 7, 3) := by decide +kernel
theorem dX3_remove_7 : decode cX3_remove 7 = .ok (.sipush (-1001), 3) := by decide +kernel
theorem dX3_remove_10 : decode cX3_remove 10 = .ok (.ireturn, 1) := by decide +kernel
theorem dX3_remove_11 : decode cX3_remove 11 = .ok (.aload_n 0, 1) := by decide +kernel
theorem dX3_remove_12 : decode cX3_remove 12 = .ok (.aload_n 0, 1) := by decide +kernel
theorem dX3_remove_13 : decode cX3_remove 13 = .ok (.iconst 2, 1) := by decide +kernel
theorem dX3_remove_14 : decode cX3_remove 14 = .ok (.iload_n 1, 1) := by decide +kernel
theorem dX3_remove_15 : decode cX3_remove 15 = .ok (.iadd, 1) := by decide +kernel
theorem dX3_remove_16 : decode cX3_remove 16 = .ok (.invokevirtual 93, 3) := by decide +kernel
theorem dX3_remove_19 : decode cX3_remove 19 = .ok (.invokevirtual 97, 3) := by decide +kernel
theorem dX3_remove_22 : decode cX3_remove 22 = .ok (.istore 4, 2) := by decide +kernel
theorem dX3_remove_24 : decode cX3_remove 24 = .ok (.iload_n 2, 1) := by decide +kernel
theorem dX3_remove_25 : decode cX3_remove 25 = .ok (.iload_n 3, 1) := by decide +kernel
theorem dX3_remove_26 : decode cX3_remove 26 = .ok (.iload 4, 2) := by decide +kernel
theorem dX3_remove_28 : decode cX3_remove 28 = .ok (.invokestatic 117, 3) := by decide +kernel
theorem dX3_remove_31 : decode cX3_remove 31 = .ok (.istore 5, 2) := by decide +kernel
theorem dX3_remove_33 : decode cX3_remove 33 = .ok (.iload 5, 2) := by decide +kernel
theorem dX3_remove_35 : decode cX3_remove 35 = .ok (.ifCond .eq 6, 3) := by decide +kernel
theorem dX3_remove_38 : decode cX3_remove 38 = .ok (.iload 5, 2) := by decide +kernel
theorem dX3_remove_40 : decode cX3_remove 40 = .ok (.ireturn, 1) := by decide +kernel
theorem dX3_remove_41 : decode cX3_remove 41 = .ok (.aload_n 0, 1) := by decide +kernel
theorem dX3_remove_42 : decode cX3_remove 42 = .ok (.getfield 37, 3) := by decide +kernel
theorem dX3_remove_45 : decode cX3_remove 45 = .ok (.invokevirtual 100, 3) := by decide +kernel
theorem dX3_remove_48 : decode cX3_remove 48 = .ok (.ifCond .eq 7, 3) := by decide +kernel
theorem dX3_remove_51 : decode cX3_remove 51 = .ok (.sipush (-1004), 3) := by decide +kernel
theorem dX3_remove_54 : decode cX3_remove 54 = .ok (.ireturn, 1) := by decide +kernel
theorem dX3_remove_55 : decode cX3_remove 55 = .ok (.aload_n 0, 1) := by decide +kernel
theorem dX3_remove_56 : decode cX3_remove 56 = .ok (.getfield 37, 3) := by decide +kernel
theorem dX3_remove_59 : decode cX3_remove 59 = .ok (.iconst 1, 1) := by decide +kernel
theorem dX3_remove_60 : decode cX3_remove 60 = .ok (.iload_n 1, 1) := by decide +kernel
theorem dX3_remove_61 : decode cX3_remove 61 = .ok (.invokevirtual 111, 3) := by decide +kernel
theorem dX3_remove_64 : decode cX3_remove 64 = .ok (.istore 6, 2) := by decide +kernel
theorem dX3_remove_66 : decode cX3_remove 66 = .ok (.iload_n 2, 1) := by decide +kernel
theorem dX3_remove_67 : decode cX3_remove 67 = .ok (.istore 7, 2) := by decide +kernel
theorem dX3_remove_69 : decode cX3_remove 69 = .ok (.iload 7, 2) := by decide +kernel
theorem dX3_remove_71 : decode cX3_remove 71 = .ok (.iload_n 2, 1) := by decide +kernel
theorem dX3_remove_72 : decode cX3_remove 72 = .ok (.iload_n 3, 1) := by decide +kernel
theorem dX3_remove_73 : decode cX3_remove 73 = .ok (.iadd, 1) := by decide +kernel
theorem dX3_remove_74 : decode cX3_remove 74 = .ok (.if_icmp .ge 33, 3) := by decide +kernel
theorem dX3_remove_77 : decode cX3_remove 77 = .ok (.aload_n 0, 1) := by decide +kernel
theorem dX3_remove_78 : decode cX3_remove 78 = .ok (.getfield 37, 3) := by decide +kernel
theorem dX3_remove_81 : decode cX3_remove 81 = .ok (.iload 6, 2) := by decide +kernel
theorem dX3_remove_83 : decode cX3_remove 83 = .ok (.aload_n 0, 1) := by decide +kernel
theorem dX3_remove_84 : decode cX3_remove 84 = .ok (.getfield 30, 3) := by decide +kernel
theorem dX3_remove_87 : decode cX3_remove 87 = .ok (.getfield 121, 3) := by decide +kernel
theorem dX3_remove_90 : decode cX3_remove 90 = .ok (.aload_n 0, 1) := by decide +kernel
theorem dX3_remove_91 : decode cX3_remove 91 = .ok (.getfield 48, 3) := by decide +kernel
theorem dX3_remove_94 : decode cX3_remove 94 = .ok (.iload 7, 2) := by decide +kernel
theorem dX3_remove_96 : decode cX3_remove 96 = .ok (.iaload, 1) := by decide +kernel
theorem dX3_remove_97 : decode cX3_remove 97 = .ok (.iaload, 1) := by decide +kernel
theorem dX3_remove_98 : decode cX3_remove 98 = .ok (.invokevirtual 114, 3) := by decide +kernel
theorem dX3_remove_101 : decode cX3_remove 101 = .ok (.iinc 7 1, 3) := by decide +kernel
theorem dX3_remove_104 : decode cX3_remove 104 = .ok (.goto (-35), 3) := by decide +kernel
theorem dX3_remove_107 : decode cX3_remove 107 = .ok (.iload 6, 2) := by decide +kernel
theorem dX3_remove_109 : decode cX3_remove 109 = .ok (.ireturn, 1) := by decide +kernel
theorem dX3_move_0 : decode cX3_move 0 = .ok (.iload_n 1, 1) := by decide +kernel
theorem dX3_move_1 : decode cX3_move 1 = .ok (.invokestatic 89, 3) := by decide +kernel
theorem dX3_move_4 : decode cX3_move 4 = .ok (.ifCond .ne 7, 3) := by decide +kernel
theorem dX3_move_7 : decode cX3_move 7 = .ok (.sipush (-1001), 3) := by decide +kernel
theorem dX3_move_10 : decode cX3_move 10 = .ok (.ireturn, 1) := by decide +kernel
theorem dX3_move_11 : decode cX3_move 11 = .ok (.aload_n 0, 1) := by decide +kernel
theorem dX3_move_12 : decode cX3_move 12 = .ok (.aload_n 0, 1) := by decide +kernel
theorem dX3_move_13 : decode cX3_move 13 = .ok (.iconst 2, 1) := by decide +kernel
theorem dX3_move_14 : decode cX3_move 14 = .ok (.iload_n 1, 1) := by decide +kernel
theorem dX3_move_15 : decode cX3_move 15 = .ok (.iadd, 1) := by decide +kernel
theorem dX3_move_16 : decode cX3_move 16 = .ok (.invokevirtual 93, 3) := by decide +kernel
theorem dX3_move_19 : decode cX3_move 19 = .ok (.invokevirtual 97, 3) := by decide +kernel
theorem dX3_move_22 : decode cX3_move 22 = .ok (.istore 5, 2) := by decide +kernel
theorem dX3_move_24 : decode cX3_move 24 = .ok (.iload_n 2, 1) := by decide +kernel
theorem dX3_move_25 : decode cX3_move 25 = .ok (.iload_n 3, 1) := by decide +kernel
theorem dX3_move_26 : decode cX3_move 26 = .ok (.iload 5, 2) := by decide +kernel
theorem dX3_move_28 : decode cX3_move 28 = .ok (.invokestatic 117, 3) := by decide +kernel
theorem dX3_move_31 : decode cX3_move 31 = .ok (.istore 6, 2) := by decide +kernel
theorem dX3_move_33 : decode cX3_move 33 = .ok (.iload 6, 2) := by decide +kernel
theorem dX3_move_35 : decode cX3_move 35 = .ok (.ifCond .eq 6, 3) := by decide +kernel
theorem dX3_move_38 : decode cX3_move 38 = .ok (.iload 6, 2) := by decide +kernel
theorem dX3_move_40 : decode cX3_move 40 = .ok (.ireturn, 1) := by decide +kernel
theorem dX3_move_41 : decode cX3_move 41 = .ok (.iload 4, 2) := by decide +kernel
theorem dX3_move_43 : decode cX3_move 43 = .ok (.ifCond .lt 10, 3) := by decide +kernel
theorem dX3_move_46 : decode cX3_move 46 = .ok (.iload 4, 2) := by decide +kernel
theorem dX3_move_48 : decode cX3_move 48 = .ok (.iload 5, 2) := by decide +kernel
theorem dX3_move_50 : decode cX3_move 50 = .ok (.if_icmp .le 7, 3) := by decide +kernel
theorem dX3_move_53 : decode cX3_move 53 = .ok (.sipush (-1001), 3) := by decide +kernel
theorem dX3_move_56 : decode cX3_move 56 = .ok (.ireturn, 1) := by decide +kernel
theorem dX3_move_57 : decode cX3_move 57 = .ok (.iload 4, 2) := by decide +kernel
theorem dX3_move_59 : decode cX3_move 59 = .ok (.iload_n 2, 1) := by decide +kernel
theorem dX3_move_60 : decode cX3_move 60 = .ok (.if_icmp .le 15, 3) := by decide +kernel
theorem dX3_move_63 : decode cX3_move 63 = .ok (.iload 4, 2) := by decide +kernel
theorem dX3_move_65 : decode cX3_move 65 = .ok (.iload_n 2, 1) := by decide +kernel
theorem dX3_move_66 : decode cX3_move 66 = .ok (.iload_n 3, 1) := by decide +kernel
theorem dX3_move_67 : decode cX3_move 67 = .ok (.iadd, 1) := by decide +kernel
theorem dX3_move_68 : decode cX3_move 68 = .ok (.if_icmp .ge 7, 3) := by decide +kernel
theorem dX3_move_71 : decode cX3_move 71 = .ok (.sipush (-1003), 3) := by decide +kernel
theorem dX3_move_74 : decode cX3_move 74 = .ok (.ireturn, 1) := by decide +kernel
theorem dX3_move_75 : decode cX3_move 75 = .ok (.aload_n 0, 1) := by decide +kernel
theorem dX3_move_76 : decode cX3_move 76 = .ok (.getfield 37, 3) := by decide +kernel
theorem dX3_move_79 : decode cX3_move 79 = .ok (.invokevirtual 100, 3) := by decide +kernel
theorem dX3_move_82 : decode cX3_move 82 = .ok (.ifCond .ne 17, 3) := by decide +kernel
theorem dX3_move_85 : decode cX3_move 85 = .ok (.aload_n 0, 1) := by decide +kernel
theorem dX3_move_86 : decode cX3_move 86 = .ok (.getfield 30, 3) := by decide +kernel
theorem dX3_move_89 : decode cX3_move 89 = .ok (.getfield 67, 3) := by decide +kernel
theorem dX3_move_92 : decode cX3_move 92 = .ok (.iload_n 3, 1) := by decide +kernel
theorem dX3_move_93 : decode cX3_move 93 = .ok (.iadd, 1) := by decide +kernel
theorem dX3_move_94 : decode cX3_move 94 = .ok (.bipush 90, 2) := by decide +kernel
theorem dX3_move_96 : decode cX3_move 96 = .ok (.if_icmp .le 7, 3) := by decide +kernel
theorem dX3_move_99 : decode cX3_move 99 = .ok (.sipush (-1004), 3) := by decide +kernel
theorem dX3_move_102 : decode cX3_move 102 = .ok (.ireturn, 1) := by decide +kernel
theorem dX3_move_103 : decode cX3_move 103 = .ok (.aload_n 0, 1) := by decide +kernel
theorem dX3_move_104 : decode cX3_move 104 = .ok (.iload_n 1, 1) := by decide +kernel
theorem dX3_move_105 : decode cX3_move 105 = .ok (.iload_n 2, 1) := by decide +kernel
theorem dX3_move_106 : decode cX3_move 106 = .ok (.iload_n 3, 1) := by decide +kernel
theorem dX3_move_107 : decode cX3_move 107 = .ok (.aload_n 0, 1) := by decide +kernel
theorem dX3_move_108 : decode cX3_move 108 = .ok (.iload 4, 2) := by decide +kernel
theorem dX3_move_110 : decode cX3_move 110 = .ok (.iload 5, 2) := by decide +kernel
theorem dX3_move_112 : decode cX3_move 112 = .ok (.invokevirtual 104, 3) := by decide +kernel
theorem dX3_move_115 : decode cX3_move 115 = .ok (.invokevirtual 124, 3) := by decide +kernel
theorem dX3_move_118 : decode cX3_move 118 = .ok (.ireturn, 1) := by decide +kernel
theorem dX3_moveLetters_0 : decode cX3_moveLetters 0 = .ok (.aload_n 0, 1) := by decide +kernel
theorem dX3_moveLetters_1 : decode cX3_moveLetters 1 = .ok (.getfield 37, 3) := by decide +kernel
theorem dX3_moveLetters_4 : decode cX3_moveLetters 4 = .ok (.iconst 2, 1) := by decide +kernel
theorem dX3_moveLetters_5 : decode cX3_moveLetters 5 = .ok (.iload_n 1, 1) := by decide +kernel
theorem dX3_moveLetters_6 : decode cX3_moveLetters 6 = .ok (.invokevirtual 111, 3) := by decide +kernel
theorem dX3_moveLetters_9 : decode cX3_moveLetters 9 = .ok (.istore 5, 2) := by decide +kernel
theorem dX3_moveLetters_11 : decode cX3_moveLetters 11 = .ok (.aload_n 0, 1) := by decide +kernel
theorem dX3_moveLetters_12 : decode cX3_moveLetters 12 = .ok (.getfield 30, 3) := by decide +kernel
theorem dX3_moveLetters_15 : decode cX3_moveLetters 15 = .ok (.iload 4, 2) := by decide +kernel
theorem dX3_moveLetters_17 : decode cX3_moveLetters 17 = .ok (.iload_n 3, 1) := by decide +kernel
theorem dX3_moveLetters_18 : decode cX3_moveLetters 18 = .ok (.invokevirtual 81, 3) := by decide +kernel
theorem dX3_moveLetters_21 : decode cX3_moveLetters 21 = .ok (.iconst 0, 1) := by decide +kernel
theorem dX3_moveLetters_22 : decode cX3_moveLetters 22 = .ok (.istore 6, 2) := by decide +kernel
theorem dX3_moveLetters_24 : decode cX3_moveLetters 24 = .ok (.iload 6, 2) := by decide +kernel
theorem dX3_moveLetters_26 : decode cX3_moveLetters 26 = .ok (.iload_n 3, 1) := by decide +kernel
theorem dX3_moveLetters_27 : decode cX3_moveLetters 27 = .ok (.if_icmp .ge 78, 3) := by decide +kernel
theorem dX3_moveLetters_30 : decode cX3_moveLetters 30 = .ok (.aload_n 0, 1) := by decide +kernel
theorem dX3_moveLetters_31 : decode cX3_moveLetters 31 = .ok (.getfield 48, 3) := by decide +kernel
theorem dX3_moveLetters_34 : decode cX3_moveLetters 34 = .ok (.iload_n 2, 1) := by decide +kernel
theorem dX3_moveLetters_35 : decode cX3_moveLetters 35 = .ok (.iload 6, 2) := by decide +kernel
theorem dX3_moveLetters_37 : decode cX3_moveLetters 37 = .ok (.iadd, 1) := by decide +kernel
theorem dX3_moveLetters_38 : decode cX3_moveLetters 38 = .ok (.iaload, 1) := by decide +kernel
theorem dX3_moveLetters_39 : decode cX3_moveLetters 39 = .ok (.istore 7, 2) := by decide +kernel
theorem dX3_moveLetters_41 : decode cX3_moveLetters 41 = .ok (.iload 7, 2) := by decide +kernel
theorem dX3_moveLetters_43 : decode cX3_moveLetters 43 = .ok (.iload 4, 2) := by decide +kernel
theorem dX3_moveLetters_45 : decode cX3_moveLetters 45 = .ok (.if_icmp .lt 9, 3) := by decide +kernel
theorem dX3_moveLetters_48 : decode cX3_moveLetters 48 = .ok (.iload 7, 2) := by decide +kernel
theorem dX3_moveLetters_50 : decode cX3_moveLetters 50 = .ok (.iload_n 3, 1) := by decide +kernel
theorem dX3_moveLetters_51 : decode cX3_moveLetters 51 = .ok (.iadd, 1) := by decide +kernel
theorem dX3_moveLetters_52 : decode cX3_moveLetters 52 = .ok (.istore 7, 2) := by decide +kernel
theorem dX3_moveLetters_54 : decode cX3_moveLetters 54 = .ok (.aload_n 0, 1) := by decide +kernel
theorem dX3_moveLetters_55 : decode cX3_moveLetters 55 = .ok (.getfield 37, 3) := by decide +kernel
theorem dX3_moveLetters_58 : decode cX3_moveLetters 58 = .ok (.iload 5, 2) := by decide +kernel
theorem dX3_moveLetters_60 : decode cX3_moveLetters 60 = .ok (.aload_n 0, 1) := by decide +kernel
theorem dX3_moveLetters_61 : decode cX3_moveLetters 61 = .ok (.getfield 30, 3) := by decide +kernel
theorem dX3_moveLetters_64 : decode cX3_moveLetters 64 = .ok (.getfield 121, 3) := by decide +kernel
theorem dX3_moveLetters_67 : decode cX3_moveLetters 67 = .ok (.iload 7, 2) := by decide +kernel
theorem dX3_moveLetters_69 : decode cX3_moveLetters 69 = .ok (.iaload, 1) := by decide +kernel
theorem dX3_moveLetters_70 : decode cX3_moveLetters 70 = .ok (.invokevirtual 114, 3) := by decide +kernel
theorem dX3_moveLetters_73 : decode cX3_moveLetters 73 = .ok (.aload_n 0, 1) := by decide +kernel
theorem dX3_moveLetters_74 : decode cX3_moveLetters 74 = .ok (.getfield 30, 3) := by decide +kernel
theorem dX3_moveLetters_77 : decode cX3_moveLetters 77 = .ok (.iload 4, 2) := by decide +kernel
theorem dX3_moveLetters_79 : decode cX3_moveLetters 79 = .ok (.iload 6, 2) := by decide +kernel
theorem dX3_moveLetters_81 : decode cX3_moveLetters 81 = .ok (.iadd, 1) := by decide +kernel
theorem dX3_moveLetters_82 : decode cX3_moveLetters 82 = .ok (.aload_n 0, 1) := by decide +kernel
theorem dX3_moveLetters_83 : decode cX3_moveLetters 83 = .ok (.getfield 30, 3) := by decide +kernel
theorem dX3_moveLetters_86 : decode cX3_moveLetters 86 = .ok (.getfield 121, 3) := by decide +kernel
theorem dX3_moveLetters_89 : decode cX3_moveLetters 89 = .ok (.iload 7, 2) := by decide +kernel
theorem dX3_moveLetters_91 : decode cX3_moveLetters 91 = .ok (.iaload, 1) := by decide +kernel
theorem dX3_moveLetters_92 : decode cX3_moveLetters 92 = .ok (.iload 7, 2) := by decide +kernel
theorem dX3_moveLetters_94 : decode cX3_moveLetters 94 = .ok (.iload 5, 2) := by decide +kernel
theorem dX3_moveLetters_96 : decode cX3_moveLetters 96 = .ok (.invokevirtual 85, 3) := by decide +kernel
theorem dX3_moveLetters_99 : decode cX3_moveLetters 99 = .ok (.iinc 6 1, 3) := by decide +kernel
theorem dX3_moveLetters_102 : decode cX3_moveLetters 102 = .ok (.goto (-78), 3) := by decide +kernel
theorem dX3_moveLetters_105 : decode cX3_moveLetters 105 = .ok (.iload 5, 2) := by decide +kernel
theorem dX3_moveLetters_107 : decode cX3_moveLetters 107 = .ok (.ireturn, 1) := by decide +kernel
theorem dX3_isAuthor_0 : decode cX3_isAuthor 0 = .ok (.iload_n 0, 1) := by decide +kernel
theorem dX3_isAuthor_1 : decode cX3_isAuthor 1 = .ok (.ifCond .lt 12, 3) := by decide +kernel
theorem dX3_isAuthor_4 : decode cX3_isAuthor 4 = .ok (.iload_n 0, 1) := by decide +kernel
theorem dX3_isAuthor_5 : decode cX3_isAuthor 5 = .ok (.iconst 4, 1) := by decide +kernel
theorem dX3_isAuthor_6 : decode cX3_isAuthor 6 = .ok (.if_icmp .ge 7, 3) := by decide +kernel
theorem dX3_isAuthor_9 : decode cX3_isAuthor 9 = .ok (.iconst 1, 1) := by decide +kernel
theorem dX3_isAuthor_10 : decode cX3_isAuthor 10 = .ok (.goto 4, 3) := by decide +kernel
theorem dX3_isAuthor_13 : decode cX3_isAuthor 13 = .ok (.iconst 0, 1) := by decide +kernel
theorem dX3_isAuthor_14 : decode cX3_isAuthor 14 = .ok (.ireturn, 1) := by decide +kernel
theorem dX3_refusalOfRange_0 : decode cX3_refusalOfRange 0 = .ok (.iload_n 0, 1) := by decide +kernel
theorem dX3_refusalOfRange_1 : decode cX3_refusalOfRange 1 = .ok (.ifCond .lt 8, 3) := by decide +kernel
theorem dX3_refusalOfRange_4 : decode cX3_refusalOfRange 4 = .ok (.iload_n 0, 1) := by decide +kernel
theorem dX3_refusalOfRange_5 : decode cX3_refusalOfRange 5 = .ok (.iload_n 2, 1) := by decide +kernel
theorem dX3_refusalOfRange_6 : decode cX3_refusalOfRange 6 = .ok (.if_icmp .lt 7, 3) := by decide +kernel
theorem dX3_refusalOfRange_9 : decode cX3_refusalOfRange 9 = .ok (.sipush (-1001), 3) := by decide +kernel
theorem dX3_refusalOfRange_12 : decode cX3_refusalOfRange 12 = .ok (.ireturn, 1) := by decide +kernel
theorem dX3_refusalOfRange_13 : decode cX3_refusalOfRange 13 = .ok (.iload_n 1, 1) := by decide +kernel
theorem dX3_refusalOfRange_14 : decode cX3_refusalOfRange 14 = .ok (.iconst 1, 1) := by decide +kernel
theorem dX3_refusalOfRange_15 : decode cX3_refusalOfRange 15 = .ok (.if_icmp .lt 10, 3) := by decide +kernel
theorem dX3_refusalOfRange_18 : decode cX3_refusalOfRange 18 = .ok (.iload_n 1, 1) := by decide +kernel
theorem dX3_refusalOfRange_19 : decode cX3_refusalOfRange 19 = .ok (.iload_n 2, 1) := by decide +kernel
theorem dX3_refusalOfRange_20 : decode cX3_refusalOfRange 20 = .ok (.iload_n 0, 1) := by decide +kernel
theorem dX3_refusalOfRange_21 : decode cX3_refusalOfRange 21 = .ok (.isub, 1) := by decide +kernel
theorem dX3_refusalOfRange_22 : decode cX3_refusalOfRange 22 = .ok (.if_icmp .le 7, 3) := by decide +kernel
theorem dX3_refusalOfRange_25 : decode cX3_refusalOfRange 25 = .ok (.sipush (-1002), 3) := by decide +kernel
theorem dX3_refusalOfRange_28 : decode cX3_refusalOfRange 28 = .ok (.ireturn, 1) := by decide +kernel
theorem dX3_refusalOfRange_29 : decode cX3_refusalOfRange 29 = .ok (.iconst 0, 1) := by decide +kernel
theorem dX3_refusalOfRange_30 : decode cX3_refusalOfRange 30 = .ok (.ireturn, 1) := by decide +kernel
theorem dX3_placeAhead_0 : decode cX3_placeAhead 0 = .ok (.iload_n 1, 1) := by decide +kernel
theorem dX3_placeAhead_1 : decode cX3_placeAhead 1 = .ok (.iload_n 2, 1) := by decide +kernel
theorem dX3_placeAhead_2 : decode cX3_placeAhead 2 = .ok (.if_icmp .ge 12, 3) := by decide +kernel
theorem dX3_placeAhead_5 : decode cX3_placeAhead 5 = .ok (.aload_n 0, 1) := by decide +kernel
theorem dX3_placeAhead_6 : decode cX3_placeAhead 6 = .ok (.getfield 48, 3) := by decide +kernel
theorem dX3_placeAhead_9 : decode cX3_placeAhead 9 = .ok (.iload_n 1, 1) := by decide +kernel
theorem dX3_placeAhead_10 : decode cX3_placeAhead 10 = .ok (.iaload, 1) := by decide +kernel
theorem dX3_placeAhead_11 : decode cX3_placeAhead 11 = .ok (.goto 10, 3) := by decide +kernel
theorem dX3_placeAhead_14 : decode cX3_placeAhead 14 = .ok (.aload_n 0, 1) := by decide +kernel
theorem dX3_placeAhead_15 : decode cX3_placeAhead 15 = .ok (.getfield 30, 3) := by decide +kernel
theorem dX3_placeAhead_18 : decode cX3_placeAhead 18 = .ok (.getfield 67, 3) := by decide +kernel
theorem dX3_placeAhead_21 : decode cX3_placeAhead 21 = .ok (.ireturn, 1) := by decide +kernel
theorem dX3_show_0 : decode cX3_show 0 = .ok (.aload_n 0, 1) := by decide +kernel
theorem dX3_show_1 : decode cX3_show 1 = .ok (.getfield 37, 3) := by decide +kernel
theorem dX3_show_4 : decode cX3_show 4 = .ok (.iload_n 1, 1) := by decide +kernel
theorem dX3_show_5 : decode cX3_show 5 = .ok (.invokevirtual 128, 3) := by decide +kernel
theorem dX3_show_8 : decode cX3_show 8 = .ok (.ifCond .ne 7, 3) := by decide +kernel
theorem dX3_show_11 : decode cX3_show 11 = .ok (.sipush (-1001), 3) := by decide +kernel
theorem dX3_show_14 : decode cX3_show 14 = .ok (.ireturn, 1) := by decide +kernel
theorem dX3_show_15 : decode cX3_show 15 = .ok (.aload_n 0, 1) := by decide +kernel
theorem dX3_show_16 : decode cX3_show 16 = .ok (.getfield 37, 3) := by decide +kernel
theorem dX3_show_19 : decode cX3_show 19 = .ok (.getfield 131, 3) := by decide +kernel
theorem dX3_show_22 : decode cX3_show 22 = .ok (.iload_n 1, 1) := by decide +kernel
theorem dX3_show_23 : decode cX3_show 23 = .ok (.iaload, 1) := by decide +kernel
theorem dX3_show_24 : decode cX3_show 24 = .ok (.istore_n 3, 1) := by decide +kernel
theorem dX3_show_25 : decode cX3_show 25 = .ok (.aload_n 0, 1) := by decide +kernel
theorem dX3_show_26 : decode cX3_show 26 = .ok (.getfield 37, 3) := by decide +kernel
theorem dX3_show_29 : decode cX3_show 29 = .ok (.getfield 131, 3) := by decide +kernel
theorem dX3_show_32 : decode cX3_show 32 = .ok (.iload_n 1, 1) := by decide +kernel
theorem dX3_show_33 : decode cX3_show 33 = .ok (.iload_n 2, 1) := by decide +kernel
theorem dX3_show_34 : decode cX3_show 34 = .ok (.ifCond .eq 7, 3) := by decide +kernel
theorem dX3_show_37 : decode cX3_show 37 = .ok (.iconst 1, 1) := by decide +kernel
theorem dX3_show_38 : decode cX3_show 38 = .ok (.goto 4, 3) := by decide +kernel
theorem dX3_show_41 : decode cX3_show 41 = .ok (.iconst 0, 1) := by decide +kernel
theorem dX3_show_42 : decode cX3_show 42 = .ok (.iastore, 1) := by decide +kernel
theorem dX3_show_43 : decode cX3_show 43 = .ok (.iload_n 3, 1) := by decide +kernel
theorem dX3_show_44 : decode cX3_show 44 = .ok (.ireturn, 1) := by decide +kernel
theorem dX3_decide_0 : decode cX3_decide 0 = .ok (.aload_n 0, 1) := by decide +kernel
theorem dX3_decide_1 : decode cX3_decide 1 = .ok (.getfield 37, 3) := by decide +kernel
theorem dX3_decide_4 : decode cX3_decide 4 = .ok (.iload_n 1, 1) := by decide +kernel
theorem dX3_decide_5 : decode cX3_decide 5 = .ok (.invokevirtual 128, 3) := by decide +kernel
theorem dX3_decide_8 : decode cX3_decide 8 = .ok (.ifCond .ne 7, 3) := by decide +kernel
theorem dX3_decide_11 : decode cX3_decide 11 = .ok (.sipush (-1001), 3) := by decide +kernel
theorem dX3_decide_14 : decode cX3_decide 14 = .ok (.ireturn, 1) := by decide +kernel
theorem dX3_decide_15 : decode cX3_decide 15 = .ok (.iload_n 2, 1) := by decide +kernel
theorem dX3_decide_16 : decode cX3_decide 16 = .ok (.ifCond .lt 8, 3) := by decide +kernel
theorem dX3_decide_19 : decode cX3_decide 19 = .ok (.iload_n 2, 1) := by decide +kernel
theorem dX3_decide_20 : decode cX3_decide 20 = .ok (.iconst 2, 1) := by decide +kernel
theorem dX3_decide_21 : decode cX3_decide 21 = .ok (.if_icmp .le 7, 3) := by decide +kernel
theorem dX3_decide_24 : decode cX3_decide 24 = .ok (.sipush (-1002), 3) := by decide +kernel
theorem dX3_decide_27 : decode cX3_decide 27 = .ok (.ireturn, 1) := by decide +kernel
theorem dX3_decide_28 : decode cX3_decide 28 = .ok (.aload_n 0, 1) := by decide +kernel
theorem dX3_decide_29 : decode cX3_decide 29 = .ok (.getfield 37, 3) := by decide +kernel
theorem dX3_decide_32 : decode cX3_decide 32 = .ok (.getfield 134, 3) := by decide +kernel
theorem dX3_decide_35 : decode cX3_decide 35 = .ok (.iload_n 1, 1) := by decide +kernel
theorem dX3_decide_36 : decode cX3_decide 36 = .ok (.iaload, 1) := by decide +kernel
theorem dX3_decide_37 : decode cX3_decide 37 = .ok (.istore_n 3, 1) := by decide +kernel
theorem dX3_decide_38 : decode cX3_decide 38 = .ok (.aload_n 0, 1) := by decide +kernel
theorem dX3_decide_39 : decode cX3_decide 39 = .ok (.getfield 37, 3) := by decide +kernel
theorem dX3_decide_42 : decode cX3_decide 42 = .ok (.getfield 134, 3) := by decide +kernel
theorem dX3_decide_45 : decode cX3_decide 45 = .ok (.iload_n 1, 1) := by decide +kernel
theorem dX3_decide_46 : decode cX3_decide 46 = .ok (.iload_n 2, 1) := by decide +kernel
theorem dX3_decide_47 : decode cX3_decide 47 = .ok (.iastore, 1) := by decide +kernel
theorem dX3_decide_48 : decode cX3_decide 48 = .ok (.iload_n 3, 1) := by decide +kernel
theorem dX3_decide_49 : decode cX3_decide 49 = .ok (.ireturn, 1) := by decide +kernel
theorem dX3_settle_0 : decode cX3_settle 0 = .ok (.aload_n 0, 1) := by decide +kernel
theorem dX3_settle_1 : decode cX3_settle 1 = .ok (.getfield 37, 3) := by decide +kernel
theorem dX3_settle_4 : decode cX3_settle 4 = .ok (.iconst 0, 1) := by decide +kernel
theorem dX3_settle_5 : decode cX3_settle 5 = .ok (.invokevirtual 137, 3) := by decide +kernel
theorem dX3_settle_8 : decode cX3_settle 8 = .ok (.ifCond .eq 7, 3) := by decide +kernel
theorem dX3_settle_11 : decode cX3_settle 11 = .ok (.sipush (-1003), 3) := by decide +kernel
theorem dX3_settle_14 : decode cX3_settle 14 = .ok (.ireturn, 1) := by decide +kernel
theorem dX3_settle_15 : decode cX3_settle 15 = .ok (.aload_n 0, 1) := by decide +kernel
theorem dX3_settle_16 : decode cX3_settle 16 = .ok (.aload_n 0, 1) := by decide +kernel
theorem dX3_settle_17 : decode cX3_settle 17 = .ok (.iconst 0, 1) := by decide +kernel
theorem dX3_settle_18 : decode cX3_settle 18 = .ok (.invokevirtual 93, 3) := by decide +kernel
theorem dX3_settle_21 : decode cX3_settle 21 = .ok (.invokevirtual 97, 3) := by decide +kernel
theorem dX3_settle_24 : decode cX3_settle 24 = .ok (.istore_n 1, 1) := by decide +kernel
theorem dX3_settle_25 : decode cX3_settle 25 = .ok (.iconst 0, 1) := by decide +kernel
theorem dX3_settle_26 : decode cX3_settle 26 = .ok (.istore_n 2, 1) := by decide +kernel
theorem dX3_settle_27 : decode cX3_settle 27 = .ok (.iload_n 2, 1) := by decide +kernel
theorem dX3_settle_28 : decode cX3_settle 28 = .ok (.iload_n 1, 1) := by decide +kernel
theorem dX3_settle_29 : decode cX3_settle 29 = .ok (.if_icmp .ge 34, 3) := by decide +kernel
theorem dX3_settle_32 : decode cX3_settle 32 = .ok (.aload_n 0, 1) := by decide +kernel
theorem dX3_settle_33 : decode cX3_settle 33 = .ok (.getfield 48, 3) := by decide +kernel
theorem dX3_settle_36 : decode cX3_settle 36 = .ok (.iload_n 2, 1) := by decide +kernel
theorem dX3_settle_37 : decode cX3_settle 37 = .ok (.aload_n 0, 1) := by decide +kernel
theorem dX3_settle_38 : decode cX3_settle 38 = .ok (.getfield 17, 3) := by decide +kernel
theorem dX3_settle_41 : decode cX3_settle 41 = .ok (.aload_n 0, 1) := by decide +kernel
theorem dX3_settle_42 : decode cX3_settle 42 = .ok (.getfield 30, 3) := by decide +kernel
theorem dX3_settle_45 : decode cX3_settle 45 = .ok (.getfield 121, 3) := by decide +kernel
theorem dX3_settle_48 : decode cX3_settle 48 = .ok (.aload_n 0, 1) := by decide +kernel
theorem dX3_settle_49 : decode cX3_settle 49 = .ok (.getfield 48, 3) := by decide +kernel
theorem dX3_settle_52 : decode cX3_settle 52 = .ok (.iload_n 2, 1) := by decide +kernel
theorem dX3_settle_53 : decode cX3_settle 53 = .ok (.iaload, 1) := by decide +kernel
theorem dX3_settle_54 : decode cX3_settle 54 = .ok (.iaload, 1) := by decide +kernel
theorem dX3_settle_55 : decode cX3_settle 55 = .ok (.iaload, 1) := by decide +kernel
theorem dX3_settle_56 : decode cX3_settle 56 = .ok (.iastore, 1) := by decide +kernel
theorem dX3_settle_57 : decode cX3_settle 57 = .ok (.iinc 2 1, 3) := by decide +kernel
theorem dX3_settle_60 : decode cX3_settle 60 = .ok (.goto (-33), 3) := by decide +kernel
theorem dX3_settle_63 : decode cX3_settle 63 = .ok (.aload_n 0, 1) := by decide +kernel
theorem dX3_settle_64 : decode cX3_settle 64 = .ok (.aload_n 0, 1) := by decide +kernel
theorem dX3_settle_65 : decode cX3_settle 65 = .ok (.getfield 48, 3) := by decide +kernel
theorem dX3_settle_68 : decode cX3_settle 68 = .ok (.iload_n 1, 1) := by decide +kernel
theorem dX3_settle_69 : decode cX3_settle 69 = .ok (.invokevirtual 63, 3) := by decide +kernel
theorem dX3_settle_72 : decode cX3_settle 72 = .ok (.aload_n 0, 1) := by decide +kernel
theorem dX3_settle_73 : decode cX3_settle 73 = .ok (.dup, 1) := by decide +kernel
theorem dX3_settle_74 : decode cX3_settle 74 = .ok (.getfield 60, 3) := by decide +kernel
theorem dX3_settle_77 : decode cX3_settle 77 = .ok (.iconst 1, 1) := by decide +kernel
theorem dX3_settle_78 : decode cX3_settle 78 = .ok (.iadd, 1) := by decide +kernel
theorem dX3_settle_79 : decode cX3_settle 79 = .ok (.putfield 60, 3) := by decide +kernel
theorem dX3_settle_82 : decode cX3_settle 82 = .ok (.aload_n 0, 1) := by decide +kernel
theorem dX3_settle_83 : decode cX3_settle 83 = .ok (.getfield 20, 3) := by decide +kernel
theorem dX3_settle_86 : decode cX3_settle 86 = .ok (.ireturn, 1) := by decide +kernel
theorem dX3_setOf_0 : decode cX3_setOf 0 = .ok (.aload_n 0, 1) := by decide +kernel
theorem dX3_setOf_1 : decode cX3_setOf 1 = .ok (.getfield 37, 3) := by decide +kernel
theorem dX3_setOf_4 : decode cX3_setOf 4 = .ok (.iconst 1, 1) := by decide +kernel
theorem dX3_setOf_5 : decode cX3_setOf 5 = .ok (.invokevirtual 137, 3) := by decide +kernel
theorem dX3_setOf_8 : decode cX3_setOf 8 = .ok (.istore_n 2, 1) := by decide +kernel
theorem dX3_setOf_9 : decode cX3_setOf 9 = .ok (.aload_n 0, 1) := by decide +kernel
theorem dX3_setOf_10 : decode cX3_setOf 10 = .ok (.getfield 37, 3) := by decide +kernel
theorem dX3_setOf_13 : decode cX3_setOf 13 = .ok (.iconst 0, 1) := by decide +kernel
theorem dX3_setOf_14 : decode cX3_setOf 14 = .ok (.invokevirtual 137, 3) := by decide +kernel
theorem dX3_setOf_17 : decode cX3_setOf 17 = .ok (.istore_n 3, 1) := by decide +kernel
theorem dX3_setOf_18 : decode cX3_setOf 18 = .ok (.iload_n 1, 1) := by decide +kernel
theorem dX3_setOf_19 : decode cX3_setOf 19 = .ok (.ifCond .ne 5, 3) := by decide +kernel
theorem dX3_setOf_22 : decode cX3_setOf 22 = .ok (.iload_n 2, 1) := by decide +kernel
theorem dX3_setOf_23 : decode cX3_setOf 23 = .ok (.ireturn, 1) := by decide +kernel
theorem dX3_setOf_24 : decode cX3_setOf 24 = .ok (.iload_n 1, 1) := by decide +kernel
theorem dX3_setOf_25 : decode cX3_setOf 25 = .ok (.iconst 1, 1) := by decide +kernel
theorem dX3_setOf_26 : decode cX3_setOf 26 = .ok (.if_icmp .ne 7, 3) := by decide +kernel
theorem dX3_setOf_29 : decode cX3_setOf 29 = .ok (.iload_n 2, 1) := by decide +kernel
theorem dX3_setOf_30 : decode cX3_setOf 30 = .ok (.iload_n 3, 1) := by decide +kernel
theorem dX3_setOf_31 : decode cX3_setOf 31 = .ok (.ior, 1) := by decide +kernel
theorem dX3_setOf_32 : decode cX3_setOf 32 = .ok (.ireturn, 1) := by decide +kernel
theorem dX3_setOf_33 : decode cX3_setOf 33 = .ok (.iload_n 2, 1) := by decide +kernel
theorem dX3_setOf_34 : decode cX3_setOf 34 = .ok (.iload_n 3, 1) := by decide +kernel
theorem dX3_setOf_35 : decode cX3_setOf 35 = .ok (.aload_n 0, 1) := by decide +kernel
theorem dX3_setOf_36 : decode cX3_setOf 36 = .ok (.getfield 37, 3) := by decide +kernel
theorem dX3_setOf_39 : decode cX3_setOf 39 = .ok (.iload_n 1, 1) := by decide +kernel
theorem dX3_setOf_40 : decode cX3_setOf 40 = .ok (.iconst 2, 1) := by decide +kernel
theorem dX3_setOf_41 : decode cX3_setOf 41 = .ok (.isub, 1) := by decide +kernel
theorem dX3_setOf_42 : decode cX3_setOf 42 = .ok (.invokevirtual 140, 3) := by decide +kernel
theorem dX3_setOf_45 : decode cX3_setOf 45 = .ok (.iand, 1) := by decide +kernel
theorem dX3_setOf_46 : decode cX3_setOf 46 = .ok (.ior, 1) := by decide +kernel
theorem dX3_setOf_47 : decode cX3_setOf 47 = .ok (.ireturn, 1) := by decide +kernel
theorem dX3_thereBy_0 : decode cX3_thereBy 0 = .ok (.aload_n 0, 1) := by decide +kernel
theorem dX3_thereBy_1 : decode cX3_thereBy 1 = .ok (.getfield 23, 3) := by decide +kernel
theorem dX3_thereBy_4 : decode cX3_thereBy 4 = .ok (.lstore_n 2, 1) := by decide +kernel
theorem dX3_thereBy_5 : decode cX3_thereBy 5 = .ok (.lconst 0, 1) := by decide +kernel
theorem dX3_thereBy_6 : decode cX3_thereBy 6 = .ok (.lstore 4, 2) := by decide +kernel
theorem dX3_thereBy_8 : decode cX3_thereBy 8 = .ok (.iconst 0, 1) := by decide +kernel
theorem dX3_thereBy_9 : decode cX3_thereBy 9 = .ok (.istore 6, 2) := by decide +kernel
theorem dX3_thereBy_11 : decode cX3_thereBy 11 = .ok (.iload 6, 2) := by decide +kernel
theorem dX3_thereBy_13 : decode cX3_thereBy 13 = .ok (.aload_n 0, 1) := by decide +kernel
theorem dX3_thereBy_14 : decode cX3_thereBy 14 = .ok (.getfield 37, 3) := by decide +kernel
theorem dX3_thereBy_17 : decode cX3_thereBy 17 = .ok (.getfield 70, 3) := by decide +kernel
theorem dX3_thereBy_20 : decode cX3_thereBy 20 = .ok (.if_icmp .ge 76, 3) := by decide +kernel
theorem dX3_thereBy_23 : decode cX3_thereBy 23 = .ok (.iload_n 1, 1) := by decide +kernel
theorem dX3_thereBy_24 : decode cX3_thereBy 24 = .ok (.iload 6, 2) := by decide +kernel
theorem dX3_thereBy_26 : decode cX3_thereBy 26 = .ok (.ishr, 1) := by decide +kernel
theorem dX3_thereBy_27 : decode cX3_thereBy 27 = .ok (.iconst 1, 1) := by decide +kernel
theorem dX3_thereBy_28 : decode cX3_thereBy 28 = .ok (.iand, 1) := by decide +kernel
theorem dX3_thereBy_29 : decode cX3_thereBy 29 = .ok (.ifCond .eq 61, 3) := by decide +kernel
theorem dX3_thereBy_32 : decode cX3_thereBy 32 = .ok (.aload_n 0, 1) := by decide +kernel
theorem dX3_thereBy_33 : decode cX3_thereBy 33 = .ok (.getfield 37, 3) := by decide +kernel
theorem dX3_thereBy_36 : decode cX3_thereBy 36 = .ok (.getfield 143, 3) := by decide +kernel
theorem dX3_thereBy_39 : decode cX3_thereBy 39 = .ok (.iload 6, 2) := by decide +kernel
theorem dX3_thereBy_41 : decode cX3_thereBy 41 = .ok (.iaload, 1) := by decide +kernel
theorem dX3_thereBy_42 : decode cX3_thereBy 42 = .ok (.ifCond .ne 19, 3) := by decide +kernel
theorem dX3_thereBy_45 : decode cX3_thereBy 45 = .ok (.lload_n 2, 1) := by decide +kernel
theorem dX3_thereBy_46 : decode cX3_thereBy 46 = .ok (.aload_n 0, 1) := by decide +kernel
theorem dX3_thereBy_47 : decode cX3_thereBy 47 = .ok (.getfield 37, 3) := by decide +kernel
theorem dX3_thereBy_50 : decode cX3_thereBy 50 = .ok (.getfield 146, 3) := by decide +kernel
theorem dX3_thereBy_53 : decode cX3_thereBy 53 = .ok (.iload 6, 2) := by decide +kernel
theorem dX3_thereBy_55 : decode cX3_thereBy 55 = .ok (.laload, 1) := by decide +kernel
theorem dX3_thereBy_56 : decode cX3_thereBy 56 = .ok (.lor, 1) := by decide +kernel
theorem dX3_thereBy_57 : decode cX3_thereBy 57 = .ok (.lstore_n 2, 1) := by decide +kernel
theorem dX3_thereBy_58 : decode cX3_thereBy 58 = .ok (.goto 32, 3) := by decide +kernel
theorem dX3_thereBy_61 : decode cX3_thereBy 61 = .ok (.aload_n 0, 1) := by decide +kernel
theorem dX3_thereBy_62 : decode cX3_thereBy 62 = .ok (.getfield 37, 3) := by decide +kernel
theorem dX3_thereBy_65 : decode cX3_thereBy 65 = .ok (.getfield 143, 3) := by decide +kernel
theorem dX3_thereBy_68 : decode cX3_thereBy 68 = .ok (.iload 6, 2) := by decide +kernel
theorem dX3_thereBy_70 : decode cX3_thereBy 70 = .ok (.iaload, 1) := by decide +kernel
theorem dX3_thereBy_71 : decode cX3_thereBy 71 = .ok (.iconst 1, 1) := by decide +kernel
theorem dX3_thereBy_72 : decode cX3_thereBy 72 = .ok (.if_icmp .ne 18, 3) := by decide +kernel
theorem dX3_thereBy_75 : decode cX3_thereBy 75 = .ok (.lload 4, 2) := by decide +kernel
theorem dX3_thereBy_77 : decode cX3_thereBy 77 = .ok (.aload_n 0, 1) := by decide +kernel
theorem dX3_thereBy_78 : decode cX3_thereBy 78 = .ok (.getfield 37, 3) := by decide +kernel
theorem dX3_thereBy_81 : decode cX3_thereBy 81 = .ok (.getfield 146, 3) := by decide +kernel
theorem dX3_thereBy_84 : decode cX3_thereBy 84 = .ok (.iload 6, 2) := by decide +kernel
theorem dX3_thereBy_86 : decode cX3_thereBy 86 = .ok (.laload, 1) := by decide +kernel
theorem dX3_thereBy_87 : decode cX3_thereBy 87 = .ok (.lor, 1) := by decide +kernel
theorem dX3_thereBy_88 : decode cX3_thereBy 88 = .ok (.lstore 4, 2) := by decide +kernel
theorem dX3_thereBy_90 : decode cX3_thereBy 90 = .ok (.iinc 6 1, 3) := by decide +kernel
theorem dX3_thereBy_93 : decode cX3_thereBy 93 = .ok (.goto (-82), 3) := by decide +kernel
theorem dX3_thereBy_96 : decode cX3_thereBy 96 = .ok (.lload_n 2, 1) := by decide +kernel
theorem dX3_thereBy_97 : decode cX3_thereBy 97 = .ok (.lload 4, 2) := by decide +kernel
theorem dX3_thereBy_99 : decode cX3_thereBy 99 = .ok (.ldc2_w 79, 3) := by decide +kernel
theorem dX3_thereBy_102 : decode cX3_thereBy 102 = .ok (.lxor, 1) := by decide +kernel
theorem dX3_thereBy_103 : decode cX3_thereBy 103 = .ok (.land, 1) := by decide +kernel
theorem dX3_thereBy_104 : decode cX3_thereBy 104 = .ok (.lreturn, 1) := by decide +kernel
theorem dX3_lineUp_0 : decode cX3_lineUp 0 = .ok (.aload_n 0, 1) := by decide +kernel
theorem dX3_lineUp_1 : decode cX3_lineUp 1 = .ok (.iload_n 1, 1) := by decide +kernel
theorem dX3_lineUp_2 : decode cX3_lineUp 2 = .ok (.invokevirtual 150, 3) := by decide +kernel
theorem dX3_lineUp_5 : decode cX3_lineUp 5 = .ok (.lstore_n 2, 1) := by decide +kernel
theorem dX3_lineUp_6 : decode cX3_lineUp 6 = .ok (.iconst 0, 1) := by decide +kernel
theorem dX3_lineUp_7 : decode cX3_lineUp 7 = .ok (.istore 4, 2) := by decide +kernel
theorem dX3_lineUp_9 : decode cX3_lineUp 9 = .ok (.iconst 0, 1) := by decide +kernel
theorem dX3_lineUp_10 : decode cX3_lineUp 10 = .ok (.istore 5, 2) := by decide +kernel
theorem dX3_lineUp_12 : decode cX3_lineUp 12 = .ok (.iload 5, 2) := by decide +kernel
theorem dX3_lineUp_14 : decode cX3_lineUp 14 = .ok (.aload_n 0, 1) := by decide +kernel
theorem dX3_lineUp_15 : decode cX3_lineUp 15 = .ok (.getfield 30, 3) := by decide +kernel
theorem dX3_lineUp_18 : decode cX3_lineUp 18 = .ok (.getfield 67, 3) := by decide +kernel
theorem dX3_lineUp_21 : decode cX3_lineUp 21 = .ok (.if_icmp .ge 35, 3) := by decide +kernel
theorem dX3_lineUp_24 : decode cX3_lineUp 24 = .ok (.aload_n 0, 1) := by decide +kernel
theorem dX3_lineUp_25 : decode cX3_lineUp 25 = .ok (.getfield 30, 3) := by decide +kernel
theorem dX3_lineUp_28 : decode cX3_lineUp 28 = .ok (.iload 5, 2) := by decide +kernel
theorem dX3_lineUp_30 : decode cX3_lineUp 30 = .ok (.lload_n 2, 1) := by decide +kernel
theorem dX3_lineUp_31 : decode cX3_lineUp 31 = .ok (.iload_n 1, 1) := by decide +kernel
theorem dX3_lineUp_32 : decode cX3_lineUp 32 = .ok (.invokevirtual 153, 3) := by decide +kernel
theorem dX3_lineUp_35 : decode cX3_lineUp 35 = .ok (.ifCond .eq 15, 3) := by decide +kernel
theorem dX3_lineUp_38 : decode cX3_lineUp 38 = .ok (.aload_n 0, 1) := by decide +kernel
theorem dX3_lineUp_39 : decode cX3_lineUp 39 = .ok (.getfield 48, 3) := by decide +kernel
theorem dX3_lineUp_42 : decode cX3_lineUp 42 = .ok (.iload 4, 2) := by decide +kernel
theorem dX3_lineUp_44 : decode cX3_lineUp 44 = .ok (.iload 5, 2) := by decide +kernel
theorem dX3_lineUp_46 : decode cX3_lineUp 46 = .ok (.iastore, 1) := by decide +kernel
theorem dX3_lineUp_47 : decode cX3_lineUp 47 = .ok (.iinc 4 1, 3) := by decide +kernel
theorem dX3_lineUp_50 : decode cX3_lineUp 50 = .ok (.iinc 5 1, 3) := by decide +kernel
theorem dX3_lineUp_53 : decode cX3_lineUp 53 = .ok (.goto (-41), 3) := by decide +kernel
theorem dX3_lineUp_56 : decode cX3_lineUp 56 = .ok (.iload 4, 2) := by decide +kernel
theorem dX3_lineUp_58 : decode cX3_lineUp 58 = .ok (.ireturn, 1) := by decide +kernel
theorem dX3_readsAsPage_0 : decode cX3_readsAsPage 0 = .ok (.aload_n 0, 1) := by decide +kernel
theorem dX3_readsAsPage_1 : decode cX3_readsAsPage 1 = .ok (.iload_n 1, 1) := by decide +kernel
theorem dX3_readsAsPage_2 : decode cX3_readsAsPage 2 = .ok (.invokevirtual 150, 3) := by decide +kernel
theorem dX3_readsAsPage_5 : decode cX3_readsAsPage 5 = .ok (.lstore_n 2, 1) := by decide +kernel
theorem dX3_readsAsPage_6 : decode cX3_readsAsPage 6 = .ok (.lload_n 2, 1) := by decide +kernel
theorem dX3_readsAsPage_7 : decode cX3_readsAsPage 7 = .ok (.invokestatic 157, 3) := by decide +kernel
theorem dX3_readsAsPage_10 : decode cX3_readsAsPage 10 = .ok (.aload_n 0, 1) := by decide +kernel
theorem dX3_readsAsPage_11 : decode cX3_readsAsPage 11 = .ok (.getfield 13, 3) := by decide +kernel
theorem dX3_readsAsPage_14 : decode cX3_readsAsPage 14 = .ok (.if_icmp .eq 5, 3) := by decide +kernel
theorem dX3_readsAsPage_17 : decode cX3_readsAsPage 17 = .ok (.iconst 0, 1) := by decide +kernel
theorem dX3_readsAsPage_18 : decode cX3_readsAsPage 18 = .ok (.ireturn, 1) := by decide +kernel
theorem dX3_readsAsPage_19 : decode cX3_readsAsPage 19 = .ok (.iconst 0, 1) := by decide +kernel
theorem dX3_readsAsPage_20 : decode cX3_readsAsPage 20 = .ok (.istore 4, 2) := by decide +kernel
theorem dX3_readsAsPage_22 : decode cX3_readsAsPage 22 = .ok (.iconst 0, 1) := by decide +kernel
theorem dX3_readsAsPage_23 : decode cX3_readsAsPage 23 = .ok (.istore 5, 2) := by decide +kernel
theorem dX3_readsAsPage_25 : decode cX3_readsAsPage 25 = .ok (.iload 5, 2) := by decide +kernel
theorem dX3_readsAsPage_27 : decode cX3_readsAsPage 27 = .ok (.aload_n 0, 1) := by decide +kernel
theorem dX3_readsAsPage_28 : decode cX3_readsAsPage 28 = .ok (.getfield 30, 3) := by decide +kernel
theorem dX3_readsAsPage_31 : decode cX3_readsAsPage 31 = .ok (.getfield 67, 3) := by decide +kernel
theorem dX3_readsAsPage_34 : decode cX3_readsAsPage 34 = .ok (.if_icmp .ge 62, 3) := by decide +kernel
theorem dX3_readsAsPage_37 : decode cX3_readsAsPage 37 = .ok (.aload_n 0, 1) := by decide +kernel
theorem dX3_readsAsPage_38 : decode cX3_readsAsPage 38 = .ok (.getfield 30, 3) := by decide +kernel
theorem dX3_readsAsPage_41 : decode cX3_readsAsPage 41 = .ok (.iload 5, 2) := by decide +kernel
theorem dX3_readsAsPage_43 : decode cX3_readsAsPage 43 = .ok (.lload_n 2, 1) := by decide +kernel
theorem dX3_readsAsPage_44 : decode cX3_readsAsPage 44 = .ok (.iload_n 1, 1) := by decide +kernel
theorem dX3_readsAsPage_45 : decode cX3_readsAsPage 45 = .ok (.invokevirtual 153, 3) := by decide +kernel
theorem dX3_readsAsPage_48 : decode cX3_readsAsPage 48 = .ok (.ifCond .eq 42, 3) := by decide +kernel
theorem dX3_readsAsPage_51 : decode cX3_readsAsPage 51 = .ok (.iload 4, 2) := by decide +kernel
theorem dX3_readsAsPage_53 : decode cX3_readsAsPage 53 = .ok (.aload_n 0, 1) := by decide +kernel
theorem dX3_readsAsPage_54 : decode cX3_readsAsPage 54 = .ok (.getfield 13, 3) := by decide +kernel
theorem dX3_readsAsPage_57 : decode cX3_readsAsPage 57 = .ok (.if_icmp .ge 28, 3) := by decide +kernel
theorem dX3_readsAsPage_60 : decode cX3_readsAsPage 60 = .ok (.aload_n 0, 1) := by decide +kernel
theorem dX3_readsAsPage_61 : decode cX3_readsAsPage 61 = .ok (.getfield 17, 3) := by decide +kernel
theorem dX3_readsAsPage_64 : decode cX3_readsAsPage 64 = .ok (.aload_n 0, 1) := by decide +kernel
theorem dX3_readsAsPage_65 : decode cX3_readsAsPage 65 = .ok (.getfield 30, 3) := by decide +kernel
theorem dX3_readsAsPage_68 : decode cX3_readsAsPage 68 = .ok (.getfield 121, 3) := by decide +kernel
theorem dX3_readsAsPage_71 : decode cX3_readsAsPage 71 = .ok (.iload 5, 2) := by decide +kernel
theorem dX3_readsAsPage_73 : decode cX3_readsAsPage 73 = .ok (.iaload, 1) := by decide +kernel
theorem dX3_readsAsPage_74 : decode cX3_readsAsPage 74 = .ok (.iaload, 1) := by decide +kernel
theorem dX3_readsAsPage_75 : decode cX3_readsAsPage 75 = .ok (.aload_n 0, 1) := by decide +kernel
theorem dX3_readsAsPage_76 : decode cX3_readsAsPage 76 = .ok (.getfield 9, 3) := by decide +kernel
theorem dX3_readsAsPage_79 : decode cX3_readsAsPage 79 = .ok (.iload 4, 2) := by decide +kernel
theorem dX3_readsAsPage_81 : decode cX3_readsAsPage 81 = .ok (.iaload, 1) := by decide +kernel
theorem dX3_readsAsPage_82 : decode cX3_readsAsPage 82 = .ok (.if_icmp .eq 5, 3) := by decide +kernel
theorem dX3_readsAsPage_85 : decode cX3_readsAsPage 85 = .ok (.iconst 0, 1) := by decide +kernel
theorem dX3_readsAsPage_86 : decode cX3_readsAsPage 86 = .ok (.ireturn, 1) := by decide +kernel
theorem dX3_readsAsPage_87 : decode cX3_readsAsPage 87 = .ok (.iinc 4 1, 3) := by decide +kernel
theorem dX3_readsAsPage_90 : decode cX3_readsAsPage 90 = .ok (.iinc 5 1, 3) := by decide +kernel
theorem dX3_readsAsPage_93 : decode cX3_readsAsPage 93 = .ok (.goto (-68), 3) := by decide +kernel
theorem dX3_readsAsPage_96 : decode cX3_readsAsPage 96 = .ok (.iload 4, 2) := by decide +kernel
theorem dX3_readsAsPage_98 : decode cX3_readsAsPage 98 = .ok (.aload_n 0, 1) := by decide +kernel
theorem dX3_readsAsPage_99 : decode cX3_readsAsPage 99 = .ok (.getfield 13, 3) := by decide +kernel
theorem dX3_readsAsPage_102 : decode cX3_readsAsPage 102 = .ok (.if_icmp .ne 7, 3) := by decide +kernel
theorem dX3_readsAsPage_105 : decode cX3_readsAsPage 105 = .ok (.iconst 1, 1) := by decide +kernel
theorem dX3_readsAsPage_106 : decode cX3_readsAsPage 106 = .ok (.goto 4, 3) := by decide +kernel
theorem dX3_readsAsPage_109 : decode cX3_readsAsPage 109 = .ok (.iconst 0, 1) := by decide +kernel
theorem dX3_readsAsPage_110 : decode cX3_readsAsPage 110 = .ok (.ireturn, 1) := by decide +kernel
theorem dX3_length_0 : decode cX3_length 0 = .ok (.iload_n 1, 1) := by decide +kernel
theorem dX3_length_1 : decode cX3_length 1 = .ok (.invokestatic 163, 3) := by decide +kernel
theorem dX3_length_4 : decode cX3_length 4 = .ok (.ifCond .eq 15, 3) := by decide +kernel
theorem dX3_length_7 : decode cX3_length 7 = .ok (.aload_n 0, 1) := by decide +kernel
theorem dX3_length_8 : decode cX3_length 8 = .ok (.aload_n 0, 1) := by decide +kernel
theorem dX3_length_9 : decode cX3_length 9 = .ok (.iload_n 1, 1) := by decide +kernel
theorem dX3_length_10 : decode cX3_length 10 = .ok (.invokevirtual 93, 3) := by decide +kernel
theorem dX3_length_13 : decode cX3_length 13 = .ok (.invokevirtual 97, 3) := by decide +kernel
theorem dX3_length_16 : decode cX3_length 16 = .ok (.goto 6, 3) := by decide +kernel
theorem dX3_length_19 : decode cX3_length 19 = .ok (.sipush (-1001), 3) := by decide +kernel
theorem dX3_length_22 : decode cX3_length 22 = .ok (.ireturn, 1) := by decide +kernel
theorem dX3_isView_0 : decode cX3_isView 0 = .ok (.iload_n 0, 1) := by decide +kernel
theorem dX3_isView_1 : decode cX3_isView 1 = .ok (.ifCond .lt 13, 3) := by decide +kernel
theorem dX3_isView_4 : decode cX3_isView 4 = .ok (.iload_n 0, 1) := by decide +kernel
theorem dX3_isView_5 : decode cX3_isView 5 = .ok (.bipush 6, 2) := by decide +kernel
theorem dX3_isView_7 : decode cX3_isView 7 = .ok (.if_icmp .ge 7, 3) := by decide +kernel
theorem dX3_isView_10 : decode cX3_isView 10 = .ok (.iconst 1, 1) := by decide +kernel
theorem dX3_isView_11 : decode cX3_isView 11 = .ok (.goto 4, 3) := by decide +kernel
theorem dX3_isView_14 : decode cX3_isView 14 = .ok (.iconst 0, 1) := by decide +kernel
theorem dX3_isView_15 : decode cX3_isView 15 = .ok (.ireturn, 1) := by decide +kernel
theorem dX3_read_0 : decode cX3_read 0 = .ok (.iload_n 1, 1) := by decide +kernel
theorem dX3_read_1 : decode cX3_read 1 = .ok (.invokestatic 163, 3) := by decide +kernel
theorem dX3_read_4 : decode cX3_read 4 = .ok (.ifCond .ne 7, 3) := by decide +kernel
theorem dX3_read_7 : decode cX3_read 7 = .ok (.sipush (-1001), 3) := by decide +kernel
theorem dX3_read_10 : decode cX3_read 10 = .ok (.ireturn, 1) := by decide +kernel
theorem dX3_read_11 : decode cX3_read 11 = .ok (.aload_n 0, 1) := by decide +kernel
theorem dX3_read_12 : decode cX3_read 12 = .ok (.aload_n 0, 1) := by decide +kernel
theorem dX3_read_13 : decode cX3_read 13 = .ok (.iload_n 1, 1) := by decide +kernel
theorem dX3_read_14 : decode cX3_read 14 = .ok (.invokevirtual 93, 3) := by decide +kernel
theorem dX3_read_17 : decode cX3_read 17 = .ok (.invokevirtual 97, 3) := by decide +kernel
theorem dX3_read_20 : decode cX3_read 20 = .ok (.istore 4, 2) := by decide +kernel
theorem dX3_read_22 : decode cX3_read 22 = .ok (.iload_n 2, 1) := by decide +kernel
theorem dX3_read_23 : decode cX3_read 23 = .ok (.ifCond .lt 9, 3) := by decide +kernel
theorem dX3_read_26 : decode cX3_read 26 = .ok (.iload_n 2, 1) := by decide +kernel
theorem dX3_read_27 : decode cX3_read 27 = .ok (.iload 4, 2) := by decide +kernel
theorem dX3_read_29 : decode cX3_read 29 = .ok (.if_icmp .lt 7, 3) := by decide +kernel
theorem dX3_read_32 : decode cX3_read 32 = .ok (.sipush (-1001), 3) := by decide +kernel
theorem dX3_read_35 : decode cX3_read 35 = .ok (.ireturn, 1) := by decide +kernel
theorem dX3_read_36 : decode cX3_read 36 = .ok (.iload_n 3, 1) := by decide +kernel
theorem dX3_read_37 : decode cX3_read 37 = .ok (.ifCond .lt 9, 3) := by decide +kernel
theorem dX3_read_40 : decode cX3_read 40 = .ok (.iload_n 3, 1) := by decide +kernel
theorem dX3_read_41 : decode cX3_read 41 = .ok (.bipush 6, 2) := by decide +kernel
theorem dX3_read_43 : decode cX3_read 43 = .ok (.if_icmp .lt 7, 3) := by decide +kernel
theorem dX3_read_46 : decode cX3_read 46 = .ok (.sipush (-1002), 3) := by decide +kernel
theorem dX3_read_49 : decode cX3_read 49 = .ok (.ireturn, 1) := by decide +kernel
theorem dX3_read_50 : decode cX3_read 50 = .ok (.aload_n 0, 1) := by decide +kernel
theorem dX3_read_51 : decode cX3_read 51 = .ok (.aload_n 0, 1) := by decide +kernel
theorem dX3_read_52 : decode cX3_read 52 = .ok (.getfield 48, 3) := by decide +kernel
theorem dX3_read_55 : decode cX3_read 55 = .ok (.iload_n 2, 1) := by decide +kernel
theorem dX3_read_56 : decode cX3_read 56 = .ok (.iaload, 1) := by decide +kernel
theorem dX3_read_57 : decode cX3_read 57 = .ok (.iload_n 3, 1) := by decide +kernel
theorem dX3_read_58 : decode cX3_read 58 = .ok (.invokevirtual 166, 3) := by decide +kernel
theorem dX3_read_61 : decode cX3_read 61 = .ok (.ireturn, 1) := by decide +kernel
theorem dX3_letterFact_0 : decode cX3_letterFact 0 = .ok (.aload_n 0, 1) := by decide +kernel
theorem dX3_letterFact_1 : decode cX3_letterFact 1 = .ok (.getfield 30, 3) := by decide +kernel
theorem dX3_letterFact_4 : decode cX3_letterFact 4 = .ok (.getfield 121, 3) := by decide +kernel
theorem dX3_letterFact_7 : decode cX3_letterFact 7 = .ok (.iload_n 1, 1) := by decide +kernel
theorem dX3_letterFact_8 : decode cX3_letterFact 8 = .ok (.iaload, 1) := by decide +kernel
theorem dX3_letterFact_9 : decode cX3_letterFact 9 = .ok (.istore_n 3, 1) := by decide +kernel
theorem dX3_letterFact_10 : decode cX3_letterFact 10 = .ok (.iload_n 2, 1) := by decide +kernel
theorem dX3_letterFact_11 : decode cX3_letterFact 11 = .ok (.tableswitch 64 0 4 #[33, 40, 42, 44, 54], 33) := by decide +kernel
theorem dX3_letterFact_44 : decode cX3_letterFact 44 = .ok (.aload_n 0, 1) := by decide +kernel
theorem dX3_letterFact_45 : decode cX3_letterFact 45 = .ok (.getfield 17, 3) := by decide +kernel
theorem dX3_letterFact_48 : decode cX3_letterFact 48 = .ok (.iload_n 3, 1) := by decide +kernel
theorem dX3_letterFact_49 : decode cX3_letterFact 49 = .ok (.iaload, 1) := by decide +kernel
theorem dX3_letterFact_50 : decode cX3_letterFact 50 = .ok (.ireturn, 1) := by decide +kernel
theorem dX3_letterFact_51 : decode cX3_letterFact 51 = .ok (.iload_n 3, 1) := by decide +kernel
theorem dX3_letterFact_52 : decode cX3_letterFact 52 = .ok (.ireturn, 1) := by decide +kernel
theorem dX3_letterFact_53 : decode cX3_letterFact 53 = .ok (.iload_n 1, 1) := by decide +kernel
theorem dX3_letterFact_54 : decode cX3_letterFact 54 = .ok (.ireturn, 1) := by decide +kernel
theorem dX3_letterFact_55 : decode cX3_letterFact 55 = .ok (.aload_n 0, 1) := by decide +kernel
theorem dX3_letterFact_56 : decode cX3_letterFact 56 = .ok (.getfield 30, 3) := by decide +kernel
theorem dX3_letterFact_59 : decode cX3_letterFact 59 = .ok (.getfield 169, 3) := by decide +kernel
theorem dX3_letterFact_62 : decode cX3_letterFact 62 = .ok (.iload_n 1, 1) := by decide +kernel
theorem dX3_letterFact_63 : decode cX3_letterFact 63 = .ok (.iaload, 1) := by decide +kernel
theorem dX3_letterFact_64 : decode cX3_letterFact 64 = .ok (.ireturn, 1) := by decide +kernel
theorem dX3_letterFact_65 : decode cX3_letterFact 65 = .ok (.aload_n 0, 1) := by decide +kernel
theorem dX3_letterFact_66 : decode cX3_letterFact 66 = .ok (.getfield 37, 3) := by decide +kernel
theorem dX3_letterFact_69 : decode cX3_letterFact 69 = .ok (.iconst 1, 1) := by decide +kernel
theorem dX3_letterFact_70 : decode cX3_letterFact 70 = .ok (.iload_n 3, 1) := by decide +kernel
theorem dX3_letterFact_71 : decode cX3_letterFact 71 = .ok (.invokevirtual 172, 3) := by decide +kernel
theorem dX3_letterFact_74 : decode cX3_letterFact 74 = .ok (.ireturn, 1) := by decide +kernel
theorem dX3_letterFact_75 : decode cX3_letterFact 75 = .ok (.aload_n 0, 1) := by decide +kernel
theorem dX3_letterFact_76 : decode cX3_letterFact 76 = .ok (.getfield 37, 3) := by decide +kernel
theorem dX3_letterFact_79 : decode cX3_letterFact 79 = .ok (.iconst 2, 1) := by decide +kernel
theorem dX3_letterFact_80 : decode cX3_letterFact 80 = .ok (.iload_n 3, 1) := by decide +kernel
theorem dX3_letterFact_81 : decode cX3_letterFact 81 = .ok (.invokevirtual 172, 3) := by decide +kernel
theorem dX3_letterFact_84 : decode cX3_letterFact 84 = .ok (.ireturn, 1) := by decide +kernel
theorem dX3_place_0 : decode cX3_place 0 = .ok (.iload_n 1, 1) := by decide +kernel
theorem dX3_place_1 : decode cX3_place 1 = .ok (.ifCond .lt 14, 3) := by decide +kernel
theorem dX3_place_4 : decode cX3_place 4 = .ok (.iload_n 1, 1) := by decide +kernel
theorem dX3_place_5 : decode cX3_place 5 = .ok (.aload_n 0, 1) := by decide +kernel
theorem dX3_place_6 : decode cX3_place 6 = .ok (.getfield 30, 3) := by decide +kernel
theorem dX3_place_9 : decode cX3_place 9 = .ok (.getfield 67, 3) := by decide +kernel
theorem dX3_place_12 : decode cX3_place 12 = .ok (.if_icmp .lt 7, 3) := by decide +kernel
theorem dX3_place_15 : decode cX3_place 15 = .ok (.sipush (-1001), 3) := by decide +kernel
theorem dX3_place_18 : decode cX3_place 18 = .ok (.ireturn, 1) := by decide +kernel
theorem dX3_place_19 : decode cX3_place 19 = .ok (.iload_n 2, 1) := by decide +kernel
theorem dX3_place_20 : decode cX3_place 20 = .ok (.ifCond .lt 8, 3) := by decide +kernel
theorem dX3_place_23 : decode cX3_place 23 = .ok (.iload_n 2, 1) := by decide +kernel
theorem dX3_place_24 : decode cX3_place 24 = .ok (.iconst 4, 1) := by decide +kernel
theorem dX3_place_25 : decode cX3_place 25 = .ok (.if_icmp .lt 7, 3) := by decide +kernel
theorem dX3_place_28 : decode cX3_place 28 = .ok (.sipush (-1002), 3) := by decide +kernel
theorem dX3_place_31 : decode cX3_place 31 = .ok (.ireturn, 1) := by decide +kernel
theorem dX3_place_32 : decode cX3_place 32 = .ok (.aload_n 0, 1) := by decide +kernel
theorem dX3_place_33 : decode cX3_place 33 = .ok (.iload_n 1, 1) := by decide +kernel
theorem dX3_place_34 : decode cX3_place 34 = .ok (.iload_n 2, 1) := by decide +kernel
theorem dX3_place_35 : decode cX3_place 35 = .ok (.invokevirtual 175, 3) := by decide +kernel
theorem dX3_place_38 : decode cX3_place 38 = .ok (.ireturn, 1) := by decide +kernel
theorem dX3_placeFact_0 : decode cX3_placeFact 0 = .ok (.iload_n 2, 1) := by decide +kernel
theorem dX3_placeFact_1 : decode cX3_placeFact 1 = .ok (.tableswitch 57 0 2 #[27, 37, 47], 27) := by decide +kernel
theorem dX3_placeFact_28 : decode cX3_placeFact 28 = .ok (.aload_n 0, 1) := by decide +kernel
theorem dX3_placeFact_29 : decode cX3_placeFact 29 = .ok (.getfield 30, 3) := by decide +kernel
theorem dX3_placeFact_32 : decode cX3_placeFact 32 = .ok (.getfield 121, 3) := by decide +kernel
theorem dX3_placeFact_35 : decode cX3_placeFact 35 = .ok (.iload_n 1, 1) := by decide +kernel
theorem dX3_placeFact_36 : decode cX3_placeFact 36 = .ok (.iaload, 1) := by decide +kernel
theorem dX3_placeFact_37 : decode cX3_placeFact 37 = .ok (.ireturn, 1) := by decide +kernel
theorem dX3_placeFact_38 : decode cX3_placeFact 38 = .ok (.aload_n 0, 1) := by decide +kernel
theorem dX3_placeFact_39 : decode cX3_placeFact 39 = .ok (.getfield 30, 3) := by decide +kernel
theorem dX3_placeFact_42 : decode cX3_placeFact 42 = .ok (.getfield 178, 3) := by decide +kernel
theorem dX3_placeFact_45 : decode cX3_placeFact 45 = .ok (.iload_n 1, 1) := by decide +kernel
theorem dX3_placeFact_46 : decode cX3_placeFact 46 = .ok (.iaload, 1) := by decide +kernel
theorem dX3_placeFact_47 : decode cX3_placeFact 47 = .ok (.ireturn, 1) := by decide +kernel
theorem dX3_placeFact_48 : decode cX3_placeFact 48 = .ok (.aload_n 0, 1) := by decide +kernel
theorem dX3_placeFact_49 : decode cX3_placeFact 49 = .ok (.getfield 30, 3) := by decide +kernel
theorem dX3_placeFact_52 : decode cX3_placeFact 52 = .ok (.getfield 169, 3) := by decide +kernel
theorem dX3_placeFact_55 : decode cX3_placeFact 55 = .ok (.iload_n 1, 1) := by decide +kernel
theorem dX3_placeFact_56 : decode cX3_placeFact 56 = .ok (.iaload, 1) := by decide +kernel
theorem dX3_placeFact_57 : decode cX3_placeFact 57 = .ok (.ireturn, 1) := by decide +kernel
theorem dX3_placeFact_58 : decode cX3_placeFact 58 = .ok (.aload_n 0, 1) := by decide +kernel
theorem dX3_placeFact_59 : decode cX3_placeFact 59 = .ok (.iload_n 1, 1) := by decide +kernel
theorem dX3_placeFact_60 : decode cX3_placeFact 60 = .ok (.invokevirtual 181, 3) := by decide +kernel
theorem dX3_placeFact_63 : decode cX3_placeFact 63 = .ok (.ireturn, 1) := by decide +kernel
theorem dX3_markOf_0 : decode cX3_markOf 0 = .ok (.aload_n 0, 1) := by decide +kernel
theorem dX3_markOf_1 : decode cX3_markOf 1 = .ok (.iconst 0, 1) := by decide +kernel
theorem dX3_markOf_2 : decode cX3_markOf 2 = .ok (.invokevirtual 93, 3) := by decide +kernel
theorem dX3_markOf_5 : decode cX3_markOf 5 = .ok (.istore_n 2, 1) := by decide +kernel
theorem dX3_markOf_6 : decode cX3_markOf 6 = .ok (.aload_n 0, 1) := by decide +kernel
theorem dX3_markOf_7 : decode cX3_markOf 7 = .ok (.iconst 1, 1) := by decide +kernel
theorem dX3_markOf_8 : decode cX3_markOf 8 = .ok (.invokevirtual 93, 3) := by decide +kernel
theorem dX3_markOf_11 : decode cX3_markOf 11 = .ok (.istore_n 3, 1) := by decide +kernel
theorem dX3_markOf_12 : decode cX3_markOf 12 = .ok (.aload_n 0, 1) := by decide +kernel
theorem dX3_markOf_13 : decode cX3_markOf 13 = .ok (.getfield 30, 3) := by decide +kernel
theorem dX3_markOf_16 : decode cX3_markOf 16 = .ok (.iload_n 1, 1) := by decide +kernel
theorem dX3_markOf_17 : decode cX3_markOf 17 = .ok (.aload_n 0, 1) := by decide +kernel
theorem dX3_markOf_18 : decode cX3_markOf 18 = .ok (.iload_n 2, 1) := by decide +kernel
theorem dX3_markOf_19 : decode cX3_markOf 19 = .ok (.invokevirtual 150, 3) := by decide +kernel
theorem dX3_markOf_22 : decode cX3_markOf 22 = .ok (.iload_n 2, 1) := by decide +kernel
theorem dX3_markOf_23 : decode cX3_markOf 23 = .ok (.invokevirtual 153, 3) := by decide +kernel
theorem dX3_markOf_26 : decode cX3_markOf 26 = .ok (.istore 4, 2) := by decide +kernel
theorem dX3_markOf_28 : decode cX3_markOf 28 = .ok (.aload_n 0, 1) := by decide +kernel
theorem dX3_markOf_29 : decode cX3_markOf 29 = .ok (.getfield 30, 3) := by decide +kernel
theorem dX3_markOf_32 : decode cX3_markOf 32 = .ok (.iload_n 1, 1) := by decide +kernel
theorem dX3_markOf_33 : decode cX3_markOf 33 = .ok (.aload_n 0, 1) := by decide +kernel
theorem dX3_markOf_34 : decode cX3_markOf 34 = .ok (.iload_n 3, 1) := by decide +kernel
theorem dX3_markOf_35 : decode cX3_markOf 35 = .ok (.invokevirtual 150, 3) := by decide +kernel
theorem dX3_markOf_38 : decode cX3_markOf 38 = .ok (.iload_n 3, 1) := by decide +kernel
theorem dX3_markOf_39 : decode cX3_markOf 39 = .ok (.invokevirtual 153, 3) := by decide +kernel
theorem dX3_markOf_42 : decode cX3_markOf 42 = .ok (.istore 5, 2) := by decide +kernel
theorem dX3_markOf_44 : decode cX3_markOf 44 = .ok (.iload 4, 2) := by decide +kernel
theorem dX3_markOf_46 : decode cX3_markOf 46 = .ok (.ifCond .eq 14, 3) := by decide +kernel
theorem dX3_markOf_49 : decode cX3_markOf 49 = .ok (.iload 5, 2) := by decide +kernel
theorem dX3_markOf_51 : decode cX3_markOf 51 = .ok (.ifCond .eq 7, 3) := by decide +kernel
theorem dX3_markOf_54 : decode cX3_markOf 54 = .ok (.iconst 0, 1) := by decide +kernel
theorem dX3_markOf_55 : decode cX3_markOf 55 = .ok (.goto 4, 3) := by decide +kernel
theorem dX3_markOf_58 : decode cX3_markOf 58 = .ok (.iconst 2, 1) := by decide +kernel
theorem dX3_markOf_59 : decode cX3_markOf 59 = .ok (.ireturn, 1) := by decide +kernel
theorem dX3_markOf_60 : decode cX3_markOf 60 = .ok (.iload 5, 2) := by decide +kernel
theorem dX3_markOf_62 : decode cX3_markOf 62 = .ok (.ifCond .eq 7, 3) := by decide +kernel
theorem dX3_markOf_65 : decode cX3_markOf 65 = .ok (.iconst 1, 1) := by decide +kernel
theorem dX3_markOf_66 : decode cX3_markOf 66 = .ok (.goto 4, 3) := by decide +kernel
theorem dX3_markOf_69 : decode cX3_markOf 69 = .ok (.iconst 3, 1) := by decide +kernel
theorem dX3_markOf_70 : decode cX3_markOf 70 = .ok (.ireturn, 1) := by decide +kernel
theorem dX3_change_0 : decode cX3_change 0 = .ok (.aload_n 0, 1) := by decide +kernel
theorem dX3_change_1 : decode cX3_change 1 = .ok (.getfield 37, 3) := by decide +kernel
theorem dX3_change_4 : decode cX3_change 4 = .ok (.iload_n 1, 1) := by decide +kernel
theorem dX3_change_5 : decode cX3_change 5 = .ok (.invokevirtual 128, 3) := by decide +kernel
theorem dX3_change_8 : decode cX3_change 8 = .ok (.ifCond .ne 7, 3) := by decide +kernel
theorem dX3_change_11 : decode cX3_change 11 = .ok (.sipush (-1001), 3) := by decide +kernel
theorem dX3_change_14 : decode cX3_change 14 = .ok (.ireturn, 1) := by decide +kernel
theorem dX3_change_15 : decode cX3_change 15 = .ok (.iload_n 2, 1) := by decide +kernel
theorem dX3_change_16 : decode cX3_change 16 = .ok (.ifCond .lt 9, 3) := by decide +kernel
theorem dX3_change_19 : decode cX3_change 19 = .ok (.iload_n 2, 1) := by decide +kernel
theorem dX3_change_20 : decode cX3_change 20 = .ok (.bipush 7, 2) := by decide +kernel
theorem dX3_change_22 : decode cX3_change 22 = .ok (.if_icmp .lt 7, 3) := by decide +kernel
theorem dX3_change_25 : decode cX3_change 25 = .ok (.sipush (-1002), 3) := by decide +kernel
theorem dX3_change_28 : decode cX3_change 28 = .ok (.ireturn, 1) := by decide +kernel
theorem dX3_change_29 : decode cX3_change 29 = .ok (.aload_n 0, 1) := by decide +kernel
theorem dX3_change_30 : decode cX3_change 30 = .ok (.iload_n 1, 1) := by decide +kernel
theorem dX3_change_31 : decode cX3_change 31 = .ok (.iload_n 2, 1) := by decide +kernel
theorem dX3_change_32 : decode cX3_change 32 = .ok (.invokevirtual 184, 3) := by decide +kernel
theorem dX3_change_35 : decode cX3_change 35 = .ok (.ireturn, 1) := by decide +kernel
theorem dX3_changeFact_0 : decode cX3_changeFact 0 = .ok (.iload_n 2, 1) := by decide +kernel
theorem dX3_changeFact_1 : decode cX3_changeFact 1 = .ok (.tableswitch 98 0 5 #[39, 49, 59, 69, 79, 92], 39) := by decide +kernel
theorem dX3_changeFact_40 : decode cX3_changeFact 40 = .ok (.aload_n 0, 1) := by decide +kernel
theorem dX3_changeFact_41 : decode cX3_changeFact 41 = .ok (.getfield 37, 3) := by decide +kernel
theorem dX3_changeFact_44 : decode cX3_changeFact 44 = .ok (.getfield 143, 3) := by decide +kernel
theorem dX3_changeFact_47 : decode cX3_changeFact 47 = .ok (.iload_n 1, 1) := by decide +kernel
theorem dX3_changeFact_48 : decode cX3_changeFact 48 = .ok (.iaload, 1) := by decide +kernel
theorem dX3_changeFact_49 : decode cX3_changeFact 49 = .ok (.ireturn, 1) := by decide +kernel
theorem dX3_changeFact_50 : decode cX3_changeFact 50 = .ok (.aload_n 0, 1) := by decide +kernel
theorem dX3_changeFact_51 : decode cX3_changeFact 51 = .ok (.getfield 37, 3) := by decide +kernel
theorem dX3_changeFact_54 : decode cX3_changeFact 54 = .ok (.getfield 187, 3) := by decide +kernel
theorem dX3_changeFact_57 : decode cX3_changeFact 57 = .ok (.iload_n 1, 1) := by decide +kernel
theorem dX3_changeFact_58 : decode cX3_changeFact 58 = .ok (.iaload, 1) := by decide +kernel
theorem dX3_changeFact_59 : decode cX3_changeFact 59 = .ok (.ireturn, 1) := by decide +kernel
theorem dX3_changeFact_60 : decode cX3_changeFact 60 = .ok (.aload_n 0, 1) := by decide +kernel
theorem dX3_changeFact_61 : decode cX3_changeFact 61 = .ok (.getfield 37, 3) := by decide +kernel
theorem dX3_changeFact_64 : decode cX3_changeFact 64 = .ok (.getfield 134, 3) := by decide +kernel
theorem dX3_changeFact_67 : decode cX3_changeFact 67 = .ok (.iload_n 1, 1) := by decide +kernel
theorem dX3_changeFact_68 : decode cX3_changeFact 68 = .ok (.iaload, 1) := by decide +kernel
theorem dX3_changeFact_69 : decode cX3_changeFact 69 = .ok (.ireturn, 1) := by decide +kernel
theorem dX3_changeFact_70 : decode cX3_changeFact 70 = .ok (.aload_n 0, 1) := by decide +kernel
theorem dX3_changeFact_71 : decode cX3_changeFact 71 = .ok (.getfield 37, 3) := by decide +kernel
theorem dX3_changeFact_74 : decode cX3_changeFact 74 = .ok (.getfield 131, 3) := by decide +kernel
theorem dX3_changeFact_77 : decode cX3_changeFact 77 = .ok (.iload_n 1, 1) := by decide +kernel
theorem dX3_changeFact_78 : decode cX3_changeFact 78 = .ok (.iaload, 1) := by decide +kernel
theorem dX3_changeFact_79 : decode cX3_changeFact 79 = .ok (.ireturn, 1) := by decide +kernel
theorem dX3_changeFact_80 : decode cX3_changeFact 80 = .ok (.aload_n 0, 1) := by decide +kernel
theorem dX3_changeFact_81 : decode cX3_changeFact 81 = .ok (.getfield 37, 3) := by decide +kernel
theorem dX3_changeFact_84 : decode cX3_changeFact 84 = .ok (.getfield 146, 3) := by decide +kernel
theorem dX3_changeFact_87 : decode cX3_changeFact 87 = .ok (.iload_n 1, 1) := by decide +kernel
theorem dX3_changeFact_88 : decode cX3_changeFact 88 = .ok (.laload, 1) := by decide +kernel
theorem dX3_changeFact_89 : decode cX3_changeFact 89 = .ok (.invokestatic 157, 3) := by decide +kernel
theorem dX3_changeFact_92 : decode cX3_changeFact 92 = .ok (.ireturn, 1) := by decide +kernel
theorem dX3_changeFact_93 : decode cX3_changeFact 93 = .ok (.aload_n 0, 1) := by decide +kernel
theorem dX3_changeFact_94 : decode cX3_changeFact 94 = .ok (.iload_n 1, 1) := by decide +kernel
theorem dX3_changeFact_95 : decode cX3_changeFact 95 = .ok (.invokevirtual 190, 3) := by decide +kernel
theorem dX3_changeFact_98 : decode cX3_changeFact 98 = .ok (.ireturn, 1) := by decide +kernel
theorem dX3_changeFact_99 : decode cX3_changeFact 99 = .ok (.aload_n 0, 1) := by decide +kernel
theorem dX3_changeFact_100 : decode cX3_changeFact 100 = .ok (.getfield 37, 3) := by decide +kernel
theorem dX3_changeFact_103 : decode cX3_changeFact 103 = .ok (.iload_n 1, 1) := by decide +kernel
theorem dX3_changeFact_104 : decode cX3_changeFact 104 = .ok (.invokevirtual 193, 3) := by decide +kernel
theorem dX3_changeFact_107 : decode cX3_changeFact 107 = .ok (.aload_n 0, 1) := by decide +kernel
theorem dX3_changeFact_108 : decode cX3_changeFact 108 = .ok (.getfield 30, 3) := by decide +kernel
theorem dX3_changeFact_111 : decode cX3_changeFact 111 = .ok (.iload_n 1, 1) := by decide +kernel
theorem dX3_changeFact_112 : decode cX3_changeFact 112 = .ok (.invokevirtual 196, 3) := by decide +kernel
theorem dX3_changeFact_115 : decode cX3_changeFact 115 = .ok (.ior, 1) := by decide +kernel
theorem dX3_changeFact_116 : decode cX3_changeFact 116 = .ok (.ireturn, 1) := by decide +kernel
theorem dX3_idleOf_0 : decode cX3_idleOf 0 = .ok (.aload_n 0, 1) := by decide +kernel
theorem dX3_idleOf_1 : decode cX3_idleOf 1 = .ok (.iconst 1, 1) := by decide +kernel
theorem dX3_idleOf_2 : decode cX3_idleOf 2 = .ok (.invokevirtual 93, 3) := by decide +kernel
theorem dX3_idleOf_5 : decode cX3_idleOf 5 = .ok (.iconst 1, 1) := by decide +kernel
theorem dX3_idleOf_6 : decode cX3_idleOf 6 = .ok (.iload_n 1, 1) := by decide +kernel
theorem dX3_idleOf_7 : decode cX3_idleOf 7 = .ok (.ishl, 1) := by decide +kernel
theorem dX3_idleOf_8 : decode cX3_idleOf 8 = .ok (.ior, 1) := by decide +kernel
theorem dX3_idleOf_9 : decode cX3_idleOf 9 = .ok (.istore_n 2, 1) := by decide +kernel
theorem dX3_idleOf_10 : decode cX3_idleOf 10 = .ok (.iload_n 2, 1) := by decide +kernel
theorem dX3_idleOf_11 : decode cX3_idleOf 11 = .ok (.iconst 1, 1) := by decide +kernel
theorem dX3_idleOf_12 : decode cX3_idleOf 12 = .ok (.iload_n 1, 1) := by decide +kernel
theorem dX3_idleOf_13 : decode cX3_idleOf 13 = .ok (.ishl, 1) := by decide +kernel
theorem dX3_idleOf_14 : decode cX3_idleOf 14 = .ok (.iconst (-1), 1) := by decide +kernel
theorem dX3_idleOf_15 : decode cX3_idleOf 15 = .ok (.ixor, 1) := by decide +kernel
theorem dX3_idleOf_16 : decode cX3_idleOf 16 = .ok (.iand, 1) := by decide +kernel
theorem dX3_idleOf_17 : decode cX3_idleOf 17 = .ok (.istore_n 3, 1) := by decide +kernel
theorem dX3_idleOf_18 : decode cX3_idleOf 18 = .ok (.aload_n 0, 1) := by decide +kernel
theorem dX3_idleOf_19 : decode cX3_idleOf 19 = .ok (.iload_n 2, 1) := by decide +kernel
theorem dX3_idleOf_20 : decode cX3_idleOf 20 = .ok (.invokevirtual 150, 3) := by decide +kernel
theorem dX3_idleOf_23 : decode cX3_idleOf 23 = .ok (.lstore 4, 2) := by decide +kernel
theorem dX3_idleOf_25 : decode cX3_idleOf 25 = .ok (.aload_n 0, 1) := by decide +kernel
theorem dX3_idleOf_26 : decode cX3_idleOf 26 = .ok (.iload_n 3, 1) := by decide +kernel
theorem dX3_idleOf_27 : decode cX3_idleOf 27 = .ok (.invokevirtual 150, 3) := by decide +kernel
theorem dX3_idleOf_30 : decode cX3_idleOf 30 = .ok (.lstore 6, 2) := by decide +kernel
theorem dX3_idleOf_32 : decode cX3_idleOf 32 = .ok (.aload_n 0, 1) := by decide +kernel
theorem dX3_idleOf_33 : decode cX3_idleOf 33 = .ok (.getfield 37, 3) := by decide +kernel
theorem dX3_idleOf_36 : decode cX3_idleOf 36 = .ok (.getfield 146, 3) := by decide +kernel
theorem dX3_idleOf_39 : decode cX3_idleOf 39 = .ok (.iload_n 1, 1) := by decide +kernel
theorem dX3_idleOf_40 : decode cX3_idleOf 40 = .ok (.laload, 1) := by decide +kernel
theorem dX3_idleOf_41 : decode cX3_idleOf 41 = .ok (.lstore 8, 2) := by decide +kernel
theorem dX3_idleOf_43 : decode cX3_idleOf 43 = .ok (.lload 8, 2) := by decide +kernel
theorem dX3_idleOf_45 : decode cX3_idleOf 45 = .ok (.lload 4, 2) := by decide +kernel
theorem dX3_idleOf_47 : decode cX3_idleOf 47 = .ok (.ldc2_w 79, 3) := by decide +kernel
theorem dX3_idleOf_50 : decode cX3_idleOf 50 = .ok (.lxor, 1) := by decide +kernel
theorem dX3_idleOf_51 : decode cX3_idleOf 51 = .ok (.land, 1) := by decide +kernel
theorem dX3_idleOf_52 : decode cX3_idleOf 52 = .ok (.lload 6, 2) := by decide +kernel
theorem dX3_idleOf_54 : decode cX3_idleOf 54 = .ok (.ldc2_w 79, 3) := by decide +kernel
theorem dX3_idleOf_57 : decode cX3_idleOf 57 = .ok (.lxor, 1) := by decide +kernel
theorem dX3_idleOf_58 : decode cX3_idleOf 58 = .ok (.land, 1) := by decide +kernel
theorem dX3_idleOf_59 : decode cX3_idleOf 59 = .ok (.invokestatic 157, 3) := by decide +kernel
theorem dX3_idleOf_62 : decode cX3_idleOf 62 = .ok (.istore 10, 2) := by decide +kernel
theorem dX3_idleOf_64 : decode cX3_idleOf 64 = .ok (.iconst 0, 1) := by decide +kernel
theorem dX3_idleOf_65 : decode cX3_idleOf 65 = .ok (.istore 11, 2) := by decide +kernel
theorem dX3_idleOf_67 : decode cX3_idleOf 67 = .ok (.iload 11, 2) := by decide +kernel
theorem dX3_idleOf_69 : decode cX3_idleOf 69 = .ok (.aload_n 0, 1) := by decide +kernel
theorem dX3_idleOf_70 : decode cX3_idleOf 70 = .ok (.getfield 30, 3) := by decide +kernel
theorem dX3_idleOf_73 : decode cX3_idleOf 73 = .ok (.getfield 67, 3) := by decide +kernel
theorem dX3_idleOf_76 : decode cX3_idleOf 76 = .ok (.if_icmp .ge 48, 3) := by decide +kernel
theorem dX3_idleOf_79 : decode cX3_idleOf 79 = .ok (.aload_n 0, 1) := by decide +kernel
theorem dX3_idleOf_80 : decode cX3_idleOf 80 = .ok (.getfield 30, 3) := by decide +kernel
theorem dX3_idleOf_83 : decode cX3_idleOf 83 = .ok (.iload 11, 2) := by decide +kernel
theorem dX3_idleOf_85 : decode cX3_idleOf 85 = .ok (.lload 8, 2) := by decide +kernel
theorem dX3_idleOf_87 : decode cX3_idleOf 87 = .ok (.lload 4, 2) := by decide +kernel
theorem dX3_idleOf_89 : decode cX3_idleOf 89 = .ok (.land, 1) := by decide +kernel
theorem dX3_idleOf_90 : decode cX3_idleOf 90 = .ok (.iload_n 2, 1) := by decide +kernel
theorem dX3_idleOf_91 : decode cX3_idleOf 91 = .ok (.invokevirtual 153, 3) := by decide +kernel
theorem dX3_idleOf_94 : decode cX3_idleOf 94 = .ok (.ifCond .eq 24, 3) := by decide +kernel
theorem dX3_idleOf_97 : decode cX3_idleOf 97 = .ok (.aload_n 0, 1) := by decide +kernel
theorem dX3_idleOf_98 : decode cX3_idleOf 98 = .ok (.getfield 30, 3) := by decide +kernel
theorem dX3_idleOf_101 : decode cX3_idleOf 101 = .ok (.iload 11, 2) := by decide +kernel
theorem dX3_idleOf_103 : decode cX3_idleOf 103 = .ok (.lload 8, 2) := by decide +kernel
theorem dX3_idleOf_105 : decode cX3_idleOf 105 = .ok (.lload 6, 2) := by decide +kernel
theorem dX3_idleOf_107 : decode cX3_idleOf 107 = .ok (.land, 1) := by decide +kernel
theorem dX3_idleOf_108 : decode cX3_idleOf 108 = .ok (.iload_n 3, 1) := by decide +kernel
theorem dX3_idleOf_109 : decode cX3_idleOf 109 = .ok (.invokevirtual 153, 3) := by decide +kernel
theorem dX3_idleOf_112 : decode cX3_idleOf 112 = .ok (.ifCond .eq 6, 3) := by decide +kernel
theorem dX3_idleOf_115 : decode cX3_idleOf 115 = .ok (.iinc 10 1, 3) := by decide +kernel
theorem dX3_idleOf_118 : decode cX3_idleOf 118 = .ok (.iinc 11 1, 3) := by decide +kernel
theorem dX3_idleOf_121 : decode cX3_idleOf 121 = .ok (.goto (-54), 3) := by decide +kernel
theorem dX3_idleOf_124 : decode cX3_idleOf 124 = .ok (.iload 10, 2) := by decide +kernel
theorem dX3_idleOf_126 : decode cX3_idleOf 126 = .ok (.ireturn, 1) := by decide +kernel
theorem dX3_span_0 : decode cX3_span 0 = .ok (.iload_n 2, 1) := by decide +kernel
theorem dX3_span_1 : decode cX3_span 1 = .ok (.ifCond .lt 8, 3) := by decide +kernel
theorem dX3_span_4 : decode cX3_span 4 = .ok (.iload_n 2, 1) := by decide +kernel
theorem dX3_span_5 : decode cX3_span 5 = .ok (.iconst 4, 1) := by decide +kernel
theorem dX3_span_6 : decode cX3_span 6 = .ok (.if_icmp .lt 7, 3) := by decide +kernel
theorem dX3_span_9 : decode cX3_span 9 = .ok (.sipush (-1002), 3) := by decide +kernel
theorem dX3_span_12 : decode cX3_span 12 = .ok (.ireturn, 1) := by decide +kernel
theorem dX3_span_13 : decode cX3_span 13 = .ok (.aload_n 0, 1) := by decide +kernel
theorem dX3_span_14 : decode cX3_span 14 = .ok (.invokevirtual 199, 3) := by decide +kernel
theorem dX3_span_17 : decode cX3_span 17 = .ok (.iload_n 2, 1) := by decide +kernel
theorem dX3_span_18 : decode cX3_span 18 = .ok (.ifCond .ne 11, 3) := by decide +kernel
theorem dX3_span_21 : decode cX3_span 21 = .ok (.aload_n 0, 1) := by decide +kernel
theorem dX3_span_22 : decode cX3_span 22 = .ok (.getfield 44, 3) := by decide +kernel
theorem dX3_span_25 : decode cX3_span 25 = .ok (.getfield 202, 3) := by decide +kernel
theorem dX3_span_28 : decode cX3_span 28 = .ok (.ireturn, 1) := by decide +kernel
theorem dX3_span_29 : decode cX3_span 29 = .ok (.iload_n 1, 1) := by decide +kernel
theorem dX3_span_30 : decode cX3_span 30 = .ok (.ifCond .lt 14, 3) := by decide +kernel
theorem dX3_span_33 : decode cX3_span 33 = .ok (.iload_n 1, 1) := by decide +kernel
theorem dX3_span_34 : decode cX3_span 34 = .ok (.aload_n 0, 1) := by decide +kernel
theorem dX3_span_35 : decode cX3_span 35 = .ok (.getfield 44, 3) := by decide +kernel
theorem dX3_span_38 : decode cX3_span 38 = .ok (.getfield 202, 3) := by decide +kernel
theorem dX3_span_41 : decode cX3_span 41 = .ok (.if_icmp .lt 7, 3) := by decide +kernel
theorem dX3_span_44 : decode cX3_span 44 = .ok (.sipush (-1001), 3) := by decide +kernel
theorem dX3_span_47 : decode cX3_span 47 = .ok (.ireturn, 1) := by decide +kernel
theorem dX3_span_48 : decode cX3_span 48 = .ok (.aload_n 0, 1) := by decide +kernel
theorem dX3_span_49 : decode cX3_span 49 = .ok (.getfield 44, 3) := by decide +kernel
theorem dX3_span_52 : decode cX3_span 52 = .ok (.iload_n 1, 1) := by decide +kernel
theorem dX3_span_53 : decode cX3_span 53 = .ok (.iload_n 2, 1) := by decide +kernel
theorem dX3_span_54 : decode cX3_span 54 = .ok (.invokevirtual 203, 3) := by decide +kernel
theorem dX3_span_57 : decode cX3_span 57 = .ok (.ireturn, 1) := by decide +kernel
theorem dX3_cutSpans_0 : decode cX3_cutSpans 0 = .ok (.aload_n 0, 1) := by decide +kernel
theorem dX3_cutSpans_1 : decode cX3_cutSpans 1 = .ok (.getfield 44, 3) := by decide +kernel
theorem dX3_cutSpans_4 : decode cX3_cutSpans 4 = .ok (.iconst 0, 1) := by decide +kernel
theorem dX3_cutSpans_5 : decode cX3_cutSpans 5 = .ok (.putfield 202, 3) := by decide +kernel
theorem dX3_cutSpans_8 : decode cX3_cutSpans 8 = .ok (.iconst 0, 1) := by decide +kernel
theorem dX3_cutSpans_9 : decode cX3_cutSpans 9 = .ok (.istore_n 1, 1) := by decide +kernel
theorem dX3_cutSpans_10 : decode cX3_cutSpans 10 = .ok (.iload_n 1, 1) := by decide +kernel
theorem dX3_cutSpans_11 : decode cX3_cutSpans 11 = .ok (.aload_n 0, 1) := by decide +kernel
theorem dX3_cutSpans_12 : decode cX3_cutSpans 12 = .ok (.getfield 30, 3) := by decide +kernel
theorem dX3_cutSpans_15 : decode cX3_cutSpans 15 = .ok (.getfield 67, 3) := by decide +kernel
theorem dX3_cutSpans_18 : decode cX3_cutSpans 18 = .ok (.if_icmp .ge 29, 3) := by decide +kernel
theorem dX3_cutSpans_21 : decode cX3_cutSpans 21 = .ok (.aload_n 0, 1) := by decide +kernel
theorem dX3_cutSpans_22 : decode cX3_cutSpans 22 = .ok (.iload_n 1, 1) := by decide +kernel
theorem dX3_cutSpans_23 : decode cX3_cutSpans 23 = .ok (.invokevirtual 181, 3) := by decide +kernel
theorem dX3_cutSpans_26 : decode cX3_cutSpans 26 = .ok (.istore_n 2, 1) := by decide +kernel
theorem dX3_cutSpans_27 : decode cX3_cutSpans 27 = .ok (.iload_n 2, 1) := by decide +kernel
theorem dX3_cutSpans_28 : decode cX3_cutSpans 28 = .ok (.iconst 3, 1) := by decide +kernel
theorem dX3_cutSpans_29 : decode cX3_cutSpans 29 = .ok (.if_icmp .eq 12, 3) := by decide +kernel
theorem dX3_cutSpans_32 : decode cX3_cutSpans 32 = .ok (.aload_n 0, 1) := by decide +kernel
theorem dX3_cutSpans_33 : decode cX3_cutSpans 33 = .ok (.getfield 44, 3) := by decide +kernel
theorem dX3_cutSpans_36 : decode cX3_cutSpans 36 = .ok (.iload_n 1, 1) := by decide +kernel
theorem dX3_cutSpans_37 : decode cX3_cutSpans 37 = .ok (.iload_n 2, 1) := by decide +kernel
theorem dX3_cutSpans_38 : decode cX3_cutSpans 38 = .ok (.invokevirtual 206, 3) := by decide +kernel
theorem dX3_cutSpans_41 : decode cX3_cutSpans 41 = .ok (.iinc 1 1, 3) := by decide +kernel
theorem dX3_cutSpans_44 : decode cX3_cutSpans 44 = .ok (.goto (-34), 3) := by decide +kernel
theorem dX3_cutSpans_47 : decode cX3_cutSpans 47 = .ok (.return_, 1) := by decide +kernel
theorem dX3_found_0 : decode cX3_found 0 = .ok (.iload_n 1, 1) := by decide +kernel
theorem dX3_found_1 : decode cX3_found 1 = .ok (.ifCond .lt 8, 3) := by decide +kernel
theorem dX3_found_4 : decode cX3_found 4 = .ok (.iload_n 1, 1) := by decide +kernel
theorem dX3_found_5 : decode cX3_found 5 = .ok (.iconst 2, 1) := by decide +kernel
theorem dX3_found_6 : decode cX3_found 6 = .ok (.if_icmp .lt 7, 3) := by decide +kernel
theorem dX3_found_9 : decode cX3_found 9 = .ok (.sipush (-1002), 3) := by decide +kernel
theorem dX3_found_12 : decode cX3_found 12 = .ok (.ireturn, 1) := by decide +kernel
theorem dX3_found_13 : decode cX3_found 13 = .ok (.aload_n 0, 1) := by decide +kernel
theorem dX3_found_14 : decode cX3_found 14 = .ok (.invokevirtual 209, 3) := by decide +kernel
theorem dX3_found_17 : decode cX3_found 17 = .ok (.iload_n 1, 1) := by decide +kernel
theorem dX3_found_18 : decode cX3_found 18 = .ok (.ifCond .ne 10, 3) := by decide +kernel
theorem dX3_found_21 : decode cX3_found 21 = .ok (.aload_n 0, 1) := by decide +kernel
theorem dX3_found_22 : decode cX3_found 22 = .ok (.getfield 51, 3) := by decide +kernel
theorem dX3_found_25 : decode cX3_found 25 = .ok (.goto 7, 3) := by decide +kernel
theorem dX3_found_28 : decode cX3_found 28 = .ok (.aload_n 0, 1) := by decide +kernel
theorem dX3_found_29 : decode cX3_found 29 = .ok (.getfield 54, 3) := by decide +kernel
theorem dX3_found_32 : decode cX3_found 32 = .ok (.ireturn, 1) := by decide +kernel
theorem dX3_seekPage_0 : decode cX3_seekPage 0 = .ok (.aload_n 0, 1) := by decide +kernel
theorem dX3_seekPage_1 : decode cX3_seekPage 1 = .ok (.getfield 37, 3) := by decide +kernel
theorem dX3_seekPage_4 : decode cX3_seekPage 4 = .ok (.iconst 1, 1) := by decide +kernel
theorem dX3_seekPage_5 : decode cX3_seekPage 5 = .ok (.invokevirtual 137, 3) := by decide +kernel
theorem dX3_seekPage_8 : decode cX3_seekPage 8 = .ok (.istore_n 1, 1) := by decide +kernel
theorem dX3_seekPage_9 : decode cX3_seekPage 9 = .ok (.aload_n 0, 1) := by decide +kernel
theorem dX3_seekPage_10 : decode cX3_seekPage 10 = .ok (.getfield 37, 3) := by decide +kernel
theorem dX3_seekPage_13 : decode cX3_seekPage 13 = .ok (.iconst 0, 1) := by decide +kernel
theorem dX3_seekPage_14 : decode cX3_seekPage 14 = .ok (.invokevirtual 137, 3) := by decide +kernel
theorem dX3_seekPage_17 : decode cX3_seekPage 17 = .ok (.istore_n 2, 1) := by decide +kernel
theorem dX3_seekPage_18 : decode cX3_seekPage 18 = .ok (.aload_n 0, 1) := by decide +kernel
theorem dX3_seekPage_19 : decode cX3_seekPage 19 = .ok (.iconst 0, 1) := by decide +kernel
theorem dX3_seekPage_20 : decode cX3_seekPage 20 = .ok (.putfield 51, 3) := by decide +kernel
theorem dX3_seekPage_23 : decode cX3_seekPage 23 = .ok (.aload_n 0, 1) := by decide +kernel
theorem dX3_seekPage_24 : decode cX3_seekPage 24 = .ok (.iconst (-1), 1) := by decide +kernel
theorem dX3_seekPage_25 : decode cX3_seekPage 25 = .ok (.putfield 54, 3) := by decide +kernel
theorem dX3_seekPage_28 : decode cX3_seekPage 28 = .ok (.iconst 0, 1) := by decide +kernel
theorem dX3_seekPage_29 : decode cX3_seekPage 29 = .ok (.istore_n 3, 1) := by decide +kernel
theorem dX3_seekPage_30 : decode cX3_seekPage 30 = .ok (.iload_n 3, 1) := by decide +kernel
theorem dX3_seekPage_31 : decode cX3_seekPage 31 = .ok (.iload_n 2, 1) := by decide +kernel
theorem dX3_seekPage_32 : decode cX3_seekPage 32 = .ok (.if_icmp .gt 64, 3) := by decide +kernel
theorem dX3_seekPage_35 : decode cX3_seekPage 35 = .ok (.iload_n 3, 1) := by decide +kernel
theorem dX3_seekPage_36 : decode cX3_seekPage 36 = .ok (.iload_n 2, 1) := by decide +kernel
theorem dX3_seekPage_37 : decode cX3_seekPage 37 = .ok (.iconst (-1), 1) := by decide +kernel
theorem dX3_seekPage_38 : decode cX3_seekPage 38 = .ok (.ixor, 1) := by decide +kernel
theorem dX3_seekPage_39 : decode cX3_seekPage 39 = .ok (.iand, 1) := by decide +kernel
theorem dX3_seekPage_40 : decode cX3_seekPage 40 = .ok (.ifCond .ne 50, 3) := by decide +kernel
theorem dX3_seekPage_43 : decode cX3_seekPage 43 = .ok (.aload_n 0, 1) := by decide +kernel
theorem dX3_seekPage_44 : decode cX3_seekPage 44 = .ok (.iload_n 1, 1) := by decide +kernel
theorem dX3_seekPage_45 : decode cX3_seekPage 45 = .ok (.iload_n 3, 1) := by decide +kernel
theorem dX3_seekPage_46 : decode cX3_seekPage 46 = .ok (.ior, 1) := by decide +kernel
theorem dX3_seekPage_47 : decode cX3_seekPage 47 = .ok (.invokevirtual 212, 3) := by decide +kernel
theorem dX3_seekPage_50 : decode cX3_seekPage 50 = .ok (.ifCond .eq 40, 3) := by decide +kernel
theorem dX3_seekPage_53 : decode cX3_seekPage 53 = .ok (.aload_n 0, 1) := by decide +kernel
theorem dX3_seekPage_54 : decode cX3_seekPage 54 = .ok (.dup, 1) := by decide +kernel
theorem dX3_seekPage_55 : decode cX3_seekPage 55 = .ok (.getfield 51, 3) := by decide +kernel
theorem dX3_seekPage_58 : decode cX3_seekPage 58 = .ok (.iconst 1, 1) := by decide +kernel
theorem dX3_seekPage_59 : decode cX3_seekPage 59 = .ok (.iadd, 1) := by decide +kernel
theorem dX3_seekPage_60 : decode cX3_seekPage 60 = .ok (.putfield 51, 3) := by decide +kernel
theorem dX3_seekPage_63 : decode cX3_seekPage 63 = .ok (.aload_n 0, 1) := by decide +kernel
theorem dX3_seekPage_64 : decode cX3_seekPage 64 = .ok (.getfield 54, 3) := by decide +kernel
theorem dX3_seekPage_67 : decode cX3_seekPage 67 = .ok (.iconst (-1), 1) := by decide +kernel
theorem dX3_seekPage_68 : decode cX3_seekPage 68 = .ok (.if_icmp .eq 17, 3) := by decide +kernel
theorem dX3_seekPage_71 : decode cX3_seekPage 71 = .ok (.iload_n 3, 1) := by decide +kernel
theorem dX3_seekPage_72 : decode cX3_seekPage 72 = .ok (.invokestatic 215, 3) := by decide +kernel
theorem dX3_seekPage_75 : decode cX3_seekPage 75 = .ok (.aload_n 0, 1) := by decide +kernel
theorem dX3_seekPage_76 : decode cX3_seekPage 76 = .ok (.getfield 54, 3) := by decide +kernel
theorem dX3_seekPage_79 : decode cX3_seekPage 79 = .ok (.invokestatic 215, 3) := by decide +kernel
theorem dX3_seekPage_82 : decode cX3_seekPage 82 = .ok (.if_icmp .ge 8, 3) := by decide +kernel
theorem dX3_seekPage_85 : decode cX3_seekPage 85 = .ok (.aload_n 0, 1) := by decide +kernel
theorem dX3_seekPage_86 : decode cX3_seekPage 86 = .ok (.iload_n 3, 1) := by decide +kernel
theorem dX3_seekPage_87 : decode cX3_seekPage 87 = .ok (.putfield 54, 3) := by decide +kernel
theorem dX3_seekPage_90 : decode cX3_seekPage 90 = .ok (.iinc 3 1, 3) := by decide +kernel
theorem dX3_seekPage_93 : decode cX3_seekPage 93 = .ok (.goto (-63), 3) := by decide +kernel
theorem dX3_seekPage_96 : decode cX3_seekPage 96 = .ok (.return_, 1) := by decide +kernel
theorem dX3_count_0 : decode cX3_count 0 = .ok (.iload_n 1, 1) := by decide +kernel
theorem dX3_count_1 : decode cX3_count 1 = .ok (.tableswitch 138 0 8 #[51, 56, 61, 69, 77, 89, 101, 128, 133], 51) := by decide +kernel
theorem dX3_count_52 : decode cX3_count 52 = .ok (.aload_n 0, 1) := by decide +kernel
theorem dX3_count_53 : decode cX3_count 53 = .ok (.getfield 13, 3) := by decide +kernel
theorem dX3_count_56 : decode cX3_count 56 = .ok (.ireturn, 1) := by decide +kernel
theorem dX3_count_57 : decode cX3_count 57 = .ok (.aload_n 0, 1) := by decide +kernel
theorem dX3_count_58 : decode cX3_count 58 = .ok (.getfield 20, 3) := by decide +kernel
theorem dX3_count_61 : decode cX3_count 61 = .ok (.ireturn, 1) := by decide +kernel
theorem dX3_count_62 : decode cX3_count 62 = .ok (.aload_n 0, 1) := by decide +kernel
theorem dX3_count_63 : decode cX3_count 63 = .ok (.getfield 30, 3) := by decide +kernel
theorem dX3_count_66 : decode cX3_count 66 = .ok (.getfield 67, 3) := by decide +kernel
theorem dX3_count_69 : decode cX3_count 69 = .ok (.ireturn, 1) := by decide +kernel
theorem dX3_count_70 : decode cX3_count 70 = .ok (.aload_n 0, 1) := by decide +kernel
theorem dX3_count_71 : decode cX3_count 71 = .ok (.getfield 37, 3) := by decide +kernel
theorem dX3_count_74 : decode cX3_count 74 = .ok (.getfield 70, 3) := by decide +kernel
theorem dX3_count_77 : decode cX3_count 77 = .ok (.ireturn, 1) := by decide +kernel
theorem dX3_count_78 : decode cX3_count 78 = .ok (.aload_n 0, 1) := by decide +kernel
theorem dX3_count_79 : decode cX3_count 79 = .ok (.getfield 37, 3) := by decide +kernel
theorem dX3_count_82 : decode cX3_count 82 = .ok (.iconst 0, 1) := by decide +kernel
theorem dX3_count_83 : decode cX3_count 83 = .ok (.invokevirtual 137, 3) := by decide +kernel
theorem dX3_count_86 : decode cX3_count 86 = .ok (.invokestatic 215, 3) := by decide +kernel
theorem dX3_count_89 : decode cX3_count 89 = .ok (.ireturn, 1) := by decide +kernel
theorem dX3_count_90 : decode cX3_count 90 = .ok (.aload_n 0, 1) := by decide +kernel
theorem dX3_count_91 : decode cX3_count 91 = .ok (.getfield 37, 3) := by decide +kernel
theorem dX3_count_94 : decode cX3_count 94 = .ok (.iconst 1, 1) := by decide +kernel
theorem dX3_count_95 : decode cX3_count 95 = .ok (.invokevirtual 137, 3) := by decide +kernel
theorem dX3_count_98 : decode cX3_count 98 = .ok (.invokestatic 215, 3) := by decide +kernel
theorem dX3_count_101 : decode cX3_count 101 = .ok (.ireturn, 1) := by decide +kernel
theorem dX3_count_102 : decode cX3_count 102 = .ok (.aload_n 0, 1) := by decide +kernel
theorem dX3_count_103 : decode cX3_count 103 = .ok (.getfield 30, 3) := by decide +kernel
theorem dX3_count_106 : decode cX3_count 106 = .ok (.aload_n 0, 1) := by decide +kernel
theorem dX3_count_107 : decode cX3_count 107 = .ok (.getfield 37, 3) := by decide +kernel
theorem dX3_count_110 : decode cX3_count 110 = .ok (.iconst 0, 1) := by decide +kernel
theorem dX3_count_111 : decode cX3_count 111 = .ok (.invokevirtual 137, 3) := by decide +kernel
theorem dX3_count_114 : decode cX3_count 114 = .ok (.invokevirtual 219, 3) := by decide +kernel
theorem dX3_count_117 : decode cX3_count 117 = .ok (.aload_n 0, 1) := by decide +kernel
theorem dX3_count_118 : decode cX3_count 118 = .ok (.getfield 37, 3) := by decide +kernel
theorem dX3_count_121 : decode cX3_count 121 = .ok (.invokevirtual 222, 3) := by decide +kernel
theorem dX3_count_124 : decode cX3_count 124 = .ok (.lor, 1) := by decide +kernel
theorem dX3_count_125 : decode cX3_count 125 = .ok (.invokestatic 157, 3) := by decide +kernel
theorem dX3_count_128 : decode cX3_count 128 = .ok (.ireturn, 1) := by decide +kernel
theorem dX3_count_129 : decode cX3_count 129 = .ok (.aload_n 0, 1) := by decide +kernel
theorem dX3_count_130 : decode cX3_count 130 = .ok (.getfield 57, 3) := by decide +kernel
theorem dX3_count_133 : decode cX3_count 133 = .ok (.ireturn, 1) := by decide +kernel
theorem dX3_count_134 : decode cX3_count 134 = .ok (.aload_n 0, 1) := by decide +kernel
theorem dX3_count_135 : decode cX3_count 135 = .ok (.getfield 60, 3) := by decide +kernel
theorem dX3_count_138 : decode cX3_count 138 = .ok (.ireturn, 1) := by decide +kernel
theorem dX3_count_139 : decode cX3_count 139 = .ok (.sipush (-1002), 3) := by decide +kernel
theorem dX3_count_142 : decode cX3_count 142 = .ok (.ireturn, 1) := by decide +kernel
theorem dX3_digest_0 : decode cX3_digest 0 = .ok (.ldc2_w 226, 3) := by decide +kernel
theorem dX3_digest_3 : decode cX3_digest 3 = .ok (.lstore_n 1, 1) := by decide +kernel
theorem dX3_digest_4 : decode cX3_digest 4 = .ok (.iconst 0, 1) := by decide +kernel
theorem dX3_digest_5 : decode cX3_digest 5 = .ok (.istore_n 3, 1) := by decide +kernel
theorem dX3_digest_6 : decode cX3_digest 6 = .ok (.iload_n 3, 1) := by decide +kernel
theorem dX3_digest_7 : decode cX3_digest 7 = .ok (.bipush 6, 2) := by decide +kernel
theorem dX3_digest_9 : decode cX3_digest 9 = .ok (.if_icmp .ge 16, 3) := by decide +kernel
theorem dX3_digest_12 : decode cX3_digest 12 = .ok (.aload_n 0, 1) := by decide +kernel
theorem dX3_digest_13 : decode cX3_digest 13 = .ok (.lload_n 1, 1) := by decide +kernel
theorem dX3_digest_14 : decode cX3_digest 14 = .ok (.iload_n 3, 1) := by decide +kernel
theorem dX3_digest_15 : decode cX3_digest 15 = .ok (.invokevirtual 228, 3) := by decide +kernel
theorem dX3_digest_18 : decode cX3_digest 18 = .ok (.lstore_n 1, 1) := by decide +kernel
theorem dX3_digest_19 : decode cX3_digest 19 = .ok (.iinc 3 1, 3) := by decide +kernel
theorem dX3_digest_22 : decode cX3_digest 22 = .ok (.goto (-16), 3) := by decide +kernel
theorem dX3_digest_25 : decode cX3_digest 25 = .ok (.aload_n 0, 1) := by decide +kernel
theorem dX3_digest_26 : decode cX3_digest 26 = .ok (.lload_n 1, 1) := by decide +kernel
theorem dX3_digest_27 : decode cX3_digest 27 = .ok (.invokevirtual 232, 3) := by decide +kernel
theorem dX3_digest_30 : decode cX3_digest 30 = .ok (.lstore_n 1, 1) := by decide +kernel
theorem dX3_digest_31 : decode cX3_digest 31 = .ok (.aload_n 0, 1) := by decide +kernel
theorem dX3_digest_32 : decode cX3_digest 32 = .ok (.lload_n 1, 1) := by decide +kernel
theorem dX3_digest_33 : decode cX3_digest 33 = .ok (.invokevirtual 236, 3) := by decide +kernel
theorem dX3_digest_36 : decode cX3_digest 36 = .ok (.lstore_n 1, 1) := by decide +kernel
theorem dX3_digest_37 : decode cX3_digest 37 = .ok (.aload_n 0, 1) := by decide +kernel
theorem dX3_digest_38 : decode cX3_digest 38 = .ok (.lload_n 1, 1) := by decide +kernel
theorem dX3_digest_39 : decode cX3_digest 39 = .ok (.invokevirtual 239, 3) := by decide +kernel
theorem dX3_digest_42 : decode cX3_digest 42 = .ok (.lstore_n 1, 1) := by decide +kernel
theorem dX3_digest_43 : decode cX3_digest 43 = .ok (.aload_n 0, 1) := by decide +kernel
theorem dX3_digest_44 : decode cX3_digest 44 = .ok (.invokevirtual 209, 3) := by decide +kernel
theorem dX3_digest_47 : decode cX3_digest 47 = .ok (.lload_n 1, 1) := by decide +kernel
theorem dX3_digest_48 : decode cX3_digest 48 = .ok (.aload_n 0, 1) := by decide +kernel
theorem dX3_digest_49 : decode cX3_digest 49 = .ok (.getfield 51, 3) := by decide +kernel
theorem dX3_digest_52 : decode cX3_digest 52 = .ok (.invokestatic 242, 3) := by decide +kernel
theorem dX3_digest_55 : decode cX3_digest 55 = .ok (.lstore_n 1, 1) := by decide +kernel
theorem dX3_digest_56 : decode cX3_digest 56 = .ok (.lload_n 1, 1) := by decide +kernel
theorem dX3_digest_57 : decode cX3_digest 57 = .ok (.aload_n 0, 1) := by decide +kernel
theorem dX3_digest_58 : decode cX3_digest 58 = .ok (.getfield 54, 3) := by decide +kernel
theorem dX3_digest_61 : decode cX3_digest 61 = .ok (.invokestatic 242, 3) := by decide +kernel
theorem dX3_digest_64 : decode cX3_digest 64 = .ok (.lstore_n 1, 1) := by decide +kernel
theorem dX3_digest_65 : decode cX3_digest 65 = .ok (.iconst 0, 1) := by decide +kernel
theorem dX3_digest_66 : decode cX3_digest 66 = .ok (.istore_n 3, 1) := by decide +kernel
theorem dX3_digest_67 : decode cX3_digest 67 = .ok (.iload_n 3, 1) := by decide +kernel
theorem dX3_digest_68 : decode cX3_digest 68 = .ok (.aload_n 0, 1) := by decide +kernel
theorem dX3_digest_69 : decode cX3_digest 69 = .ok (.getfield 13, 3) := by decide +kernel
theorem dX3_digest_72 : decode cX3_digest 72 = .ok (.if_icmp .ge 20, 3) := by decide +kernel
theorem dX3_digest_75 : decode cX3_digest 75 = .ok (.lload_n 1, 1) := by decide +kernel
theorem dX3_digest_76 : decode cX3_digest 76 = .ok (.aload_n 0, 1) := by decide +kernel
theorem dX3_digest_77 : decode cX3_digest 77 = .ok (.getfield 9, 3) := by decide +kernel
theorem dX3_digest_80 : decode cX3_digest 80 = .ok (.iload_n 3, 1) := by decide +kernel
theorem dX3_digest_81 : decode cX3_digest 81 = .ok (.iaload, 1) := by decide +kernel
theorem dX3_digest_82 : decode cX3_digest 82 = .ok (.invokestatic 242, 3) := by decide +kernel
theorem dX3_digest_85 : decode cX3_digest 85 = .ok (.lstore_n 1, 1) := by decide +kernel
theorem dX3_digest_86 : decode cX3_digest 86 = .ok (.iinc 3 1, 3) := by decide +kernel
theorem dX3_digest_89 : decode cX3_digest 89 = .ok (.goto (-22), 3) := by decide +kernel
theorem dX3_digest_92 : decode cX3_digest 92 = .ok (.iconst 0, 1) := by decide +kernel
theorem dX3_digest_93 : decode cX3_digest 93 = .ok (.istore_n 3, 1) := by decide +kernel
theorem dX3_digest_94 : decode cX3_digest 94 = .ok (.iload_n 3, 1) := by decide +kernel
theorem dX3_digest_95 : decode cX3_digest 95 = .ok (.bipush 9, 2) := by decide +kernel
theorem dX3_digest_97 : decode cX3_digest 97 = .ok (.if_icmp .ge 19, 3) := by decide +kernel
theorem dX3_digest_100 : decode cX3_digest 100 = .ok (.lload_n 1, 1) := by decide +kernel
theorem dX3_digest_101 : decode cX3_digest 101 = .ok (.aload_n 0, 1) := by decide +kernel
theorem dX3_digest_102 : decode cX3_digest 102 = .ok (.iload_n 3, 1) := by decide +kernel
theorem dX3_digest_103 : decode cX3_digest 103 = .ok (.invokevirtual 245, 3) := by decide +kernel
theorem dX3_digest_106 : decode cX3_digest 106 = .ok (.invokestatic 242, 3) := by decide +kernel
theorem dX3_digest_109 : decode cX3_digest 109 = .ok (.lstore_n 1, 1) := by decide +kernel
theorem dX3_digest_110 : decode cX3_digest 110 = .ok (.iinc 3 1, 3) := by decide +kernel
theorem dX3_digest_113 : decode cX3_digest 113 = .ok (.goto (-19), 3) := by decide +kernel
theorem dX3_digest_116 : decode cX3_digest 116 = .ok (.lload_n 1, 1) := by decide +kernel
theorem dX3_digest_117 : decode cX3_digest 117 = .ok (.lreturn, 1) := by decide +kernel
theorem dX3_with_0 : decode cX3_with 0 = .ok (.ldc2_w 248, 3) := by decide +kernel
theorem dX3_with_3 : decode cX3_with 3 = .ok (.lload_n 0, 1) := by decide +kernel
theorem dX3_with_4 : decode cX3_with 4 = .ok (.lmul, 1) := by decide +kernel
theorem dX3_with_5 : decode cX3_with 5 = .ok (.iload_n 2, 1) := by decide +kernel
theorem dX3_with_6 : decode cX3_with 6 = .ok (.i2l, 1) := by decide +kernel
theorem dX3_with_7 : decode cX3_with 7 = .ok (.ladd, 1) := by decide +kernel
theorem dX3_with_8 : decode cX3_with 8 = .ok (.lreturn, 1) := by decide +kernel
theorem dX3_withView_0 : decode cX3_withView 0 = .ok (.aload_n 0, 1) := by decide +kernel
theorem dX3_withView_1 : decode cX3_withView 1 = .ok (.aload_n 0, 1) := by decide +kernel
theorem dX3_withView_2 : decode cX3_withView 2 = .ok (.iload_n 3, 1) := by decide +kernel
theorem dX3_withView_3 : decode cX3_withView 3 = .ok (.invokevirtual 93, 3) := by decide +kernel
theorem dX3_withView_6 : decode cX3_withView 6 = .ok (.invokevirtual 97, 3) := by decide +kernel
theorem dX3_withView_9 : decode cX3_withView 9 = .ok (.istore 4, 2) := by decide +kernel
theorem dX3_withView_11 : decode cX3_withView 11 = .ok (.lload_n 1, 1) := by decide +kernel
theorem dX3_withView_12 : decode cX3_withView 12 = .ok (.iload 4, 2) := by decide +kernel
theorem dX3_withView_14 : decode cX3_withView 14 = .ok (.invokestatic 242, 3) := by decide +kernel
theorem dX3_withView_17 : decode cX3_withView 17 = .ok (.lstore 5, 2) := by decide +kernel
theorem dX3_withView_19 : decode cX3_withView 19 = .ok (.iconst 0, 1) := by decide +kernel
theorem dX3_withView_20 : decode cX3_withView 20 = .ok (.istore 7, 2) := by decide +kernel
theorem dX3_withView_22 : decode cX3_withView 22 = .ok (.iload 7, 2) := by decide +kernel
theorem dX3_withView_24 : decode cX3_withView 24 = .ok (.iload 4, 2) := by decide +kernel
theorem dX3_withView_26 : decode cX3_withView 26 = .ok (.if_icmp .ge 45, 3) := by decide +kernel
theorem dX3_withView_29 : decode cX3_withView 29 = .ok (.iconst 0, 1) := by decide +kernel
theorem dX3_withView_30 : decode cX3_withView 30 = .ok (.istore 8, 2) := by decide +kernel
theorem dX3_withView_32 : decode cX3_withView 32 = .ok (.iload 8, 2) := by decide +kernel
theorem dX3_withView_34 : decode cX3_withView 34 = .ok (.bipush 6, 2) := by decide +kernel
theorem dX3_withView_36 : decode cX3_withView 36 = .ok (.if_icmp .ge 29, 3) := by decide +kernel
theorem dX3_withView_39 : decode cX3_withView 39 = .ok (.lload 5, 2) := by decide +kernel
theorem dX3_withView_41 : decode cX3_withView 41 = .ok (.aload_n 0, 1) := by decide +kernel
theorem dX3_withView_42 : decode cX3_withView 42 = .ok (.aload_n 0, 1) := by decide +kernel
theorem dX3_withView_43 : decode cX3_withView 43 = .ok (.getfield 48, 3) := by decide +kernel
theorem dX3_withView_46 : decode cX3_withView 46 = .ok (.iload 7, 2) := by decide +kernel
theorem dX3_withView_48 : decode cX3_withView 48 = .ok (.iaload, 1) := by decide +kernel
theorem dX3_withView_49 : decode cX3_withView 49 = .ok (.iload 8, 2) := by decide +kernel
theorem dX3_withView_51 : decode cX3_withView 51 = .ok (.invokevirtual 166, 3) := by decide +kernel
theorem dX3_withView_54 : decode cX3_withView 54 = .ok (.invokestatic 242, 3) := by decide +kernel
theorem dX3_withView_57 : decode cX3_withView 57 = .ok (.lstore 5, 2) := by decide +kernel
theorem dX3_withView_59 : decode cX3_withView 59 = .ok (.iinc 8 1, 3) := by decide +kernel
theorem dX3_withView_62 : decode cX3_withView 62 = .ok (.goto (-30), 3) := by decide +kernel
theorem dX3_withView_65 : decode cX3_withView 65 = .ok (.iinc 7 1, 3) := by decide +kernel
theorem dX3_withView_68 : decode cX3_withView 68 = .ok (.goto (-46), 3) := by decide +kernel
theorem dX3_withView_71 : decode cX3_withView 71 = .ok (.lload 5, 2) := by decide +kernel
theorem dX3_withView_73 : decode cX3_withView 73 = .ok (.lreturn, 1) := by decide +kernel
theorem dX3_withPlaces_0 : decode cX3_withPlaces 0 = .ok (.lload_n 1, 1) := by decide +kernel
theorem dX3_withPlaces_1 : decode cX3_withPlaces 1 = .ok (.lstore_n 3, 1) := by decide +kernel
theorem dX3_withPlaces_2 : decode cX3_withPlaces 2 = .ok (.iconst 0, 1) := by decide +kernel
theorem dX3_withPlaces_3 : decode cX3_withPlaces 3 = .ok (.istore 5, 2) := by decide +kernel
theorem dX3_withPlaces_5 : decode cX3_withPlaces 5 = .ok (.iload 5, 2) := by decide +kernel
theorem dX3_withPlaces_7 : decode cX3_withPlaces 7 = .ok (.aload_n 0, 1) := by decide +kernel
theorem dX3_withPlaces_8 : decode cX3_withPlaces 8 = .ok (.getfield 30, 3) := by decide +kernel
theorem dX3_withPlaces_11 : decode cX3_withPlaces 11 = .ok (.getfield 67, 3) := by decide +kernel
theorem dX3_withPlaces_14 : decode cX3_withPlaces 14 = .ok (.if_icmp .ge 37, 3) := by decide +kernel
theorem dX3_withPlaces_17 : decode cX3_withPlaces 17 = .ok (.iconst 0, 1) := by decide +kernel
theorem dX3_withPlaces_18 : decode cX3_withPlaces 18 = .ok (.istore 6, 2) := by decide +kernel
theorem dX3_withPlaces_20 : decode cX3_withPlaces 20 = .ok (.iload 6, 2) := by decide +kernel
theorem dX3_withPlaces_22 : decode cX3_withPlaces 22 = .ok (.iconst 4, 1) := by decide +kernel
theorem dX3_withPlaces_23 : decode cX3_withPlaces 23 = .ok (.if_icmp .ge 22, 3) := by decide +kernel
theorem dX3_withPlaces_26 : decode cX3_withPlaces 26 = .ok (.lload_n 3, 1) := by decide +kernel
theorem dX3_withPlaces_27 : decode cX3_withPlaces 27 = .ok (.aload_n 0, 1) := by decide +kernel
theorem dX3_withPlaces_28 : decode cX3_withPlaces 28 = .ok (.iload 5, 2) := by decide +kernel
theorem dX3_withPlaces_30 : decode cX3_withPlaces 30 = .ok (.iload 6, 2) := by decide +kernel
theorem dX3_withPlaces_32 : decode cX3_withPlaces 32 = .ok (.invokevirtual 175, 3) := by decide +kernel
theorem dX3_withPlaces_35 : decode cX3_withPlaces 35 = .ok (.invokestatic 242, 3) := by decide +kernel
theorem dX3_withPlaces_38 : decode cX3_withPlaces 38 = .ok (.lstore_n 3, 1) := by decide +kernel
theorem dX3_withPlaces_39 : decode cX3_withPlaces 39 = .ok (.iinc 6 1, 3) := by decide +kernel
theorem dX3_withPlaces_42 : decode cX3_withPlaces 42 = .ok (.goto (-22), 3) := by decide +kernel
theorem dX3_withPlaces_45 : decode cX3_withPlaces 45 = .ok (.iinc 5 1, 3) := by decide +kernel
theorem dX3_withPlaces_48 : decode cX3_withPlaces 48 = .ok (.goto (-43), 3) := by decide +kernel
theorem dX3_withPlaces_51 : decode cX3_withPlaces 51 = .ok (.lload_n 3, 1) := by decide +kernel
theorem dX3_withPlaces_52 : decode cX3_withPlaces 52 = .ok (.lreturn, 1) := by decide +kernel
theorem dX3_withChanges_0 : decode cX3_withChanges 0 = .ok (.lload_n 1, 1) := by decide +kernel
theorem dX3_withChanges_1 : decode cX3_withChanges 1 = .ok (.lstore_n 3, 1) := by decide +kernel
theorem dX3_withChanges_2 : decode cX3_withChanges 2 = .ok (.iconst 0, 1) := by decide +kernel
theorem dX3_withChanges_3 : decode cX3_withChanges 3 = .ok (.istore 5, 2) := by decide +kernel
theorem dX3_withChanges_5 : decode cX3_withChanges 5 = .ok (.iload 5, 2) := by decide +kernel
theorem dX3_withChanges_7 : decode cX3_withChanges 7 = .ok (.aload_n 0, 1) := by decide +kernel
theorem dX3_withChanges_8 : decode cX3_withChanges 8 = .ok (.getfield 37, 3) := by decide +kernel
theorem dX3_withChanges_11 : decode cX3_withChanges 11 = .ok (.getfield 70, 3) := by decide +kernel
theorem dX3_withChanges_14 : decode cX3_withChanges 14 = .ok (.if_icmp .ge 38, 3) := by decide +kernel
theorem dX3_withChanges_17 : decode cX3_withChanges 17 = .ok (.iconst 0, 1) := by decide +kernel
theorem dX3_withChanges_18 : decode cX3_withChanges 18 = .ok (.istore 6, 2) := by decide +kernel
theorem dX3_withChanges_20 : decode cX3_withChanges 20 = .ok (.iload 6, 2) := by decide +kernel
theorem dX3_withChanges_22 : decode cX3_withChanges 22 = .ok (.bipush 7, 2) := by decide +kernel
theorem dX3_withChanges_24 : decode cX3_withChanges 24 = .ok (.if_icmp .ge 22, 3) := by decide +kernel
theorem dX3_withChanges_27 : decode cX3_withChanges 27 = .ok (.lload_n 3, 1) := by decide +kernel
theorem dX3_withChanges_28 : decode cX3_withChanges 28 = .ok (.aload_n 0, 1) := by decide +kernel
theorem dX3_withChanges_29 : decode cX3_withChanges 29 = .ok (.iload 5, 2) := by decide +kernel
theorem dX3_withChanges_31 : decode cX3_withChanges 31 = .ok (.iload 6, 2) := by decide +kernel
theorem dX3_withChanges_33 : decode cX3_withChanges 33 = .ok (.invokevirtual 184, 3) := by decide +kernel
theorem dX3_withChanges_36 : decode cX3_withChanges 36 = .ok (.invokestatic 242, 3) := by decide +kernel
theorem dX3_withChanges_39 : decode cX3_withChanges 39 = .ok (.lstore_n 3, 1) := by decide +kernel
theorem dX3_withChanges_40 : decode cX3_withChanges 40 = .ok (.iinc 6 1, 3) := by decide +kernel
theorem dX3_withChanges_43 : decode cX3_withChanges 43 = .ok (.goto (-23), 3) := by decide +kernel
theorem dX3_withChanges_46 : decode cX3_withChanges 46 = .ok (.iinc 5 1, 3) := by decide +kernel
theorem dX3_withChanges_49 : decode cX3_withChanges 49 = .ok (.goto (-44), 3) := by decide +kernel
theorem dX3_withChanges_52 : decode cX3_withChanges 52 = .ok (.lload_n 3, 1) := by decide +kernel
theorem dX3_withChanges_53 : decode cX3_withChanges 53 = .ok (.lreturn, 1) := by decide +kernel
theorem dX3_withSpans_0 : decode cX3_withSpans 0 = .ok (.aload_n 0, 1) := by decide +kernel
theorem dX3_withSpans_1 : decode cX3_withSpans 1 = .ok (.invokevirtual 199, 3) := by decide +kernel
theorem dX3_withSpans_4 : decode cX3_withSpans 4 = .ok (.lload_n 1, 1) := by decide +kernel
theorem dX3_withSpans_5 : decode cX3_withSpans 5 = .ok (.aload_n 0, 1) := by decide +kernel
theorem dX3_withSpans_6 : decode cX3_withSpans 6 = .ok (.getfield 44, 3) := by decide +kernel
theorem dX3_withSpans_9 : decode cX3_withSpans 9 = .ok (.getfield 202, 3) := by decide +kernel
theorem dX3_withSpans_12 : decode cX3_withSpans 12 = .ok (.invokestatic 242, 3) := by decide +kernel
theorem dX3_withSpans_15 : decode cX3_withSpans 15 = .ok (.lstore_n 3, 1) := by decide +kernel
theorem dX3_withSpans_16 : decode cX3_withSpans 16 = .ok (.iconst 0, 1) := by decide +kernel
theorem dX3_withSpans_17 : decode cX3_withSpans 17 = .ok (.istore 5, 2) := by decide +kernel
theorem dX3_withSpans_19 : decode cX3_withSpans 19 = .ok (.iload 5, 2) := by decide +kernel
theorem dX3_withSpans_21 : decode cX3_withSpans 21 = .ok (.aload_n 0, 1) := by decide +kernel
theorem dX3_withSpans_22 : decode cX3_withSpans 22 = .ok (.getfield 44, 3) := by decide +kernel
theorem dX3_withSpans_25 : decode cX3_withSpans 25 = .ok (.getfield 202, 3) := by decide +kernel
theorem dX3_withSpans_28 : decode cX3_withSpans 28 = .ok (.if_icmp .ge 40, 3) := by decide +kernel
theorem dX3_withSpans_31 : decode cX3_withSpans 31 = .ok (.iconst 1, 1) := by decide +kernel
theorem dX3_withSpans_32 : decode cX3_withSpans 32 = .ok (.istore 6, 2) := by decide +kernel
theorem dX3_withSpans_34 : decode cX3_withSpans 34 = .ok (.iload 6, 2) := by decide +kernel
theorem dX3_withSpans_36 : decode cX3_withSpans 36 = .ok (.iconst 4, 1) := by decide +kernel
theorem dX3_withSpans_37 : decode cX3_withSpans 37 = .ok (.if_icmp .ge 25, 3) := by decide +kernel
theorem dX3_withSpans_40 : decode cX3_withSpans 40 = .ok (.lload_n 3, 1) := by decide +kernel
theorem dX3_withSpans_41 : decode cX3_withSpans 41 = .ok (.aload_n 0, 1) := by decide +kernel
theorem dX3_withSpans_42 : decode cX3_withSpans 42 = .ok (.getfield 44, 3) := by decide +kernel
theorem dX3_withSpans_45 : decode cX3_withSpans 45 = .ok (.iload 5, 2) := by decide +kernel
theorem dX3_withSpans_47 : decode cX3_withSpans 47 = .ok (.iload 6, 2) := by decide +kernel
theorem dX3_withSpans_49 : decode cX3_withSpans 49 = .ok (.invokevirtual 203, 3) := by decide +kernel
theorem dX3_withSpans_52 : decode cX3_withSpans 52 = .ok (.invokestatic 242, 3) := by decide +kernel
theorem dX3_withSpans_55 : decode cX3_withSpans 55 = .ok (.lstore_n 3, 1) := by decide +kernel
theorem dX3_withSpans_56 : decode cX3_withSpans 56 = .ok (.iinc 6 1, 3) := by decide +kernel
theorem dX3_withSpans_59 : decode cX3_withSpans 59 = .ok (.goto (-25), 3) := by decide +kernel
theorem dX3_withSpans_62 : decode cX3_withSpans 62 = .ok (.iinc 5 1, 3) := by decide +kernel
theorem dX3_withSpans_65 : decode cX3_withSpans 65 = .ok (.goto (-46), 3) := by decide +kernel
theorem dX3_withSpans_68 : decode cX3_withSpans 68 = .ok (.lload_n 3, 1) := by decide +kernel
theorem dX3_withSpans_69 : decode cX3_withSpans 69 = .ok (.lreturn, 1) := by decide +kernel
theorem dX4_init_0 : decode cX4_init 0 = .ok (.aload_n 0, 1) := by decide +kernel
theorem dX4_init_1 : decode cX4_init 1 = .ok (.invokespecial 1, 3) := by decide +kernel
theorem dX4_init_4 : decode cX4_init 4 = .ok (.aload_n 0, 1) := by decide +kernel
theorem dX4_init_5 : decode cX4_init 5 = .ok (.bipush 40, 2) := by decide +kernel
theorem dX4_init_7 : decode cX4_init 7 = .ok (.newarray .int, 2) := by decide +kernel
theorem dX4_init_9 : decode cX4_init 9 = .ok (.putfield 7, 3) := by decide +kernel
theorem dX4_init_12 : decode cX4_init 12 = .ok (.aload_n 0, 1) := by decide +kernel
theorem dX4_init_13 : decode cX4_init 13 = .ok (.bipush 64, 2) := by decide +kernel
theorem dX4_init_15 : decode cX4_init 15 = .ok (.newarray .int, 2) := by decide +kernel
theorem dX4_init_17 : decode cX4_init 17 = .ok (.putfield 13, 3) := by decide +kernel
theorem dX4_init_20 : decode cX4_init 20 = .ok (.aload_n 0, 1) := by decide +kernel
theorem dX4_init_21 : decode cX4_init 21 = .ok (.bipush 64, 2) := by decide +kernel
theorem dX4_init_23 : decode cX4_init 23 = .ok (.newarray .int, 2) := by decide +kernel
theorem dX4_init_25 : decode cX4_init 25 = .ok (.putfield 16, 3) := by decide +kernel
theorem dX4_init_28 : decode cX4_init 28 = .ok (.aload_n 0, 1) := by decide +kernel
theorem dX4_init_29 : decode cX4_init 29 = .ok (.bipush 64, 2) := by decide +kernel
theorem dX4_init_31 : decode cX4_init 31 = .ok (.newarray .int, 2) := by decide +kernel
theorem dX4_init_33 : decode cX4_init 33 = .ok (.putfield 19, 3) := by decide +kernel
theorem dX4_init_36 : decode cX4_init 36 = .ok (.aload_n 0, 1) := by decide +kernel
theorem dX4_init_37 : decode cX4_init 37 = .ok (.bipush 64, 2) := by decide +kernel
theorem dX4_init_39 : decode cX4_init 39 = .ok (.newarray .int, 2) := by decide +kernel
theorem dX4_init_41 : decode cX4_init 41 = .ok (.putfield 22, 3) := by decide +kernel
theorem dX4_init_44 : decode cX4_init 44 = .ok (.aload_n 0, 1) := by decide +kernel
theorem dX4_init_45 : decode cX4_init 45 = .ok (.bipush 12, 2) := by decide +kernel
theorem dX4_init_47 : decode cX4_init 47 = .ok (.newarray .int, 2) := by decide +kernel
theorem dX4_init_49 : decode cX4_init 49 = .ok (.putfield 25, 3) := by decide +kernel
theorem dX4_init_52 : decode cX4_init 52 = .ok (.aload_n 0, 1) := by decide +kernel
theorem dX4_init_53 : decode cX4_init 53 = .ok (.bipush 12, 2) := by decide +kernel
theorem dX4_init_55 : decode cX4_init 55 = .ok (.newarray .int, 2) := by decide +kernel
theorem dX4_init_57 : decode cX4_init 57 = .ok (.putfield 28, 3) := by decide +kernel
theorem dX4_init_60 : decode cX4_init 60 = .ok (.aload_n 0, 1) := by decide +kernel
theorem dX4_init_61 : decode cX4_init 61 = .ok (.bipush 12, 2) := by decide +kernel
theorem dX4_init_63 : decode cX4_init 63 = .ok (.newarray .int, 2) := by decide +kernel
theorem dX4_init_65 : decode cX4_init 65 = .ok (.putfield 31, 3) := by decide +kernel
theorem dX4_init_68 : decode cX4_init 68 = .ok (.aload_n 0, 1) := by decide +kernel
theorem dX4_init_69 : decode cX4_init 69 = .ok (.bipush 12, 2) := by decide +kernel
theorem dX4_init_71 : decode cX4_init 71 = .ok (.newarray .boolean, 2) := by decide +kernel
theorem dX4_init_73 : decode cX4_init 73 = .ok (.putfield 34, 3) := by decide +kernel
theorem dX4_init_76 : decode cX4_init 76 = .ok (.aload_n 0, 1) := by decide +kernel
theorem dX4_init_77 : decode cX4_init 77 = .ok (.bipush 90, 2) := by decide +kernel
theorem dX4_init_79 : decode cX4_init 79 = .ok (.newarray .int, 2) := by decide +kernel
theorem dX4_init_81 : decode cX4_init 81 = .ok (.putfield 38, 3) := by decide +kernel
theorem dX4_init_84 : decode cX4_init 84 = .ok (.aload_n 0, 1) := by decide +kernel
theorem dX4_init_85 : decode cX4_init 85 = .ok (.bipush 90, 2) := by decide +kernel
theorem dX4_init_87 : decode cX4_init 87 = .ok (.newarray .int, 2) := by decide +kernel
theorem dX4_init_89 : decode cX4_init 89 = .ok (.putfield 41, 3) := by decide +kernel
theorem dX4_init_92 : decode cX4_init 92 = .ok (.aload_n 0, 1) := by decide +kernel
theorem dX4_init_93 : decode cX4_init 93 = .ok (.bipush 90, 2) := by decide +kernel
theorem dX4_init_95 : decode cX4_init 95 = .ok (.newarray .int, 2) := by decide +kernel
theorem dX4_init_97 : decode cX4_init 97 = .ok (.putfield 44, 3) := by decide +kernel
theorem dX4_init_100 : decode cX4_init 100 = .ok (.aload_n 0, 1) := by decide +kernel
theorem dX4_init_101 : decode cX4_init 101 = .ok (.bipush 90, 2) := by decide +kernel
theorem dX4_init_103 : decode cX4_init 103 = .ok (.newarray .int, 2) := by decide +kernel
theorem dX4_init_105 : decode cX4_init 105 = .ok (.putfield 47, 3) := by decide +kernel
theorem dX4_init_108 : decode cX4_init 108 = .ok (.aload_n 0, 1) := by decide +kernel
theorem dX4_init_109 : decode cX4_init 109 = .ok (.bipush 90, 2) := by decide +kernel
theorem dX4_init_111 : decode cX4_init 111 = .ok (.newarray .int, 2) := by decide +kernel
theorem dX4_init_113 : decode cX4_init 113 = .ok (.putfield 50, 3) := by decide +kernel
theorem dX4_init_116 : decode cX4_init 116 = .ok (.aload_n 0, 1) := by decide +kernel
theorem dX4_init_117 : decode cX4_init 117 = .ok (.bipush 90, 2) := by decide +kernel
theorem dX4_init_119 : decode cX4_init 119 = .ok (.newarray .int, 2) := by decide +kernel
theorem dX4_init_121 : decode cX4_init 121 = .ok (.putfield 53, 3) := by decide +kernel
theorem dX4_init_124 : decode cX4_init 124 = .ok (.aload_n 0, 1) := by decide +kernel
theorem dX4_init_125 : decode cX4_init 125 = .ok (.bipush 64, 2) := by decide +kernel
theorem dX4_init_127 : decode cX4_init 127 = .ok (.newarray .int, 2) := by decide +kernel
theorem dX4_init_129 : decode cX4_init 129 = .ok (.putfield 56, 3) := by decide +kernel
theorem dX4_init_132 : decode cX4_init 132 = .ok (.aload_n 0, 1) := by decide +kernel
theorem dX4_init_133 : decode cX4_init 133 = .ok (.bipush 90, 2) := by decide +kernel
theorem dX4_init_135 : decode cX4_init 135 = .ok (.newarray .boolean, 2) := by decide +kernel
theorem dX4_init_137 : decode cX4_init 137 = .ok (.putfield 59, 3) := by decide +kernel
theorem dX4_init_140 : decode cX4_init 140 = .ok (.aload_n 0, 1) := by decide +kernel
theorem dX4_init_141 : decode cX4_init 141 = .ok (.bipush 64, 2) := by decide +kernel
theorem dX4_init_143 : decode cX4_init 143 = .ok (.newarray .int, 2) := by decide +kernel
theorem dX4_init_145 : decode cX4_init 145 = .ok (.putfield 62, 3) := by decide +kernel
theorem dX4_init_148 : decode cX4_init 148 = .ok (.aload_n 0, 1) := by decide +kernel
theorem dX4_init_149 : decode cX4_init 149 = .ok (.bipush 90, 2) := by decide +kernel
theorem dX4_init_151 : decode cX4_init 151 = .ok (.newarray .int, 2) := by decide +kernel
theorem dX4_init_153 : decode cX4_init 153 = .ok (.putfield 65, 3) := by decide +kernel
theorem dX4_init_156 : decode cX4_init 156 = .ok (.aload_n 0, 1) := by decide +kernel
theorem dX4_init_157 : decode cX4_init 157 = .ok (.bipush 90, 2) := by decide +kernel
theorem dX4_init_159 : decode cX4_init 159 = .ok (.newarray .int, 2) := by decide +kernel
theorem dX4_init_161 : decode cX4_init 161 = .ok (.putfield 68, 3) := by decide +kernel
theorem dX4_init_164 : decode cX4_init 164 = .ok (.aload_n 0, 1) := by decide +kernel
theorem dX4_init_165 : decode cX4_init 165 = .ok (.bipush 90, 2) := by decide +kernel
theorem dX4_init_167 : decode cX4_init 167 = .ok (.newarray .int, 2) := by decide +kernel
theorem dX4_init_169 : decode cX4_init 169 = .ok (.putfield 71, 3) := by decide +kernel
theorem dX4_init_172 : decode cX4_init 172 = .ok (.return_, 1) := by decide +kernel
theorem dX4_within_0 : decode cX4_within 0 = .ok (.iload_n 0, 1) := by decide +kernel
theorem dX4_within_1 : decode cX4_within 1 = .ok (.iload_n 1, 1) := by decide +kernel
theorem dX4_within_2 : decode cX4_within 2 = .ok (.if_icmp .lt 12, 3) := by decide +kernel
theorem dX4_within_5 : decode cX4_within 5 = .ok (.iload_n 0, 1) := by decide +kernel
theorem dX4_within_6 : decode cX4_within 6 = .ok (.iload_n 2, 1) := by decide +kernel
theorem dX4_within_7 : decode cX4_within 7 = .ok (.if_icmp .gt 7, 3) := by decide +kernel
theorem dX4_within_10 : decode cX4_within 10 = .ok (.iconst 1, 1) := by decide +kernel
theorem dX4_within_11 : decode cX4_within 11 = .ok (.goto 4, 3) := by decide +kernel
theorem dX4_within_14 : decode cX4_within 14 = .ok (.iconst 0, 1) := by decide +kernel
theorem dX4_within_15 : decode cX4_within 15 = .ok (.ireturn, 1) := by decide +kernel
theorem dX4_has_0 : decode cX4_has 0 = .ok (.iload_n 0, 1) := by decide +kernel
theorem dX4_has_1 : decode cX4_has 1 = .ok (.iload_n 1, 1) := by decide +kernel
theorem dX4_has_2 : decode cX4_has 2 = .ok (.ishr, 1) := by decide +kernel
theorem dX4_has_3 : decode cX4_has 3 = .ok (.iconst 1, 1) := by decide +kernel
theorem dX4_has_4 : decode cX4_has 4 = .ok (.iand, 1) := by decide +kernel
theorem dX4_has_5 : decode cX4_has 5 = .ok (.iconst 1, 1) := by decide +kernel
theorem dX4_has_6 : decode cX4_has 6 = .ok (.if_icmp .ne 7, 3) := by decide +kernel
theorem dX4_has_9 : decode cX4_has 9 = .ok (.iconst 1, 1) := by decide +kernel
theorem dX4_has_10 : decode cX4_has 10 = .ok (.goto 4, 3) := by decide +kernel
theorem dX4_has_13 : decode cX4_has 13 = .ok (.iconst 0, 1) := by decide +kernel
theorem dX4_has_14 : decode cX4_has 14 = .ok (.ireturn, 1) := by decide +kernel
theorem dX4_letter_0 : decode cX4_letter 0 = .ok (.iload_n 1, 1) := by decide +kernel
theorem dX4_letter_1 : decode cX4_letter 1 = .ok (.bipush 32, 2) := by decide +kernel
theorem dX4_letter_3 : decode cX4_letter 3 = .ok (.bipush 126, 2) := by decide +kernel
theorem dX4_letter_5 : decode cX4_letter 5 = .ok (.invokestatic 74, 3) := by decide +kernel
theorem dX4_letter_8 : decode cX4_letter 8 = .ok (.ifCond .ne 7, 3) := by decide +kernel
theorem dX4_letter_11 : decode cX4_letter 11 = .ok (.sipush (-1002), 3) := by decide +kernel
theorem dX4_letter_14 : decode cX4_letter 14 = .ok (.ireturn, 1) := by decide +kernel
theorem dX4_letter_15 : decode cX4_letter 15 = .ok (.aload_n 0, 1) := by decide +kernel
theorem dX4_letter_16 : decode cX4_letter 16 = .ok (.getfield 78, 3) := by decide +kernel
theorem dX4_letter_19 : decode cX4_letter 19 = .ok (.bipush 40, 2) := by decide +kernel
theorem dX4_letter_21 : decode cX4_letter 21 = .ok (.if_icmp .ne 7, 3) := by decide +kernel
theorem dX4_letter_24 : decode cX4_letter 24 = .ok (.sipush (-1004), 3) := by decide +kernel
theorem dX4_letter_27 : decode cX4_letter 27 = .ok (.ireturn, 1) := by decide +kernel
theorem dX4_letter_28 : decode cX4_letter 28 = .ok (.aload_n 0, 1) := by decide +kernel
theorem dX4_letter_29 : decode cX4_letter 29 = .ok (.getfield 7, 3) := by decide +kernel
theorem dX4_letter_32 : decode cX4_letter 32 = .ok (.aload_n 0, 1) := by decide +kernel
theorem dX4_letter_33 : decode cX4_letter 33 = .ok (.getfield 78, 3) := by decide +kernel
theorem dX4_letter_36 : decode cX4_letter 36 = .ok (.iload_n 1, 1) := by decide +kernel
theorem dX4_letter_37 : decode cX4_letter 37 = .ok (.iastore, 1) := by decide +kernel
theorem dX4_letter_38 : decode cX4_letter 38 = .ok (.aload_n 0, 1) := by decide +kernel
theorem dX4_letter_39 : decode cX4_letter 39 = .ok (.dup, 1) := by decide +kernel
theorem dX4_letter_40 : decode cX4_letter 40 = .ok (.getfield 78, 3) := by decide +kernel
theorem dX4_letter_43 : decode cX4_letter 43 = .ok (.iconst 1, 1) := by decide +kernel
theorem dX4_letter_44 : decode cX4_letter 44 = .ok (.iadd, 1) := by decide +kernel
theorem dX4_letter_45 : decode cX4_letter 45 = .ok (.putfield 78, 3) := by decide +kernel
theorem dX4_letter_48 : decode cX4_letter 48 = .ok (.aload_n 0, 1) := by decide +kernel
theorem dX4_letter_49 : decode cX4_letter 49 = .ok (.getfield 78, 3) := by decide +kernel
theorem dX4_letter_52 : decode cX4_letter 52 = .ok (.ireturn, 1) := by decide +kernel
theorem dX4_blank_0 : decode cX4_blank 0 = .ok (.aload_n 0, 1) := by decide +kernel
theorem dX4_blank_1 : decode cX4_blank 1 = .ok (.getfield 78, 3) := by decide +kernel
theorem dX4_blank_4 : decode cX4_blank 4 = .ok (.istore_n 1, 1) := by decide +kernel
theorem dX4_blank_5 : decode cX4_blank 5 = .ok (.aload_n 0, 1) := by decide +kernel
theorem dX4_blank_6 : decode cX4_blank 6 = .ok (.iconst 0, 1) := by decide +kernel
theorem dX4_blank_7 : decode cX4_blank 7 = .ok (.putfield 78, 3) := by decide +kernel
theorem dX4_blank_10 : decode cX4_blank 10 = .ok (.iload_n 1, 1) := by decide +kernel
theorem dX4_blank_11 : decode cX4_blank 11 = .ok (.ireturn, 1) := by decide +kernel
theorem dX4_comes_0 : decode cX4_comes 0 = .ok (.aload_n 0, 1) := by decide +kernel
theorem dX4_comes_1 : decode cX4_comes 1 = .ok (.getfield 13, 3) := by decide +kernel
theorem dX4_comes_4 : decode cX4_comes 4 = .ok (.aload_n 0, 1) := by decide +kernel
theorem dX4_comes_5 : decode cX4_comes 5 = .ok (.getfield 82, 3) := by decide +kernel
theorem dX4_comes_8 : decode cX4_comes 8 = .ok (.iload_n 1, 1) := by decide +kernel
theorem dX4_comes_9 : decode cX4_comes 9 = .ok (.iastore, 1) := by decide +kernel
theorem dX4_comes_10 : decode cX4_comes 10 = .ok (.aload_n 0, 1) := by decide +kernel
theorem dX4_comes_11 : decode cX4_comes 11 = .ok (.getfield 16, 3) := by decide +kernel
theorem dX4_comes_14 : decode cX4_comes 14 = .ok (.aload_n 0, 1) := by decide +kernel
theorem dX4_comes_15 : decode cX4_comes 15 = .ok (.getfield 82, 3) := by decide +kernel
theorem dX4_comes_18 : decode cX4_comes 18 = .ok (.iload_n 2, 1) := by decide +kernel
theorem dX4_comes_19 : decode cX4_comes 19 = .ok (.iastore, 1) := by decide +kernel
theorem dX4_comes_20 : decode cX4_comes 20 = .ok (.aload_n 0, 1) := by decide +kernel
theorem dX4_comes_21 : decode cX4_comes 21 = .ok (.getfield 22, 3) := by decide +kernel
theorem dX4_comes_24 : decode cX4_comes 24 = .ok (.aload_n 0, 1) := by decide +kernel
theorem dX4_comes_25 : decode cX4_comes 25 = .ok (.getfield 82, 3) := by decide +kernel
theorem dX4_comes_28 : decode cX4_comes 28 = .ok (.iconst 0, 1) := by decide +kernel
theorem dX4_comes_29 : decode cX4_comes 29 = .ok (.iastore, 1) := by decide +kernel
theorem dX4_comes_30 : decode cX4_comes 30 = .ok (.aload_n 0, 1) := by decide +kernel
theorem dX4_comes_31 : decode cX4_comes 31 = .ok (.getfield 19, 3) := by decide +kernel
theorem dX4_comes_34 : decode cX4_comes 34 = .ok (.aload_n 0, 1) := by decide +kernel
theorem dX4_comes_35 : decode cX4_comes 35 = .ok (.getfield 82, 3) := by decide +kernel
theorem dX4_comes_38 : decode cX4_comes 38 = .ok (.aload_n 0, 1) := by decide +kernel
theorem dX4_comes_39 : decode cX4_comes 39 = .ok (.getfield 85, 3) := by decide +kernel
theorem dX4_comes_42 : decode cX4_comes 42 = .ok (.iastore, 1) := by decide +kernel
theorem dX4_comes_43 : decode cX4_comes 43 = .ok (.aload_n 0, 1) := by decide +kernel
theorem dX4_comes_44 : decode cX4_comes 44 = .ok (.aload_n 0, 1) := by decide +kernel
theorem dX4_comes_45 : decode cX4_comes 45 = .ok (.getfield 82, 3) := by decide +kernel
theorem dX4_comes_48 : decode cX4_comes 48 = .ok (.iconst (-1), 1) := by decide +kernel
theorem dX4_comes_49 : decode cX4_comes 49 = .ok (.iload_n 2, 1) := by decide +kernel
theorem dX4_comes_50 : decode cX4_comes 50 = .ok (.iload_n 3, 1) := by decide +kernel
theorem dX4_comes_51 : decode cX4_comes 51 = .ok (.invokevirtual 88, 3) := by decide +kernel
theorem dX4_comes_54 : decode cX4_comes 54 = .ok (.aload_n 0, 1) := by decide +kernel
theorem dX4_comes_55 : decode cX4_comes 55 = .ok (.dup, 1) := by decide +kernel
theorem dX4_comes_56 : decode cX4_comes 56 = .ok (.getfield 82, 3) := by decide +kernel
theorem dX4_comes_59 : decode cX4_comes 59 = .ok (.iconst 1, 1) := by decide +kernel
theorem dX4_comes_60 : decode cX4_comes 60 = .ok (.iadd, 1) := by decide +kernel
theorem dX4_comes_61 : decode cX4_comes 61 = .ok (.putfield 82, 3) := by decide +kernel
theorem dX4_comes_64 : decode cX4_comes 64 = .ok (.return_, 1) := by decide +kernel
theorem dX4_layPlace_0 : decode cX4_layPlace 0 = .ok (.aload_n 0, 1) := by decide +kernel
theorem dX4_layPlace_1 : decode cX4_layPlace 1 = .ok (.getfield 85, 3) := by decide +kernel
theorem dX4_layPlace_4 : decode cX4_layPlace 4 = .ok (.istore 5, 2) := by decide +kernel
theorem dX4_layPlace_6 : decode cX4_layPlace 6 = .ok (.iload 5, 2) := by decide +kernel
theorem dX4_layPlace_8 : decode cX4_layPlace 8 = .ok (.iload 4, 2) := by decide +kernel
theorem dX4_layPlace_10 : decode cX4_layPlace 10 = .ok (.if_icmp .le 25, 3) := by decide +kernel
theorem dX4_layPlace_13 : decode cX4_layPlace 13 = .ok (.aload_n 0, 1) := by decide +kernel
theorem dX4_layPlace_14 : decode cX4_layPlace 14 = .ok (.getfield 47, 3) := by decide +kernel
theorem dX4_layPlace_17 : decode cX4_layPlace 17 = .ok (.iload 5, 2) := by decide +kernel
theorem dX4_layPlace_19 : decode cX4_layPlace 19 = .ok (.aload_n 0, 1) := by decide +kernel
theorem dX4_layPlace_20 : decode cX4_layPlace 20 = .ok (.getfield 47, 3) := by decide +kernel
theorem dX4_layPlace_23 : decode cX4_layPlace 23 = .ok (.iload 5, 2) := by decide +kernel
theorem dX4_layPlace_25 : decode cX4_layPlace 25 = .ok (.iconst 1, 1) := by decide +kernel
theorem dX4_layPlace_26 : decode cX4_layPlace 26 = .ok (.isub, 1) := by decide +kernel
theorem dX4_layPlace_27 : decode cX4_layPlace 27 = .ok (.iaload, 1) := by decide +kernel
theorem dX4_layPlace_28 : decode cX4_layPlace 28 = .ok (.iastore, 1) := by decide +kernel
theorem dX4_layPlace_29 : decode cX4_layPlace 29 = .ok (.iinc 5 (-1), 3) := by decide +kernel
theorem dX4_layPlace_32 : decode cX4_layPlace 32 = .ok (.goto (-26), 3) := by decide +kernel
theorem dX4_layPlace_35 : decode cX4_layPlace 35 = .ok (.aload_n 0, 1) := by decide +kernel
theorem dX4_layPlace_36 : decode cX4_layPlace 36 = .ok (.getfield 47, 3) := by decide +kernel
theorem dX4_layPlace_39 : decode cX4_layPlace 39 = .ok (.iload 4, 2) := by decide +kernel
theorem dX4_layPlace_41 : decode cX4_layPlace 41 = .ok (.aload_n 0, 1) := by decide +kernel
theorem dX4_layPlace_42 : decode cX4_layPlace 42 = .ok (.getfield 85, 3) := by decide +kernel
theorem dX4_layPlace_45 : decode cX4_layPlace 45 = .ok (.iastore, 1) := by decide +kernel
theorem dX4_layPlace_46 : decode cX4_layPlace 46 = .ok (.aload_n 0, 1) := by decide +kernel
theorem dX4_layPlace_47 : decode cX4_layPlace 47 = .ok (.getfield 38, 3) := by decide +kernel
theorem dX4_layPlace_50 : decode cX4_layPlace 50 = .ok (.aload_n 0, 1) := by decide +kernel
theorem dX4_layPlace_51 : decode cX4_layPlace 51 = .ok (.getfield 85, 3) := by decide +kernel
theorem dX4_layPlace_54 : decode cX4_layPlace 54 = .ok (.iload_n 1, 1) := by decide +kernel
theorem dX4_layPlace_55 : decode cX4_layPlace 55 = .ok (.iastore, 1) := by decide +kernel
theorem dX4_layPlace_56 : decode cX4_layPlace 56 = .ok (.aload_n 0, 1) := by decide +kernel
theorem dX4_layPlace_57 : decode cX4_layPlace 57 = .ok (.getfield 41, 3) := by decide +kernel
theorem dX4_layPlace_60 : decode cX4_layPlace 60 = .ok (.aload_n 0, 1) := by decide +kernel
theorem dX4_layPlace_61 : decode cX4_layPlace 61 = .ok (.getfield 85, 3) := by decide +kernel
theorem dX4_layPlace_64 : decode cX4_layPlace 64 = .ok (.iload_n 2, 1) := by decide +kernel
theorem dX4_layPlace_65 : decode cX4_layPlace 65 = .ok (.iastore, 1) := by decide +kernel
theorem dX4_layPlace_66 : decode cX4_layPlace 66 = .ok (.aload_n 0, 1) := by decide +kernel
theorem dX4_layPlace_67 : decode cX4_layPlace 67 = .ok (.getfield 44, 3) := by decide +kernel
theorem dX4_layPlace_70 : decode cX4_layPlace 70 = .ok (.aload_n 0, 1) := by decide +kernel
theorem dX4_layPlace_71 : decode cX4_layPlace 71 = .ok (.getfield 85, 3) := by decide +kernel
theorem dX4_layPlace_74 : decode cX4_layPlace 74 = .ok (.iload_n 3, 1) := by decide +kernel
theorem dX4_layPlace_75 : decode cX4_layPlace 75 = .ok (.iastore, 1) := by decide +kernel
theorem dX4_layPlace_76 : decode cX4_layPlace 76 = .ok (.aload_n 0, 1) := by decide +kernel
theorem dX4_layPlace_77 : decode cX4_layPlace 77 = .ok (.getfield 50, 3) := by decide +kernel
theorem dX4_layPlace_80 : decode cX4_layPlace 80 = .ok (.aload_n 0, 1) := by decide +kernel
theorem dX4_layPlace_81 : decode cX4_layPlace 81 = .ok (.getfield 85, 3) := by decide +kernel
theorem dX4_layPlace_84 : decode cX4_layPlace 84 = .ok (.iconst (-1), 1) := by decide +kernel
theorem dX4_layPlace_85 : decode cX4_layPlace 85 = .ok (.iastore, 1) := by decide +kernel
theorem dX4_layPlace_86 : decode cX4_layPlace 86 = .ok (.aload_n 0, 1) := by decide +kernel
theorem dX4_layPlace_87 : decode cX4_layPlace 87 = .ok (.getfield 53, 3) := by decide +kernel
theorem dX4_layPlace_90 : decode cX4_layPlace 90 = .ok (.aload_n 0, 1) := by decide +kernel
theorem dX4_layPlace_91 : decode cX4_layPlace 91 = .ok (.getfield 85, 3) := by decide +kernel
theorem dX4_layPlace_94 : decode cX4_layPlace 94 = .ok (.iconst (-1), 1) := by decide +kernel
theorem dX4_layPlace_95 : decode cX4_layPlace 95 = .ok (.iastore, 1) := by decide +kernel
theorem dX4_layPlace_96 : decode cX4_layPlace 96 = .ok (.iload_n 2, 1) := by decide +kernel
theorem dX4_layPlace_97 : decode cX4_layPlace 97 = .ok (.iconst (-1), 1) := by decide +kernel
theorem dX4_layPlace_98 : decode cX4_layPlace 98 = .ok (.if_icmp .eq 12, 3) := by decide +kernel
theorem dX4_layPlace_101 : decode cX4_layPlace 101 = .ok (.aload_n 0, 1) := by decide +kernel
theorem dX4_layPlace_102 : decode cX4_layPlace 102 = .ok (.iload_n 2, 1) := by decide +kernel
end
section
theorem dX4_layPlace_103 : decode cX4_layPlace 103 = .ok (.aload_n 0, 1) := by decide +kernel
theorem dX4_layPlace_104 : decode cX4_layPlace 104 = .ok (.getfield 85, 3) := by decide +kernel
theorem dX4_layPlace_107 : decode cX4_layPlace 107 = .ok (.invokevirtual 92, 3) := by decide +kernel
theorem dX4_layPlace_110 : decode cX4_layPlace 110 = .ok (.aload_n 0, 1) := by decide +kernel
theorem dX4_layPlace_111 : decode cX4_layPlace 111 = .ok (.dup, 1) := by decide +kernel
theorem dX4_layPlace_112 : decode cX4_layPlace 112 = .ok (.getfield 85, 3) := by decide +kernel
theorem dX4_layPlace_115 : decode cX4_layPlace 115 = .ok (.iconst 1, 1) := by decide +kernel
theorem dX4_layPlace_116 : decode cX4_layPlace 116 = .ok (.iadd, 1) := by decide +kernel
theorem dX4_layPlace_117 : decode cX4_layPlace 117 = .ok (.putfield 85, 3) := by decide +kernel
theorem dX4_layPlace_120 : decode cX4_layPlace 120 = .ok (.return_, 1) := by decide +kernel
theorem dX4_layOn_0 : decode cX4_layOn 0 = .ok (.aload_n 0, 1) := by decide +kernel
theorem dX4_layOn_1 : decode cX4_layOn 1 = .ok (.getfield 50, 3) := by decide +kernel
theorem dX4_layOn_4 : decode cX4_layOn 4 = .ok (.iload_n 1, 1) := by decide +kernel
theorem dX4_layOn_5 : decode cX4_layOn 5 = .ok (.iaload, 1) := by decide +kernel
theorem dX4_layOn_6 : decode cX4_layOn 6 = .ok (.istore_n 3, 1) := by decide +kernel
theorem dX4_layOn_7 : decode cX4_layOn 7 = .ok (.iload_n 3, 1) := by decide +kernel
theorem dX4_layOn_8 : decode cX4_layOn 8 = .ok (.iconst (-1), 1) := by decide +kernel
theorem dX4_layOn_9 : decode cX4_layOn 9 = .ok (.if_icmp .ne 11, 3) := by decide +kernel
theorem dX4_layOn_12 : decode cX4_layOn 12 = .ok (.aload_n 0, 1) := by decide +kernel
theorem dX4_layOn_13 : decode cX4_layOn 13 = .ok (.getfield 50, 3) := by decide +kernel
theorem dX4_layOn_16 : decode cX4_layOn 16 = .ok (.iload_n 1, 1) := by decide +kernel
theorem dX4_layOn_17 : decode cX4_layOn 17 = .ok (.iload_n 2, 1) := by decide +kernel
theorem dX4_layOn_18 : decode cX4_layOn 18 = .ok (.iastore, 1) := by decide +kernel
theorem dX4_layOn_19 : decode cX4_layOn 19 = .ok (.return_, 1) := by decide +kernel
theorem dX4_layOn_20 : decode cX4_layOn 20 = .ok (.aload_n 0, 1) := by decide +kernel
theorem dX4_layOn_21 : decode cX4_layOn 21 = .ok (.getfield 53, 3) := by decide +kernel
theorem dX4_layOn_24 : decode cX4_layOn 24 = .ok (.iload_n 3, 1) := by decide +kernel
theorem dX4_layOn_25 : decode cX4_layOn 25 = .ok (.iaload, 1) := by decide +kernel
theorem dX4_layOn_26 : decode cX4_layOn 26 = .ok (.iconst (-1), 1) := by decide +kernel
theorem dX4_layOn_27 : decode cX4_layOn 27 = .ok (.if_icmp .eq 13, 3) := by decide +kernel
theorem dX4_layOn_30 : decode cX4_layOn 30 = .ok (.aload_n 0, 1) := by decide +kernel
theorem dX4_layOn_31 : decode cX4_layOn 31 = .ok (.getfield 53, 3) := by decide +kernel
theorem dX4_layOn_34 : decode cX4_layOn 34 = .ok (.iload_n 3, 1) := by decide +kernel
theorem dX4_layOn_35 : decode cX4_layOn 35 = .ok (.iaload, 1) := by decide +kernel
theorem dX4_layOn_36 : decode cX4_layOn 36 = .ok (.istore_n 3, 1) := by decide +kernel
theorem dX4_layOn_37 : decode cX4_layOn 37 = .ok (.goto (-17), 3) := by decide +kernel
theorem dX4_layOn_40 : decode cX4_layOn 40 = .ok (.aload_n 0, 1) := by decide +kernel
theorem dX4_layOn_41 : decode cX4_layOn 41 = .ok (.getfield 53, 3) := by decide +kernel
theorem dX4_layOn_44 : decode cX4_layOn 44 = .ok (.iload_n 3, 1) := by decide +kernel
theorem dX4_layOn_45 : decode cX4_layOn 45 = .ok (.iload_n 2, 1) := by decide +kernel
theorem dX4_layOn_46 : decode cX4_layOn 46 = .ok (.iastore, 1) := by decide +kernel
theorem dX4_layOn_47 : decode cX4_layOn 47 = .ok (.return_, 1) := by decide +kernel
theorem dX4_begin_0 : decode cX4_begin 0 = .ok (.aload_n 0, 1) := by decide +kernel
theorem dX4_begin_1 : decode cX4_begin 1 = .ok (.iconst 0, 1) := by decide +kernel
theorem dX4_begin_2 : decode cX4_begin 2 = .ok (.putfield 82, 3) := by decide +kernel
theorem dX4_begin_5 : decode cX4_begin 5 = .ok (.aload_n 0, 1) := by decide +kernel
theorem dX4_begin_6 : decode cX4_begin 6 = .ok (.iconst 0, 1) := by decide +kernel
theorem dX4_begin_7 : decode cX4_begin 7 = .ok (.putfield 85, 3) := by decide +kernel
theorem dX4_begin_10 : decode cX4_begin 10 = .ok (.aload_n 0, 1) := by decide +kernel
theorem dX4_begin_11 : decode cX4_begin 11 = .ok (.iconst 0, 1) := by decide +kernel
theorem dX4_begin_12 : decode cX4_begin 12 = .ok (.putfield 96, 3) := by decide +kernel
theorem dX4_begin_15 : decode cX4_begin 15 = .ok (.iconst 0, 1) := by decide +kernel
theorem dX4_begin_16 : decode cX4_begin 16 = .ok (.istore_n 1, 1) := by decide +kernel
theorem dX4_begin_17 : decode cX4_begin 17 = .ok (.iload_n 1, 1) := by decide +kernel
theorem dX4_begin_18 : decode cX4_begin 18 = .ok (.aload_n 0, 1) := by decide +kernel
theorem dX4_begin_19 : decode cX4_begin 19 = .ok (.getfield 78, 3) := by decide +kernel
theorem dX4_begin_22 : decode cX4_begin 22 = .ok (.if_icmp .ge 24, 3) := by decide +kernel
theorem dX4_begin_25 : decode cX4_begin 25 = .ok (.aload_n 0, 1) := by decide +kernel
theorem dX4_begin_26 : decode cX4_begin 26 = .ok (.aload_n 0, 1) := by decide +kernel
theorem dX4_begin_27 : decode cX4_begin 27 = .ok (.getfield 7, 3) := by decide +kernel
theorem dX4_begin_30 : decode cX4_begin 30 = .ok (.iload_n 1, 1) := by decide +kernel
theorem dX4_begin_31 : decode cX4_begin 31 = .ok (.iaload, 1) := by decide +kernel
theorem dX4_begin_32 : decode cX4_begin 32 = .ok (.iconst (-1), 1) := by decide +kernel
theorem dX4_begin_33 : decode cX4_begin 33 = .ok (.aload_n 0, 1) := by decide +kernel
theorem dX4_begin_34 : decode cX4_begin 34 = .ok (.getfield 85, 3) := by decide +kernel
theorem dX4_begin_37 : decode cX4_begin 37 = .ok (.invokevirtual 99, 3) := by decide +kernel
theorem dX4_begin_40 : decode cX4_begin 40 = .ok (.iinc 1 1, 3) := by decide +kernel
theorem dX4_begin_43 : decode cX4_begin 43 = .ok (.goto (-26), 3) := by decide +kernel
theorem dX4_begin_46 : decode cX4_begin 46 = .ok (.aload_n 0, 1) := by decide +kernel
theorem dX4_begin_47 : decode cX4_begin 47 = .ok (.dup, 1) := by decide +kernel
theorem dX4_begin_48 : decode cX4_begin 48 = .ok (.getfield 103, 3) := by decide +kernel
theorem dX4_begin_51 : decode cX4_begin 51 = .ok (.iconst 1, 1) := by decide +kernel
theorem dX4_begin_52 : decode cX4_begin 52 = .ok (.iadd, 1) := by decide +kernel
theorem dX4_begin_53 : decode cX4_begin 53 = .ok (.putfield 103, 3) := by decide +kernel
theorem dX4_begin_56 : decode cX4_begin 56 = .ok (.aload_n 0, 1) := by decide +kernel
theorem dX4_begin_57 : decode cX4_begin 57 = .ok (.iconst 0, 1) := by decide +kernel
theorem dX4_begin_58 : decode cX4_begin 58 = .ok (.putfield 78, 3) := by decide +kernel
theorem dX4_begin_61 : decode cX4_begin 61 = .ok (.aload_n 0, 1) := by decide +kernel
theorem dX4_begin_62 : decode cX4_begin 62 = .ok (.getfield 82, 3) := by decide +kernel
theorem dX4_begin_65 : decode cX4_begin 65 = .ok (.ireturn, 1) := by decide +kernel
theorem dX4_setOf_0 : decode cX4_setOf 0 = .ok (.iconst 0, 1) := by decide +kernel
theorem dX4_setOf_1 : decode cX4_setOf 1 = .ok (.istore_n 2, 1) := by decide +kernel
theorem dX4_setOf_2 : decode cX4_setOf 2 = .ok (.iconst 0, 1) := by decide +kernel
theorem dX4_setOf_3 : decode cX4_setOf 3 = .ok (.istore_n 3, 1) := by decide +kernel
theorem dX4_setOf_4 : decode cX4_setOf 4 = .ok (.iload_n 3, 1) := by decide +kernel
theorem dX4_setOf_5 : decode cX4_setOf 5 = .ok (.aload_n 0, 1) := by decide +kernel
theorem dX4_setOf_6 : decode cX4_setOf 6 = .ok (.getfield 96, 3) := by decide +kernel
theorem dX4_setOf_9 : decode cX4_setOf 9 = .ok (.if_icmp .ge 81, 3) := by decide +kernel
theorem dX4_setOf_12 : decode cX4_setOf 12 = .ok (.iload_n 1, 1) := by decide +kernel
theorem dX4_setOf_13 : decode cX4_setOf 13 = .ok (.iconst 1, 1) := by decide +kernel
theorem dX4_setOf_14 : decode cX4_setOf 14 = .ok (.if_icmp .eq 29, 3) := by decide +kernel
theorem dX4_setOf_17 : decode cX4_setOf 17 = .ok (.iload_n 1, 1) := by decide +kernel
theorem dX4_setOf_18 : decode cX4_setOf 18 = .ok (.iconst 1, 1) := by decide +kernel
theorem dX4_setOf_19 : decode cX4_setOf 19 = .ok (.if_icmp .le 28, 3) := by decide +kernel
theorem dX4_setOf_22 : decode cX4_setOf 22 = .ok (.aload_n 0, 1) := by decide +kernel
theorem dX4_setOf_23 : decode cX4_setOf 23 = .ok (.getfield 28, 3) := by decide +kernel
theorem dX4_setOf_26 : decode cX4_setOf 26 = .ok (.iload_n 3, 1) := by decide +kernel
theorem dX4_setOf_27 : decode cX4_setOf 27 = .ok (.iaload, 1) := by decide +kernel
theorem dX4_setOf_28 : decode cX4_setOf 28 = .ok (.iload_n 1, 1) := by decide +kernel
theorem dX4_setOf_29 : decode cX4_setOf 29 = .ok (.iconst 2, 1) := by decide +kernel
theorem dX4_setOf_30 : decode cX4_setOf 30 = .ok (.isub, 1) := by decide +kernel
theorem dX4_setOf_31 : decode cX4_setOf 31 = .ok (.if_icmp .eq 12, 3) := by decide +kernel
theorem dX4_setOf_34 : decode cX4_setOf 34 = .ok (.aload_n 0, 1) := by decide +kernel
theorem dX4_setOf_35 : decode cX4_setOf 35 = .ok (.getfield 34, 3) := by decide +kernel
theorem dX4_setOf_38 : decode cX4_setOf 38 = .ok (.iload_n 3, 1) := by decide +kernel
theorem dX4_setOf_39 : decode cX4_setOf 39 = .ok (.baload, 1) := by decide +kernel
theorem dX4_setOf_40 : decode cX4_setOf 40 = .ok (.ifCond .eq 7, 3) := by decide +kernel
theorem dX4_setOf_43 : decode cX4_setOf 43 = .ok (.iconst 1, 1) := by decide +kernel
theorem dX4_setOf_44 : decode cX4_setOf 44 = .ok (.goto 4, 3) := by decide +kernel
theorem dX4_setOf_47 : decode cX4_setOf 47 = .ok (.iconst 0, 1) := by decide +kernel
theorem dX4_setOf_48 : decode cX4_setOf 48 = .ok (.istore 4, 2) := by decide +kernel
theorem dX4_setOf_50 : decode cX4_setOf 50 = .ok (.iload_n 2, 1) := by decide +kernel
theorem dX4_setOf_51 : decode cX4_setOf 51 = .ok (.aload_n 0, 1) := by decide +kernel
theorem dX4_setOf_52 : decode cX4_setOf 52 = .ok (.getfield 31, 3) := by decide +kernel
theorem dX4_setOf_55 : decode cX4_setOf 55 = .ok (.iload_n 3, 1) := by decide +kernel
theorem dX4_setOf_56 : decode cX4_setOf 56 = .ok (.iaload, 1) := by decide +kernel
theorem dX4_setOf_57 : decode cX4_setOf 57 = .ok (.iconst 1, 1) := by decide +kernel
theorem dX4_setOf_58 : decode cX4_setOf 58 = .ok (.if_icmp .eq 17, 3) := by decide +kernel
theorem dX4_setOf_61 : decode cX4_setOf 61 = .ok (.aload_n 0, 1) := by decide +kernel
theorem dX4_setOf_62 : decode cX4_setOf 62 = .ok (.getfield 31, 3) := by decide +kernel
theorem dX4_setOf_65 : decode cX4_setOf 65 = .ok (.iload_n 3, 1) := by decide +kernel
theorem dX4_setOf_66 : decode cX4_setOf 66 = .ok (.iaload, 1) := by decide +kernel
theorem dX4_setOf_67 : decode cX4_setOf 67 = .ok (.ifCond .ne 14, 3) := by decide +kernel
theorem dX4_setOf_70 : decode cX4_setOf 70 = .ok (.iload 4, 2) := by decide +kernel
theorem dX4_setOf_72 : decode cX4_setOf 72 = .ok (.ifCond .eq 9, 3) := by decide +kernel
theorem dX4_setOf_75 : decode cX4_setOf 75 = .ok (.iconst 1, 1) := by decide +kernel
theorem dX4_setOf_76 : decode cX4_setOf 76 = .ok (.iload_n 3, 1) := by decide +kernel
theorem dX4_setOf_77 : decode cX4_setOf 77 = .ok (.ishl, 1) := by decide +kernel
theorem dX4_setOf_78 : decode cX4_setOf 78 = .ok (.goto 4, 3) := by decide +kernel
theorem dX4_setOf_81 : decode cX4_setOf 81 = .ok (.iconst 0, 1) := by decide +kernel
theorem dX4_setOf_82 : decode cX4_setOf 82 = .ok (.ior, 1) := by decide +kernel
theorem dX4_setOf_83 : decode cX4_setOf 83 = .ok (.istore_n 2, 1) := by decide +kernel
theorem dX4_setOf_84 : decode cX4_setOf 84 = .ok (.iinc 3 1, 3) := by decide +kernel
theorem dX4_setOf_87 : decode cX4_setOf 87 = .ok (.goto (-83), 3) := by decide +kernel
theorem dX4_setOf_90 : decode cX4_setOf 90 = .ok (.iload_n 2, 1) := by decide +kernel
theorem dX4_setOf_91 : decode cX4_setOf 91 = .ok (.ireturn, 1) := by decide +kernel
theorem dX4_isThere_0 : decode cX4_isThere 0 = .ok (.aload_n 0, 1) := by decide +kernel
theorem dX4_isThere_1 : decode cX4_isThere 1 = .ok (.getfield 16, 3) := by decide +kernel
theorem dX4_isThere_4 : decode cX4_isThere 4 = .ok (.iload_n 1, 1) := by decide +kernel
theorem dX4_isThere_5 : decode cX4_isThere 5 = .ok (.iaload, 1) := by decide +kernel
theorem dX4_isThere_6 : decode cX4_isThere 6 = .ok (.iconst (-1), 1) := by decide +kernel
theorem dX4_isThere_7 : decode cX4_isThere 7 = .ok (.if_icmp .eq 16, 3) := by decide +kernel
theorem dX4_isThere_10 : decode cX4_isThere 10 = .ok (.iload_n 2, 1) := by decide +kernel
theorem dX4_isThere_11 : decode cX4_isThere 11 = .ok (.aload_n 0, 1) := by decide +kernel
theorem dX4_isThere_12 : decode cX4_isThere 12 = .ok (.getfield 16, 3) := by decide +kernel
theorem dX4_isThere_15 : decode cX4_isThere 15 = .ok (.iload_n 1, 1) := by decide +kernel
theorem dX4_isThere_16 : decode cX4_isThere 16 = .ok (.iaload, 1) := by decide +kernel
theorem dX4_isThere_17 : decode cX4_isThere 17 = .ok (.invokestatic 106, 3) := by decide +kernel
theorem dX4_isThere_20 : decode cX4_isThere 20 = .ok (.ifCond .eq 7, 3) := by decide +kernel
theorem dX4_isThere_23 : decode cX4_isThere 23 = .ok (.iconst 1, 1) := by decide +kernel
theorem dX4_isThere_24 : decode cX4_isThere 24 = .ok (.goto 4, 3) := by decide +kernel
theorem dX4_isThere_27 : decode cX4_isThere 27 = .ok (.iconst 0, 1) := by decide +kernel
theorem dX4_isThere_28 : decode cX4_isThere 28 = .ok (.istore_n 3, 1) := by decide +kernel
theorem dX4_isThere_29 : decode cX4_isThere 29 = .ok (.iload_n 3, 1) := by decide +kernel
theorem dX4_isThere_30 : decode cX4_isThere 30 = .ok (.ifCond .eq 18, 3) := by decide +kernel
theorem dX4_isThere_33 : decode cX4_isThere 33 = .ok (.aload_n 0, 1) := by decide +kernel
theorem dX4_isThere_34 : decode cX4_isThere 34 = .ok (.getfield 22, 3) := by decide +kernel
theorem dX4_isThere_37 : decode cX4_isThere 37 = .ok (.iload_n 1, 1) := by decide +kernel
theorem dX4_isThere_38 : decode cX4_isThere 38 = .ok (.iaload, 1) := by decide +kernel
theorem dX4_isThere_39 : decode cX4_isThere 39 = .ok (.iload_n 2, 1) := by decide +kernel
theorem dX4_isThere_40 : decode cX4_isThere 40 = .ok (.iand, 1) := by decide +kernel
theorem dX4_isThere_41 : decode cX4_isThere 41 = .ok (.ifCond .ne 7, 3) := by decide +kernel
theorem dX4_isThere_44 : decode cX4_isThere 44 = .ok (.iconst 1, 1) := by decide +kernel
theorem dX4_isThere_45 : decode cX4_isThere 45 = .ok (.goto 4, 3) := by decide +kernel
theorem dX4_isThere_48 : decode cX4_isThere 48 = .ok (.iconst 0, 1) := by decide +kernel
theorem dX4_isThere_49 : decode cX4_isThere 49 = .ok (.ireturn, 1) := by decide +kernel
theorem dX4_leadsOn_0 : decode cX4_leadsOn 0 = .ok (.aload_n 0, 1) := by decide +kernel
theorem dX4_leadsOn_1 : decode cX4_leadsOn 1 = .ok (.getfield 50, 3) := by decide +kernel
theorem dX4_leadsOn_4 : decode cX4_leadsOn 4 = .ok (.iload_n 1, 1) := by decide +kernel
theorem dX4_leadsOn_5 : decode cX4_leadsOn 5 = .ok (.iaload, 1) := by decide +kernel
theorem dX4_leadsOn_6 : decode cX4_leadsOn 6 = .ok (.istore_n 3, 1) := by decide +kernel
theorem dX4_leadsOn_7 : decode cX4_leadsOn 7 = .ok (.iload_n 3, 1) := by decide +kernel
theorem dX4_leadsOn_8 : decode cX4_leadsOn 8 = .ok (.iconst (-1), 1) := by decide +kernel
theorem dX4_leadsOn_9 : decode cX4_leadsOn 9 = .ok (.if_icmp .eq 26, 3) := by decide +kernel
theorem dX4_leadsOn_12 : decode cX4_leadsOn 12 = .ok (.iload_n 2, 1) := by decide +kernel
theorem dX4_leadsOn_13 : decode cX4_leadsOn 13 = .ok (.aload_n 0, 1) := by decide +kernel
theorem dX4_leadsOn_14 : decode cX4_leadsOn 14 = .ok (.getfield 44, 3) := by decide +kernel
theorem dX4_leadsOn_17 : decode cX4_leadsOn 17 = .ok (.iload_n 3, 1) := by decide +kernel
theorem dX4_leadsOn_18 : decode cX4_leadsOn 18 = .ok (.iaload, 1) := by decide +kernel
theorem dX4_leadsOn_19 : decode cX4_leadsOn 19 = .ok (.invokestatic 106, 3) := by decide +kernel
theorem dX4_leadsOn_22 : decode cX4_leadsOn 22 = .ok (.ifCond .ne 13, 3) := by decide +kernel
theorem dX4_leadsOn_25 : decode cX4_leadsOn 25 = .ok (.aload_n 0, 1) := by decide +kernel
theorem dX4_leadsOn_26 : decode cX4_leadsOn 26 = .ok (.getfield 53, 3) := by decide +kernel
theorem dX4_leadsOn_29 : decode cX4_leadsOn 29 = .ok (.iload_n 3, 1) := by decide +kernel
theorem dX4_leadsOn_30 : decode cX4_leadsOn 30 = .ok (.iaload, 1) := by decide +kernel
theorem dX4_leadsOn_31 : decode cX4_leadsOn 31 = .ok (.istore_n 3, 1) := by decide +kernel
theorem dX4_leadsOn_32 : decode cX4_leadsOn 32 = .ok (.goto (-25), 3) := by decide +kernel
theorem dX4_leadsOn_35 : decode cX4_leadsOn 35 = .ok (.iload_n 3, 1) := by decide +kernel
theorem dX4_leadsOn_36 : decode cX4_leadsOn 36 = .ok (.ireturn, 1) := by decide +kernel
theorem dX4_standsAt_0 : decode cX4_standsAt 0 = .ok (.aload_n 0, 1) := by decide +kernel
theorem dX4_standsAt_1 : decode cX4_standsAt 1 = .ok (.getfield 19, 3) := by decide +kernel
theorem dX4_standsAt_4 : decode cX4_standsAt 4 = .ok (.iload_n 1, 1) := by decide +kernel
theorem dX4_standsAt_5 : decode cX4_standsAt 5 = .ok (.iaload, 1) := by decide +kernel
theorem dX4_standsAt_6 : decode cX4_standsAt 6 = .ok (.istore_n 3, 1) := by decide +kernel
theorem dX4_standsAt_7 : decode cX4_standsAt 7 = .ok (.aload_n 0, 1) := by decide +kernel
theorem dX4_standsAt_8 : decode cX4_standsAt 8 = .ok (.iload_n 3, 1) := by decide +kernel
theorem dX4_standsAt_9 : decode cX4_standsAt 9 = .ok (.iload_n 2, 1) := by decide +kernel
theorem dX4_standsAt_10 : decode cX4_standsAt 10 = .ok (.invokevirtual 110, 3) := by decide +kernel
theorem dX4_standsAt_13 : decode cX4_standsAt 13 = .ok (.istore 4, 2) := by decide +kernel
theorem dX4_standsAt_15 : decode cX4_standsAt 15 = .ok (.iload 4, 2) := by decide +kernel
theorem dX4_standsAt_17 : decode cX4_standsAt 17 = .ok (.iconst (-1), 1) := by decide +kernel
theorem dX4_standsAt_18 : decode cX4_standsAt 18 = .ok (.if_icmp .eq 17, 3) := by decide +kernel
theorem dX4_standsAt_21 : decode cX4_standsAt 21 = .ok (.iload 4, 2) := by decide +kernel
theorem dX4_standsAt_23 : decode cX4_standsAt 23 = .ok (.istore_n 3, 1) := by decide +kernel
theorem dX4_standsAt_24 : decode cX4_standsAt 24 = .ok (.aload_n 0, 1) := by decide +kernel
theorem dX4_standsAt_25 : decode cX4_standsAt 25 = .ok (.iload_n 3, 1) := by decide +kernel
theorem dX4_standsAt_26 : decode cX4_standsAt 26 = .ok (.iload_n 2, 1) := by decide +kernel
theorem dX4_standsAt_27 : decode cX4_standsAt 27 = .ok (.invokevirtual 110, 3) := by decide +kernel
theorem dX4_standsAt_30 : decode cX4_standsAt 30 = .ok (.istore 4, 2) := by decide +kernel
theorem dX4_standsAt_32 : decode cX4_standsAt 32 = .ok (.goto (-17), 3) := by decide +kernel
theorem dX4_standsAt_35 : decode cX4_standsAt 35 = .ok (.iload_n 3, 1) := by decide +kernel
theorem dX4_standsAt_36 : decode cX4_standsAt 36 = .ok (.ireturn, 1) := by decide +kernel
theorem dX4_layRead_0 : decode cX4_layRead 0 = .ok (.iconst 0, 1) := by decide +kernel
theorem dX4_layRead_1 : decode cX4_layRead 1 = .ok (.istore_n 2, 1) := by decide +kernel
theorem dX4_layRead_2 : decode cX4_layRead 2 = .ok (.iload_n 2, 1) := by decide +kernel
theorem dX4_layRead_3 : decode cX4_layRead 3 = .ok (.aload_n 0, 1) := by decide +kernel
theorem dX4_layRead_4 : decode cX4_layRead 4 = .ok (.getfield 85, 3) := by decide +kernel
theorem dX4_layRead_7 : decode cX4_layRead 7 = .ok (.if_icmp .ge 16, 3) := by decide +kernel
theorem dX4_layRead_10 : decode cX4_layRead 10 = .ok (.aload_n 0, 1) := by decide +kernel
theorem dX4_layRead_11 : decode cX4_layRead 11 = .ok (.getfield 59, 3) := by decide +kernel
theorem dX4_layRead_14 : decode cX4_layRead 14 = .ok (.iload_n 2, 1) := by decide +kernel
theorem dX4_layRead_15 : decode cX4_layRead 15 = .ok (.iconst 0, 1) := by decide +kernel
theorem dX4_layRead_16 : decode cX4_layRead 16 = .ok (.bastore, 1) := by decide +kernel
theorem dX4_layRead_17 : decode cX4_layRead 17 = .ok (.iinc 2 1, 3) := by decide +kernel
theorem dX4_layRead_20 : decode cX4_layRead 20 = .ok (.goto (-18), 3) := by decide +kernel
theorem dX4_layRead_23 : decode cX4_layRead 23 = .ok (.iconst 0, 1) := by decide +kernel
theorem dX4_layRead_24 : decode cX4_layRead 24 = .ok (.istore_n 2, 1) := by decide +kernel
theorem dX4_layRead_25 : decode cX4_layRead 25 = .ok (.iload_n 2, 1) := by decide +kernel
theorem dX4_layRead_26 : decode cX4_layRead 26 = .ok (.aload_n 0, 1) := by decide +kernel
theorem dX4_layRead_27 : decode cX4_layRead 27 = .ok (.getfield 82, 3) := by decide +kernel
theorem dX4_layRead_30 : decode cX4_layRead 30 = .ok (.if_icmp .ge 30, 3) := by decide +kernel
theorem dX4_layRead_33 : decode cX4_layRead 33 = .ok (.aload_n 0, 1) := by decide +kernel
theorem dX4_layRead_34 : decode cX4_layRead 34 = .ok (.iload_n 2, 1) := by decide +kernel
theorem dX4_layRead_35 : decode cX4_layRead 35 = .ok (.iload_n 1, 1) := by decide +kernel
theorem dX4_layRead_36 : decode cX4_layRead 36 = .ok (.invokevirtual 114, 3) := by decide +kernel
theorem dX4_layRead_39 : decode cX4_layRead 39 = .ok (.ifCond .eq 15, 3) := by decide +kernel
theorem dX4_layRead_42 : decode cX4_layRead 42 = .ok (.aload_n 0, 1) := by decide +kernel
theorem dX4_layRead_43 : decode cX4_layRead 43 = .ok (.getfield 59, 3) := by decide +kernel
theorem dX4_layRead_46 : decode cX4_layRead 46 = .ok (.aload_n 0, 1) := by decide +kernel
theorem dX4_layRead_47 : decode cX4_layRead 47 = .ok (.iload_n 2, 1) := by decide +kernel
theorem dX4_layRead_48 : decode cX4_layRead 48 = .ok (.iload_n 1, 1) := by decide +kernel
theorem dX4_layRead_49 : decode cX4_layRead 49 = .ok (.invokevirtual 117, 3) := by decide +kernel
theorem dX4_layRead_52 : decode cX4_layRead 52 = .ok (.iconst 1, 1) := by decide +kernel
theorem dX4_layRead_53 : decode cX4_layRead 53 = .ok (.bastore, 1) := by decide +kernel
theorem dX4_layRead_54 : decode cX4_layRead 54 = .ok (.iinc 2 1, 3) := by decide +kernel
theorem dX4_layRead_57 : decode cX4_layRead 57 = .ok (.goto (-32), 3) := by decide +kernel
theorem dX4_layRead_60 : decode cX4_layRead 60 = .ok (.aload_n 0, 1) := by decide +kernel
theorem dX4_layRead_61 : decode cX4_layRead 61 = .ok (.iconst 0, 1) := by decide +kernel
theorem dX4_layRead_62 : decode cX4_layRead 62 = .ok (.putfield 120, 3) := by decide +kernel
theorem dX4_layRead_65 : decode cX4_layRead 65 = .ok (.iconst 0, 1) := by decide +kernel
theorem dX4_layRead_66 : decode cX4_layRead 66 = .ok (.istore_n 2, 1) := by decide +kernel
theorem dX4_layRead_67 : decode cX4_layRead 67 = .ok (.iload_n 2, 1) := by decide +kernel
theorem dX4_layRead_68 : decode cX4_layRead 68 = .ok (.aload_n 0, 1) := by decide +kernel
theorem dX4_layRead_69 : decode cX4_layRead 69 = .ok (.getfield 85, 3) := by decide +kernel
theorem dX4_layRead_72 : decode cX4_layRead 72 = .ok (.if_icmp .ge 48, 3) := by decide +kernel
theorem dX4_layRead_75 : decode cX4_layRead 75 = .ok (.aload_n 0, 1) := by decide +kernel
theorem dX4_layRead_76 : decode cX4_layRead 76 = .ok (.getfield 59, 3) := by decide +kernel
theorem dX4_layRead_79 : decode cX4_layRead 79 = .ok (.aload_n 0, 1) := by decide +kernel
theorem dX4_layRead_80 : decode cX4_layRead 80 = .ok (.getfield 47, 3) := by decide +kernel
theorem dX4_layRead_83 : decode cX4_layRead 83 = .ok (.iload_n 2, 1) := by decide +kernel
theorem dX4_layRead_84 : decode cX4_layRead 84 = .ok (.iaload, 1) := by decide +kernel
theorem dX4_layRead_85 : decode cX4_layRead 85 = .ok (.baload, 1) := by decide +kernel
theorem dX4_layRead_86 : decode cX4_layRead 86 = .ok (.ifCond .eq 28, 3) := by decide +kernel
theorem dX4_layRead_89 : decode cX4_layRead 89 = .ok (.aload_n 0, 1) := by decide +kernel
theorem dX4_layRead_90 : decode cX4_layRead 90 = .ok (.getfield 56, 3) := by decide +kernel
theorem dX4_layRead_93 : decode cX4_layRead 93 = .ok (.aload_n 0, 1) := by decide +kernel
theorem dX4_layRead_94 : decode cX4_layRead 94 = .ok (.getfield 120, 3) := by decide +kernel
theorem dX4_layRead_97 : decode cX4_layRead 97 = .ok (.aload_n 0, 1) := by decide +kernel
theorem dX4_layRead_98 : decode cX4_layRead 98 = .ok (.getfield 47, 3) := by decide +kernel
theorem dX4_layRead_101 : decode cX4_layRead 101 = .ok (.iload_n 2, 1) := by decide +kernel
theorem dX4_layRead_102 : decode cX4_layRead 102 = .ok (.iaload, 1) := by decide +kernel
theorem dX4_layRead_103 : decode cX4_layRead 103 = .ok (.iastore, 1) := by decide +kernel
theorem dX4_layRead_104 : decode cX4_layRead 104 = .ok (.aload_n 0, 1) := by decide +kernel
theorem dX4_layRead_105 : decode cX4_layRead 105 = .ok (.dup, 1) := by decide +kernel
theorem dX4_layRead_106 : decode cX4_layRead 106 = .ok (.getfield 120, 3) := by decide +kernel
theorem dX4_layRead_109 : decode cX4_layRead 109 = .ok (.iconst 1, 1) := by decide +kernel
theorem dX4_layRead_110 : decode cX4_layRead 110 = .ok (.iadd, 1) := by decide +kernel
theorem dX4_layRead_111 : decode cX4_layRead 111 = .ok (.putfield 120, 3) := by decide +kernel
theorem dX4_layRead_114 : decode cX4_layRead 114 = .ok (.iinc 2 1, 3) := by decide +kernel
theorem dX4_layRead_117 : decode cX4_layRead 117 = .ok (.goto (-50), 3) := by decide +kernel
theorem dX4_layRead_120 : decode cX4_layRead 120 = .ok (.return_, 1) := by decide +kernel
theorem dX4_inLine_0 : decode cX4_inLine 0 = .ok (.iconst 0, 1) := by decide +kernel
theorem dX4_inLine_1 : decode cX4_inLine 1 = .ok (.istore_n 2, 1) := by decide +kernel
theorem dX4_inLine_2 : decode cX4_inLine 2 = .ok (.aload_n 0, 1) := by decide +kernel
theorem dX4_inLine_3 : decode cX4_inLine 3 = .ok (.getfield 47, 3) := by decide +kernel
theorem dX4_inLine_6 : decode cX4_inLine 6 = .ok (.iload_n 2, 1) := by decide +kernel
theorem dX4_inLine_7 : decode cX4_inLine 7 = .ok (.iaload, 1) := by decide +kernel
theorem dX4_inLine_8 : decode cX4_inLine 8 = .ok (.iload_n 1, 1) := by decide +kernel
theorem dX4_inLine_9 : decode cX4_inLine 9 = .ok (.if_icmp .eq 9, 3) := by decide +kernel
theorem dX4_inLine_12 : decode cX4_inLine 12 = .ok (.iinc 2 1, 3) := by decide +kernel
theorem dX4_inLine_15 : decode cX4_inLine 15 = .ok (.goto (-13), 3) := by decide +kernel
theorem dX4_inLine_18 : decode cX4_inLine 18 = .ok (.iload_n 2, 1) := by decide +kernel
theorem dX4_inLine_19 : decode cX4_inLine 19 = .ok (.ireturn, 1) := by decide +kernel
theorem dX4_isAuthor_0 : decode cX4_isAuthor 0 = .ok (.iload_n 0, 1) := by decide +kernel
theorem dX4_isAuthor_1 : decode cX4_isAuthor 1 = .ok (.iconst 0, 1) := by decide +kernel
theorem dX4_isAuthor_2 : decode cX4_isAuthor 2 = .ok (.iconst 3, 1) := by decide +kernel
theorem dX4_isAuthor_3 : decode cX4_isAuthor 3 = .ok (.invokestatic 74, 3) := by decide +kernel
theorem dX4_isAuthor_6 : decode cX4_isAuthor 6 = .ok (.ireturn, 1) := by decide +kernel
theorem dX4_layChange_0 : decode cX4_layChange 0 = .ok (.aload_n 0, 1) := by decide +kernel
theorem dX4_layChange_1 : decode cX4_layChange 1 = .ok (.getfield 25, 3) := by decide +kernel
theorem dX4_layChange_4 : decode cX4_layChange 4 = .ok (.aload_n 0, 1) := by decide +kernel
theorem dX4_layChange_5 : decode cX4_layChange 5 = .ok (.getfield 96, 3) := by decide +kernel
theorem dX4_layChange_8 : decode cX4_layChange 8 = .ok (.iload_n 1, 1) := by decide +kernel
theorem dX4_layChange_9 : decode cX4_layChange 9 = .ok (.iastore, 1) := by decide +kernel
theorem dX4_layChange_10 : decode cX4_layChange 10 = .ok (.aload_n 0, 1) := by decide +kernel
theorem dX4_layChange_11 : decode cX4_layChange 11 = .ok (.getfield 28, 3) := by decide +kernel
theorem dX4_layChange_14 : decode cX4_layChange 14 = .ok (.aload_n 0, 1) := by decide +kernel
theorem dX4_layChange_15 : decode cX4_layChange 15 = .ok (.getfield 96, 3) := by decide +kernel
theorem dX4_layChange_18 : decode cX4_layChange 18 = .ok (.iload_n 2, 1) := by decide +kernel
theorem dX4_layChange_19 : decode cX4_layChange 19 = .ok (.iastore, 1) := by decide +kernel
theorem dX4_layChange_20 : decode cX4_layChange 20 = .ok (.aload_n 0, 1) := by decide +kernel
theorem dX4_layChange_21 : decode cX4_layChange 21 = .ok (.getfield 31, 3) := by decide +kernel
theorem dX4_layChange_24 : decode cX4_layChange 24 = .ok (.aload_n 0, 1) := by decide +kernel
theorem dX4_layChange_25 : decode cX4_layChange 25 = .ok (.getfield 96, 3) := by decide +kernel
theorem dX4_layChange_28 : decode cX4_layChange 28 = .ok (.iconst 0, 1) := by decide +kernel
theorem dX4_layChange_29 : decode cX4_layChange 29 = .ok (.iastore, 1) := by decide +kernel
theorem dX4_layChange_30 : decode cX4_layChange 30 = .ok (.aload_n 0, 1) := by decide +kernel
theorem dX4_layChange_31 : decode cX4_layChange 31 = .ok (.getfield 34, 3) := by decide +kernel
theorem dX4_layChange_34 : decode cX4_layChange 34 = .ok (.aload_n 0, 1) := by decide +kernel
theorem dX4_layChange_35 : decode cX4_layChange 35 = .ok (.getfield 96, 3) := by decide +kernel
theorem dX4_layChange_38 : decode cX4_layChange 38 = .ok (.iconst 0, 1) := by decide +kernel
theorem dX4_layChange_39 : decode cX4_layChange 39 = .ok (.bastore, 1) := by decide +kernel
theorem dX4_layChange_40 : decode cX4_layChange 40 = .ok (.aload_n 0, 1) := by decide +kernel
theorem dX4_layChange_41 : decode cX4_layChange 41 = .ok (.dup, 1) := by decide +kernel
theorem dX4_layChange_42 : decode cX4_layChange 42 = .ok (.getfield 96, 3) := by decide +kernel
theorem dX4_layChange_45 : decode cX4_layChange 45 = .ok (.iconst 1, 1) := by decide +kernel
theorem dX4_layChange_46 : decode cX4_layChange 46 = .ok (.iadd, 1) := by decide +kernel
theorem dX4_layChange_47 : decode cX4_layChange 47 = .ok (.putfield 96, 3) := by decide +kernel
theorem dX4_layChange_50 : decode cX4_layChange 50 = .ok (.aload_n 0, 1) := by decide +kernel
theorem dX4_layChange_51 : decode cX4_layChange 51 = .ok (.getfield 96, 3) := by decide +kernel
theorem dX4_layChange_54 : decode cX4_layChange 54 = .ok (.iconst 1, 1) := by decide +kernel
theorem dX4_layChange_55 : decode cX4_layChange 55 = .ok (.isub, 1) := by decide +kernel
theorem dX4_layChange_56 : decode cX4_layChange 56 = .ok (.ireturn, 1) := by decide +kernel
theorem dX4_ahead_0 : decode cX4_ahead 0 = .ok (.iload_n 1, 1) := by decide +kernel
theorem dX4_ahead_1 : decode cX4_ahead 1 = .ok (.aload_n 0, 1) := by decide +kernel
theorem dX4_ahead_2 : decode cX4_ahead 2 = .ok (.getfield 120, 3) := by decide +kernel
theorem dX4_ahead_5 : decode cX4_ahead 5 = .ok (.if_icmp .ge 16, 3) := by decide +kernel
theorem dX4_ahead_8 : decode cX4_ahead 8 = .ok (.aload_n 0, 1) := by decide +kernel
theorem dX4_ahead_9 : decode cX4_ahead 9 = .ok (.aload_n 0, 1) := by decide +kernel
theorem dX4_ahead_10 : decode cX4_ahead 10 = .ok (.getfield 56, 3) := by decide +kernel
theorem dX4_ahead_13 : decode cX4_ahead 13 = .ok (.iload_n 1, 1) := by decide +kernel
theorem dX4_ahead_14 : decode cX4_ahead 14 = .ok (.iaload, 1) := by decide +kernel
theorem dX4_ahead_15 : decode cX4_ahead 15 = .ok (.invokevirtual 123, 3) := by decide +kernel
theorem dX4_ahead_18 : decode cX4_ahead 18 = .ok (.goto 7, 3) := by decide +kernel
theorem dX4_ahead_21 : decode cX4_ahead 21 = .ok (.aload_n 0, 1) := by decide +kernel
theorem dX4_ahead_22 : decode cX4_ahead 22 = .ok (.getfield 85, 3) := by decide +kernel
theorem dX4_ahead_25 : decode cX4_ahead 25 = .ok (.ireturn, 1) := by decide +kernel
theorem dX4_insert_0 : decode cX4_insert 0 = .ok (.iload_n 1, 1) := by decide +kernel
theorem dX4_insert_1 : decode cX4_insert 1 = .ok (.invokestatic 127, 3) := by decide +kernel
theorem dX4_insert_4 : decode cX4_insert 4 = .ok (.ifCond .ne 7, 3) := by decide +kernel
theorem dX4_insert_7 : decode cX4_insert 7 = .ok (.sipush (-1001), 3) := by decide +kernel
theorem dX4_insert_10 : decode cX4_insert 10 = .ok (.ireturn, 1) := by decide +kernel
theorem dX4_insert_11 : decode cX4_insert 11 = .ok (.aload_n 0, 1) := by decide +kernel
theorem dX4_insert_12 : decode cX4_insert 12 = .ok (.aload_n 0, 1) := by decide +kernel
theorem dX4_insert_13 : decode cX4_insert 13 = .ok (.iload_n 1, 1) := by decide +kernel
theorem dX4_insert_14 : decode cX4_insert 14 = .ok (.iconst 2, 1) := by decide +kernel
theorem dX4_insert_15 : decode cX4_insert 15 = .ok (.iadd, 1) := by decide +kernel
theorem dX4_insert_16 : decode cX4_insert 16 = .ok (.invokevirtual 131, 3) := by decide +kernel
theorem dX4_insert_19 : decode cX4_insert 19 = .ok (.invokevirtual 134, 3) := by decide +kernel
theorem dX4_insert_22 : decode cX4_insert 22 = .ok (.iload_n 2, 1) := by decide +kernel
theorem dX4_insert_23 : decode cX4_insert 23 = .ok (.iconst 0, 1) := by decide +kernel
theorem dX4_insert_24 : decode cX4_insert 24 = .ok (.aload_n 0, 1) := by decide +kernel
theorem dX4_insert_25 : decode cX4_insert 25 = .ok (.getfield 120, 3) := by decide +kernel
theorem dX4_insert_28 : decode cX4_insert 28 = .ok (.invokestatic 74, 3) := by decide +kernel
theorem dX4_insert_31 : decode cX4_insert 31 = .ok (.ifCond .ne 7, 3) := by decide +kernel
theorem dX4_insert_34 : decode cX4_insert 34 = .ok (.sipush (-1001), 3) := by decide +kernel
theorem dX4_insert_37 : decode cX4_insert 37 = .ok (.ireturn, 1) := by decide +kernel
theorem dX4_insert_38 : decode cX4_insert 38 = .ok (.aload_n 0, 1) := by decide +kernel
theorem dX4_insert_39 : decode cX4_insert 39 = .ok (.getfield 78, 3) := by decide +kernel
theorem dX4_insert_42 : decode cX4_insert 42 = .ok (.ifCond .ne 7, 3) := by decide +kernel
theorem dX4_insert_45 : decode cX4_insert 45 = .ok (.sipush (-1003), 3) := by decide +kernel
theorem dX4_insert_48 : decode cX4_insert 48 = .ok (.ireturn, 1) := by decide +kernel
theorem dX4_insert_49 : decode cX4_insert 49 = .ok (.aload_n 0, 1) := by decide +kernel
theorem dX4_insert_50 : decode cX4_insert 50 = .ok (.getfield 82, 3) := by decide +kernel
theorem dX4_insert_53 : decode cX4_insert 53 = .ok (.aload_n 0, 1) := by decide +kernel
theorem dX4_insert_54 : decode cX4_insert 54 = .ok (.getfield 78, 3) := by decide +kernel
theorem dX4_insert_57 : decode cX4_insert 57 = .ok (.iadd, 1) := by decide +kernel
theorem dX4_insert_58 : decode cX4_insert 58 = .ok (.bipush 64, 2) := by decide +kernel
theorem dX4_insert_60 : decode cX4_insert 60 = .ok (.if_icmp .gt 26, 3) := by decide +kernel
theorem dX4_insert_63 : decode cX4_insert 63 = .ok (.aload_n 0, 1) := by decide +kernel
theorem dX4_insert_64 : decode cX4_insert 64 = .ok (.getfield 96, 3) := by decide +kernel
theorem dX4_insert_67 : decode cX4_insert 67 = .ok (.bipush 12, 2) := by decide +kernel
theorem dX4_insert_69 : decode cX4_insert 69 = .ok (.if_icmp .eq 17, 3) := by decide +kernel
theorem dX4_insert_72 : decode cX4_insert 72 = .ok (.aload_n 0, 1) := by decide +kernel
theorem dX4_insert_73 : decode cX4_insert 73 = .ok (.getfield 85, 3) := by decide +kernel
theorem dX4_insert_76 : decode cX4_insert 76 = .ok (.aload_n 0, 1) := by decide +kernel
theorem dX4_insert_77 : decode cX4_insert 77 = .ok (.getfield 78, 3) := by decide +kernel
theorem dX4_insert_80 : decode cX4_insert 80 = .ok (.iadd, 1) := by decide +kernel
theorem dX4_insert_81 : decode cX4_insert 81 = .ok (.bipush 90, 2) := by decide +kernel
theorem dX4_insert_83 : decode cX4_insert 83 = .ok (.if_icmp .le 7, 3) := by decide +kernel
theorem dX4_insert_86 : decode cX4_insert 86 = .ok (.sipush (-1004), 3) := by decide +kernel
theorem dX4_insert_89 : decode cX4_insert 89 = .ok (.ireturn, 1) := by decide +kernel
theorem dX4_insert_90 : decode cX4_insert 90 = .ok (.aload_n 0, 1) := by decide +kernel
theorem dX4_insert_91 : decode cX4_insert 91 = .ok (.iload_n 2, 1) := by decide +kernel
theorem dX4_insert_92 : decode cX4_insert 92 = .ok (.invokevirtual 138, 3) := by decide +kernel
theorem dX4_insert_95 : decode cX4_insert 95 = .ok (.istore_n 3, 1) := by decide +kernel
theorem dX4_insert_96 : decode cX4_insert 96 = .ok (.aload_n 0, 1) := by decide +kernel
theorem dX4_insert_97 : decode cX4_insert 97 = .ok (.iconst 0, 1) := by decide +kernel
theorem dX4_insert_98 : decode cX4_insert 98 = .ok (.iload_n 1, 1) := by decide +kernel
theorem dX4_insert_99 : decode cX4_insert 99 = .ok (.invokevirtual 141, 3) := by decide +kernel
theorem dX4_insert_102 : decode cX4_insert 102 = .ok (.istore 4, 2) := by decide +kernel
theorem dX4_insert_104 : decode cX4_insert 104 = .ok (.iconst 0, 1) := by decide +kernel
theorem dX4_insert_105 : decode cX4_insert 105 = .ok (.istore 5, 2) := by decide +kernel
theorem dX4_insert_107 : decode cX4_insert 107 = .ok (.iload 5, 2) := by decide +kernel
theorem dX4_insert_109 : decode cX4_insert 109 = .ok (.aload_n 0, 1) := by decide +kernel
theorem dX4_insert_110 : decode cX4_insert 110 = .ok (.getfield 78, 3) := by decide +kernel
theorem dX4_insert_113 : decode cX4_insert 113 = .ok (.if_icmp .ge 26, 3) := by decide +kernel
theorem dX4_insert_116 : decode cX4_insert 116 = .ok (.aload_n 0, 1) := by decide +kernel
theorem dX4_insert_117 : decode cX4_insert 117 = .ok (.aload_n 0, 1) := by decide +kernel
theorem dX4_insert_118 : decode cX4_insert 118 = .ok (.getfield 7, 3) := by decide +kernel
theorem dX4_insert_121 : decode cX4_insert 121 = .ok (.iload 5, 2) := by decide +kernel
theorem dX4_insert_123 : decode cX4_insert 123 = .ok (.iaload, 1) := by decide +kernel
theorem dX4_insert_124 : decode cX4_insert 124 = .ok (.iload 4, 2) := by decide +kernel
theorem dX4_insert_126 : decode cX4_insert 126 = .ok (.iload_n 3, 1) := by decide +kernel
theorem dX4_insert_127 : decode cX4_insert 127 = .ok (.iload 5, 2) := by decide +kernel
theorem dX4_insert_129 : decode cX4_insert 129 = .ok (.iadd, 1) := by decide +kernel
theorem dX4_insert_130 : decode cX4_insert 130 = .ok (.invokevirtual 99, 3) := by decide +kernel
theorem dX4_insert_133 : decode cX4_insert 133 = .ok (.iinc 5 1, 3) := by decide +kernel
theorem dX4_insert_136 : decode cX4_insert 136 = .ok (.goto (-29), 3) := by decide +kernel
theorem dX4_insert_139 : decode cX4_insert 139 = .ok (.aload_n 0, 1) := by decide +kernel
theorem dX4_insert_140 : decode cX4_insert 140 = .ok (.iconst 0, 1) := by decide +kernel
theorem dX4_insert_141 : decode cX4_insert 141 = .ok (.putfield 78, 3) := by decide +kernel
theorem dX4_insert_144 : decode cX4_insert 144 = .ok (.iload 4, 2) := by decide +kernel
theorem dX4_insert_146 : decode cX4_insert 146 = .ok (.ireturn, 1) := by decide +kernel
theorem dX4_remove_0 : decode cX4_remove 0 = .ok (.iload_n 1, 1) := by decide +kernel
theorem dX4_remove_1 : decode cX4_remove 1 = .ok (.invokestatic 127, 3) := by decide +kernel
theorem dX4_remove_4 : decode cX4_remove 4 = .ok (.ifCond .ne 7, 3) := by decide +kernel
theorem dX4_remove_7 : decode cX4_remove 7 = .ok (.sipush (-1001), 3) := by decide +kernel
theorem dX4_remove_10 : decode cX4_remove 10 = .ok (.ireturn, 1) := by decide +kernel
theorem dX4_remove_11 : decode cX4_remove 11 = .ok (.aload_n 0, 1) := by decide +kernel
theorem dX4_remove_12 : decode cX4_remove 12 = .ok (.aload_n 0, 1) := by decide +kernel
theorem dX4_remove_13 : decode cX4_remove 13 = .ok (.iload_n 1, 1) := by decide +kernel
theorem dX4_remove_14 : decode cX4_remove 14 = .ok (.iconst 2, 1) := by decide +kernel
theorem dX4_remove_15 : decode cX4_remove 15 = .ok (.iadd, 1) := by decide +kernel
theorem dX4_remove_16 : decode cX4_remove 16 = .ok (.invokevirtual 131, 3) := by decide +kernel
theorem dX4_remove_19 : decode cX4_remove 19 = .ok (.invokevirtual 134, 3) := by decide +kernel
theorem dX4_remove_22 : decode cX4_remove 22 = .ok (.iload_n 2, 1) := by decide +kernel
theorem dX4_remove_23 : decode cX4_remove 23 = .ok (.iconst 0, 1) := by decide +kernel
theorem dX4_remove_24 : decode cX4_remove 24 = .ok (.aload_n 0, 1) := by decide +kernel
theorem dX4_remove_25 : decode cX4_remove 25 = .ok (.getfield 120, 3) := by decide +kernel
theorem dX4_remove_28 : decode cX4_remove 28 = .ok (.iconst 1, 1) := by decide +kernel
theorem dX4_remove_29 : decode cX4_remove 29 = .ok (.isub, 1) := by decide +kernel
theorem dX4_remove_30 : decode cX4_remove 30 = .ok (.invokestatic 74, 3) := by decide +kernel
theorem dX4_remove_33 : decode cX4_remove 33 = .ok (.ifCond .ne 7, 3) := by decide +kernel
theorem dX4_remove_36 : decode cX4_remove 36 = .ok (.sipush (-1001), 3) := by decide +kernel
theorem dX4_remove_39 : decode cX4_remove 39 = .ok (.ireturn, 1) := by decide +kernel
theorem dX4_remove_40 : decode cX4_remove 40 = .ok (.iload_n 3, 1) := by decide +kernel
theorem dX4_remove_41 : decode cX4_remove 41 = .ok (.iconst 1, 1) := by decide +kernel
theorem dX4_remove_42 : decode cX4_remove 42 = .ok (.aload_n 0, 1) := by decide +kernel
theorem dX4_remove_43 : decode cX4_remove 43 = .ok (.getfield 120, 3) := by decide +kernel
theorem dX4_remove_46 : decode cX4_remove 46 = .ok (.iload_n 2, 1) := by decide +kernel
theorem dX4_remove_47 : decode cX4_remove 47 = .ok (.isub, 1) := by decide +kernel
theorem dX4_remove_48 : decode cX4_remove 48 = .ok (.invokestatic 74, 3) := by decide +kernel
theorem dX4_remove_51 : decode cX4_remove 51 = .ok (.ifCond .ne 7, 3) := by decide +kernel
theorem dX4_remove_54 : decode cX4_remove 54 = .ok (.sipush (-1002), 3) := by decide +kernel
theorem dX4_remove_57 : decode cX4_remove 57 = .ok (.ireturn, 1) := by decide +kernel
theorem dX4_remove_58 : decode cX4_remove 58 = .ok (.aload_n 0, 1) := by decide +kernel
theorem dX4_remove_59 : decode cX4_remove 59 = .ok (.getfield 96, 3) := by decide +kernel
theorem dX4_remove_62 : decode cX4_remove 62 = .ok (.bipush 12, 2) := by decide +kernel
theorem dX4_remove_64 : decode cX4_remove 64 = .ok (.if_icmp .ne 7, 3) := by decide +kernel
theorem dX4_remove_67 : decode cX4_remove 67 = .ok (.sipush (-1004), 3) := by decide +kernel
theorem dX4_remove_70 : decode cX4_remove 70 = .ok (.ireturn, 1) := by decide +kernel
theorem dX4_remove_71 : decode cX4_remove 71 = .ok (.aload_n 0, 1) := by decide +kernel
theorem dX4_remove_72 : decode cX4_remove 72 = .ok (.iconst 1, 1) := by decide +kernel
theorem dX4_remove_73 : decode cX4_remove 73 = .ok (.iload_n 1, 1) := by decide +kernel
theorem dX4_remove_74 : decode cX4_remove 74 = .ok (.invokevirtual 141, 3) := by decide +kernel
theorem dX4_remove_77 : decode cX4_remove 77 = .ok (.istore 4, 2) := by decide +kernel
theorem dX4_remove_79 : decode cX4_remove 79 = .ok (.iload_n 2, 1) := by decide +kernel
theorem dX4_remove_80 : decode cX4_remove 80 = .ok (.istore 5, 2) := by decide +kernel
theorem dX4_remove_82 : decode cX4_remove 82 = .ok (.iload 5, 2) := by decide +kernel
theorem dX4_remove_84 : decode cX4_remove 84 = .ok (.iload_n 2, 1) := by decide +kernel
theorem dX4_remove_85 : decode cX4_remove 85 = .ok (.iload_n 3, 1) := by decide +kernel
theorem dX4_remove_86 : decode cX4_remove 86 = .ok (.iadd, 1) := by decide +kernel
theorem dX4_remove_87 : decode cX4_remove 87 = .ok (.if_icmp .ge 33, 3) := by decide +kernel
theorem dX4_remove_90 : decode cX4_remove 90 = .ok (.aload_n 0, 1) := by decide +kernel
theorem dX4_remove_91 : decode cX4_remove 91 = .ok (.getfield 22, 3) := by decide +kernel
theorem dX4_remove_94 : decode cX4_remove 94 = .ok (.aload_n 0, 1) := by decide +kernel
theorem dX4_remove_95 : decode cX4_remove 95 = .ok (.getfield 38, 3) := by decide +kernel
theorem dX4_remove_98 : decode cX4_remove 98 = .ok (.aload_n 0, 1) := by decide +kernel
theorem dX4_remove_99 : decode cX4_remove 99 = .ok (.getfield 56, 3) := by decide +kernel
theorem dX4_remove_102 : decode cX4_remove 102 = .ok (.iload 5, 2) := by decide +kernel
theorem dX4_remove_104 : decode cX4_remove 104 = .ok (.iaload, 1) := by decide +kernel
theorem dX4_remove_105 : decode cX4_remove 105 = .ok (.iaload, 1) := by decide +kernel
theorem dX4_remove_106 : decode cX4_remove 106 = .ok (.dup2, 1) := by decide +kernel
theorem dX4_remove_107 : decode cX4_remove 107 = .ok (.iaload, 1) := by decide +kernel
theorem dX4_remove_108 : decode cX4_remove 108 = .ok (.iconst 1, 1) := by decide +kernel
theorem dX4_remove_109 : decode cX4_remove 109 = .ok (.iload 4, 2) := by decide +kernel
theorem dX4_remove_111 : decode cX4_remove 111 = .ok (.ishl, 1) := by decide +kernel
theorem dX4_remove_112 : decode cX4_remove 112 = .ok (.ior, 1) := by decide +kernel
theorem dX4_remove_113 : decode cX4_remove 113 = .ok (.iastore, 1) := by decide +kernel
theorem dX4_remove_114 : decode cX4_remove 114 = .ok (.iinc 5 1, 3) := by decide +kernel
theorem dX4_remove_117 : decode cX4_remove 117 = .ok (.goto (-35), 3) := by decide +kernel
theorem dX4_remove_120 : decode cX4_remove 120 = .ok (.iload 4, 2) := by decide +kernel
theorem dX4_remove_122 : decode cX4_remove 122 = .ok (.ireturn, 1) := by decide +kernel
theorem dX4_move_0 : decode cX4_move 0 = .ok (.iload_n 1, 1) := by decide +kernel
theorem dX4_move_1 : decode cX4_move 1 = .ok (.invokestatic 127, 3) := by decide +kernel
theorem dX4_move_4 : decode cX4_move 4 = .ok (.ifCond .ne 7, 3) := by decide +kernel
theorem dX4_move_7 : decode cX4_move 7 = .ok (.sipush (-1001), 3) := by decide +kernel
theorem dX4_move_10 : decode cX4_move 10 = .ok (.ireturn, 1) := by decide +kernel
theorem dX4_move_11 : decode cX4_move 11 = .ok (.aload_n 0, 1) := by decide +kernel
theorem dX4_move_12 : decode cX4_move 12 = .ok (.aload_n 0, 1) := by decide +kernel
theorem dX4_move_13 : decode cX4_move 13 = .ok (.iload_n 1, 1) := by decide +kernel
theorem dX4_move_14 : decode cX4_move 14 = .ok (.iconst 2, 1) := by decide +kernel
theorem dX4_move_15 : decode cX4_move 15 = .ok (.iadd, 1) := by decide +kernel
theorem dX4_move_16 : decode cX4_move 16 = .ok (.invokevirtual 131, 3) := by decide +kernel
theorem dX4_move_19 : decode cX4_move 19 = .ok (.invokevirtual 134, 3) := by decide +kernel
theorem dX4_move_22 : decode cX4_move 22 = .ok (.iload_n 2, 1) := by decide +kernel
theorem dX4_move_23 : decode cX4_move 23 = .ok (.iconst 0, 1) := by decide +kernel
theorem dX4_move_24 : decode cX4_move 24 = .ok (.aload_n 0, 1) := by decide +kernel
theorem dX4_move_25 : decode cX4_move 25 = .ok (.getfield 120, 3) := by decide +kernel
theorem dX4_move_28 : decode cX4_move 28 = .ok (.iconst 1, 1) := by decide +kernel
theorem dX4_move_29 : decode cX4_move 29 = .ok (.isub, 1) := by decide +kernel
theorem dX4_move_30 : decode cX4_move 30 = .ok (.invokestatic 74, 3) := by decide +kernel
theorem dX4_move_33 : decode cX4_move 33 = .ok (.ifCond .ne 7, 3) := by decide +kernel
theorem dX4_move_36 : decode cX4_move 36 = .ok (.sipush (-1001), 3) := by decide +kernel
theorem dX4_move_39 : decode cX4_move 39 = .ok (.ireturn, 1) := by decide +kernel
theorem dX4_move_40 : decode cX4_move 40 = .ok (.iload_n 3, 1) := by decide +kernel
theorem dX4_move_41 : decode cX4_move 41 = .ok (.iconst 1, 1) := by decide +kernel
theorem dX4_move_42 : decode cX4_move 42 = .ok (.aload_n 0, 1) := by decide +kernel
theorem dX4_move_43 : decode cX4_move 43 = .ok (.getfield 120, 3) := by decide +kernel
theorem dX4_move_46 : decode cX4_move 46 = .ok (.iload_n 2, 1) := by decide +kernel
theorem dX4_move_47 : decode cX4_move 47 = .ok (.isub, 1) := by decide +kernel
theorem dX4_move_48 : decode cX4_move 48 = .ok (.invokestatic 74, 3) := by decide +kernel
theorem dX4_move_51 : decode cX4_move 51 = .ok (.ifCond .ne 7, 3) := by decide +kernel
theorem dX4_move_54 : decode cX4_move 54 = .ok (.sipush (-1002), 3) := by decide +kernel
theorem dX4_move_57 : decode cX4_move 57 = .ok (.ireturn, 1) := by decide +kernel
theorem dX4_move_58 : decode cX4_move 58 = .ok (.iload 4, 2) := by decide +kernel
theorem dX4_move_60 : decode cX4_move 60 = .ok (.iconst 0, 1) := by decide +kernel
theorem dX4_move_61 : decode cX4_move 61 = .ok (.aload_n 0, 1) := by decide +kernel
theorem dX4_move_62 : decode cX4_move 62 = .ok (.getfield 120, 3) := by decide +kernel
theorem dX4_move_65 : decode cX4_move 65 = .ok (.invokestatic 74, 3) := by decide +kernel
theorem dX4_move_68 : decode cX4_move 68 = .ok (.ifCond .ne 7, 3) := by decide +kernel
theorem dX4_move_71 : decode cX4_move 71 = .ok (.sipush (-1001), 3) := by decide +kernel
theorem dX4_move_74 : decode cX4_move 74 = .ok (.ireturn, 1) := by decide +kernel
theorem dX4_move_75 : decode cX4_move 75 = .ok (.iload 4, 2) := by decide +kernel
theorem dX4_move_77 : decode cX4_move 77 = .ok (.iload_n 2, 1) := by decide +kernel
theorem dX4_move_78 : decode cX4_move 78 = .ok (.if_icmp .le 15, 3) := by decide +kernel
theorem dX4_move_81 : decode cX4_move 81 = .ok (.iload 4, 2) := by decide +kernel
theorem dX4_move_83 : decode cX4_move 83 = .ok (.iload_n 2, 1) := by decide +kernel
theorem dX4_move_84 : decode cX4_move 84 = .ok (.iload_n 3, 1) := by decide +kernel
theorem dX4_move_85 : decode cX4_move 85 = .ok (.iadd, 1) := by decide +kernel
theorem dX4_move_86 : decode cX4_move 86 = .ok (.if_icmp .ge 7, 3) := by decide +kernel
theorem dX4_move_89 : decode cX4_move 89 = .ok (.sipush (-1003), 3) := by decide +kernel
theorem dX4_move_92 : decode cX4_move 92 = .ok (.ireturn, 1) := by decide +kernel
theorem dX4_move_93 : decode cX4_move 93 = .ok (.aload_n 0, 1) := by decide +kernel
theorem dX4_move_94 : decode cX4_move 94 = .ok (.getfield 96, 3) := by decide +kernel
theorem dX4_move_97 : decode cX4_move 97 = .ok (.bipush 12, 2) := by decide +kernel
theorem dX4_move_99 : decode cX4_move 99 = .ok (.if_icmp .eq 14, 3) := by decide +kernel
theorem dX4_move_102 : decode cX4_move 102 = .ok (.aload_n 0, 1) := by decide +kernel
theorem dX4_move_103 : decode cX4_move 103 = .ok (.getfield 85, 3) := by decide +kernel
theorem dX4_move_106 : decode cX4_move 106 = .ok (.iload_n 3, 1) := by decide +kernel
theorem dX4_move_107 : decode cX4_move 107 = .ok (.iadd, 1) := by decide +kernel
theorem dX4_move_108 : decode cX4_move 108 = .ok (.bipush 90, 2) := by decide +kernel
theorem dX4_move_110 : decode cX4_move 110 = .ok (.if_icmp .le 7, 3) := by decide +kernel
theorem dX4_move_113 : decode cX4_move 113 = .ok (.sipush (-1004), 3) := by decide +kernel
theorem dX4_move_116 : decode cX4_move 116 = .ok (.ireturn, 1) := by decide +kernel
theorem dX4_move_117 : decode cX4_move 117 = .ok (.aload_n 0, 1) := by decide +kernel
theorem dX4_move_118 : decode cX4_move 118 = .ok (.iload 4, 2) := by decide +kernel
theorem dX4_move_120 : decode cX4_move 120 = .ok (.invokevirtual 138, 3) := by decide +kernel
theorem dX4_move_123 : decode cX4_move 123 = .ok (.istore 5, 2) := by decide +kernel
theorem dX4_move_125 : decode cX4_move 125 = .ok (.aload_n 0, 1) := by decide +kernel
theorem dX4_move_126 : decode cX4_move 126 = .ok (.iconst 2, 1) := by decide +kernel
theorem dX4_move_127 : decode cX4_move 127 = .ok (.iload_n 1, 1) := by decide +kernel
theorem dX4_move_128 : decode cX4_move 128 = .ok (.invokevirtual 141, 3) := by decide +kernel
theorem dX4_move_131 : decode cX4_move 131 = .ok (.istore 6, 2) := by decide +kernel
theorem dX4_move_133 : decode cX4_move 133 = .ok (.iconst 0, 1) := by decide +kernel
theorem dX4_move_134 : decode cX4_move 134 = .ok (.istore 7, 2) := by decide +kernel
theorem dX4_move_136 : decode cX4_move 136 = .ok (.iload 7, 2) := by decide +kernel
theorem dX4_move_138 : decode cX4_move 138 = .ok (.iload_n 3, 1) := by decide +kernel
theorem dX4_move_139 : decode cX4_move 139 = .ok (.if_icmp .ge 43, 3) := by decide +kernel
theorem dX4_move_142 : decode cX4_move 142 = .ok (.aload_n 0, 1) := by decide +kernel
theorem dX4_move_143 : decode cX4_move 143 = .ok (.aload_n 0, 1) := by decide +kernel
theorem dX4_move_144 : decode cX4_move 144 = .ok (.getfield 38, 3) := by decide +kernel
theorem dX4_move_147 : decode cX4_move 147 = .ok (.aload_n 0, 1) := by decide +kernel
theorem dX4_move_148 : decode cX4_move 148 = .ok (.getfield 56, 3) := by decide +kernel
theorem dX4_move_151 : decode cX4_move 151 = .ok (.iload_n 2, 1) := by decide +kernel
theorem dX4_move_152 : decode cX4_move 152 = .ok (.iload 7, 2) := by decide +kernel
theorem dX4_move_154 : decode cX4_move 154 = .ok (.iadd, 1) := by decide +kernel
theorem dX4_move_155 : decode cX4_move 155 = .ok (.iaload, 1) := by decide +kernel
theorem dX4_move_156 : decode cX4_move 156 = .ok (.iaload, 1) := by decide +kernel
theorem dX4_move_157 : decode cX4_move 157 = .ok (.aload_n 0, 1) := by decide +kernel
theorem dX4_move_158 : decode cX4_move 158 = .ok (.getfield 56, 3) := by decide +kernel
theorem dX4_move_161 : decode cX4_move 161 = .ok (.iload_n 2, 1) := by decide +kernel
theorem dX4_move_162 : decode cX4_move 162 = .ok (.iload 7, 2) := by decide +kernel
theorem dX4_move_164 : decode cX4_move 164 = .ok (.iadd, 1) := by decide +kernel
theorem dX4_move_165 : decode cX4_move 165 = .ok (.iaload, 1) := by decide +kernel
theorem dX4_move_166 : decode cX4_move 166 = .ok (.iload 6, 2) := by decide +kernel
theorem dX4_move_168 : decode cX4_move 168 = .ok (.iload 5, 2) := by decide +kernel
theorem dX4_move_170 : decode cX4_move 170 = .ok (.iload 7, 2) := by decide +kernel
theorem dX4_move_172 : decode cX4_move 172 = .ok (.iadd, 1) := by decide +kernel
theorem dX4_move_173 : decode cX4_move 173 = .ok (.invokevirtual 88, 3) := by decide +kernel
theorem dX4_move_176 : decode cX4_move 176 = .ok (.iinc 7 1, 3) := by decide +kernel
theorem dX4_move_179 : decode cX4_move 179 = .ok (.goto (-43), 3) := by decide +kernel
theorem dX4_move_182 : decode cX4_move 182 = .ok (.iload 6, 2) := by decide +kernel
theorem dX4_move_184 : decode cX4_move 184 = .ok (.ireturn, 1) := by decide +kernel
theorem dX4_isChange_0 : decode cX4_isChange 0 = .ok (.iload_n 1, 1) := by decide +kernel
theorem dX4_isChange_1 : decode cX4_isChange 1 = .ok (.iconst 0, 1) := by decide +kernel
theorem dX4_isChange_2 : decode cX4_isChange 2 = .ok (.aload_n 0, 1) := by decide +kernel
theorem dX4_isChange_3 : decode cX4_isChange 3 = .ok (.getfield 96, 3) := by decide +kernel
theorem dX4_isChange_6 : decode cX4_isChange 6 = .ok (.iconst 1, 1) := by decide +kernel
theorem dX4_isChange_7 : decode cX4_isChange 7 = .ok (.isub, 1) := by decide +kernel
theorem dX4_isChange_8 : decode cX4_isChange 8 = .ok (.invokestatic 74, 3) := by decide +kernel
theorem dX4_isChange_11 : decode cX4_isChange 11 = .ok (.ireturn, 1) := by decide +kernel
theorem dX4_show_0 : decode cX4_show 0 = .ok (.aload_n 0, 1) := by decide +kernel
theorem dX4_show_1 : decode cX4_show 1 = .ok (.iload_n 1, 1) := by decide +kernel
theorem dX4_show_2 : decode cX4_show 2 = .ok (.invokevirtual 144, 3) := by decide +kernel
theorem dX4_show_5 : decode cX4_show 5 = .ok (.ifCond .ne 7, 3) := by decide +kernel
theorem dX4_show_8 : decode cX4_show 8 = .ok (.sipush (-1001), 3) := by decide +kernel
theorem dX4_show_11 : decode cX4_show 11 = .ok (.ireturn, 1) := by decide +kernel
theorem dX4_show_12 : decode cX4_show 12 = .ok (.aload_n 0, 1) := by decide +kernel
theorem dX4_show_13 : decode cX4_show 13 = .ok (.getfield 34, 3) := by decide +kernel
theorem dX4_show_16 : decode cX4_show 16 = .ok (.iload_n 1, 1) := by decide +kernel
theorem dX4_show_17 : decode cX4_show 17 = .ok (.baload, 1) := by decide +kernel
theorem dX4_show_18 : decode cX4_show 18 = .ok (.ifCond .eq 7, 3) := by decide +kernel
theorem dX4_show_21 : decode cX4_show 21 = .ok (.iconst 1, 1) := by decide +kernel
theorem dX4_show_22 : decode cX4_show 22 = .ok (.goto 4, 3) := by decide +kernel
theorem dX4_show_25 : decode cX4_show 25 = .ok (.iconst 0, 1) := by decide +kernel
theorem dX4_show_26 : decode cX4_show 26 = .ok (.istore_n 3, 1) := by decide +kernel
theorem dX4_show_27 : decode cX4_show 27 = .ok (.aload_n 0, 1) := by decide +kernel
theorem dX4_show_28 : decode cX4_show 28 = .ok (.getfield 34, 3) := by decide +kernel
theorem dX4_show_31 : decode cX4_show 31 = .ok (.iload_n 1, 1) := by decide +kernel
theorem dX4_show_32 : decode cX4_show 32 = .ok (.iload_n 2, 1) := by decide +kernel
theorem dX4_show_33 : decode cX4_show 33 = .ok (.bastore, 1) := by decide +kernel
theorem dX4_show_34 : decode cX4_show 34 = .ok (.iload_n 3, 1) := by decide +kernel
theorem dX4_show_35 : decode cX4_show 35 = .ok (.ireturn, 1) := by decide +kernel
theorem dX4_decide_0 : decode cX4_decide 0 = .ok (.aload_n 0, 1) := by decide +kernel
theorem dX4_decide_1 : decode cX4_decide 1 = .ok (.iload_n 1, 1) := by decide +kernel
theorem dX4_decide_2 : decode cX4_decide 2 = .ok (.invokevirtual 144, 3) := by decide +kernel
theorem dX4_decide_5 : decode cX4_decide 5 = .ok (.ifCond .ne 7, 3) := by decide +kernel
theorem dX4_decide_8 : decode cX4_decide 8 = .ok (.sipush (-1001), 3) := by decide +kernel
theorem dX4_decide_11 : decode cX4_decide 11 = .ok (.ireturn, 1) := by decide +kernel
theorem dX4_decide_12 : decode cX4_decide 12 = .ok (.iload_n 2, 1) := by decide +kernel
theorem dX4_decide_13 : decode cX4_decide 13 = .ok (.iconst 0, 1) := by decide +kernel
theorem dX4_decide_14 : decode cX4_decide 14 = .ok (.iconst 2, 1) := by decide +kernel
theorem dX4_decide_15 : decode cX4_decide 15 = .ok (.invokestatic 74, 3) := by decide +kernel
theorem dX4_decide_18 : decode cX4_decide 18 = .ok (.ifCond .ne 7, 3) := by decide +kernel
theorem dX4_decide_21 : decode cX4_decide 21 = .ok (.sipush (-1002), 3) := by decide +kernel
theorem dX4_decide_24 : decode cX4_decide 24 = .ok (.ireturn, 1) := by decide +kernel
theorem dX4_decide_25 : decode cX4_decide 25 = .ok (.aload_n 0, 1) := by decide +kernel
theorem dX4_decide_26 : decode cX4_decide 26 = .ok (.getfield 31, 3) := by decide +kernel
theorem dX4_decide_29 : decode cX4_decide 29 = .ok (.iload_n 1, 1) := by decide +kernel
theorem dX4_decide_30 : decode cX4_decide 30 = .ok (.iaload, 1) := by decide +kernel
theorem dX4_decide_31 : decode cX4_decide 31 = .ok (.istore_n 3, 1) := by decide +kernel
theorem dX4_decide_32 : decode cX4_decide 32 = .ok (.aload_n 0, 1) := by decide +kernel
theorem dX4_decide_33 : decode cX4_decide 33 = .ok (.getfield 31, 3) := by decide +kernel
theorem dX4_decide_36 : decode cX4_decide 36 = .ok (.iload_n 1, 1) := by decide +kernel
theorem dX4_decide_37 : decode cX4_decide 37 = .ok (.iload_n 2, 1) := by decide +kernel
theorem dX4_decide_38 : decode cX4_decide 38 = .ok (.iastore, 1) := by decide +kernel
theorem dX4_decide_39 : decode cX4_decide 39 = .ok (.iload_n 3, 1) := by decide +kernel
theorem dX4_decide_40 : decode cX4_decide 40 = .ok (.ireturn, 1) := by decide +kernel
theorem dX4_inState_0 : decode cX4_inState 0 = .ok (.iconst 0, 1) := by decide +kernel
theorem dX4_inState_1 : decode cX4_inState 1 = .ok (.istore_n 2, 1) := by decide +kernel
theorem dX4_inState_2 : decode cX4_inState 2 = .ok (.iconst 0, 1) := by decide +kernel
theorem dX4_inState_3 : decode cX4_inState 3 = .ok (.istore_n 3, 1) := by decide +kernel
theorem dX4_inState_4 : decode cX4_inState 4 = .ok (.iload_n 3, 1) := by decide +kernel
theorem dX4_inState_5 : decode cX4_inState 5 = .ok (.aload_n 0, 1) := by decide +kernel
theorem dX4_inState_6 : decode cX4_inState 6 = .ok (.getfield 96, 3) := by decide +kernel
theorem dX4_inState_9 : decode cX4_inState 9 = .ok (.if_icmp .ge 29, 3) := by decide +kernel
theorem dX4_inState_12 : decode cX4_inState 12 = .ok (.iload_n 2, 1) := by decide +kernel
theorem dX4_inState_13 : decode cX4_inState 13 = .ok (.aload_n 0, 1) := by decide +kernel
theorem dX4_inState_14 : decode cX4_inState 14 = .ok (.getfield 31, 3) := by decide +kernel
theorem dX4_inState_17 : decode cX4_inState 17 = .ok (.iload_n 3, 1) := by decide +kernel
theorem dX4_inState_18 : decode cX4_inState 18 = .ok (.iaload, 1) := by decide +kernel
theorem dX4_inState_19 : decode cX4_inState 19 = .ok (.iload_n 1, 1) := by decide +kernel
theorem dX4_inState_20 : decode cX4_inState 20 = .ok (.if_icmp .ne 9, 3) := by decide +kernel
theorem dX4_inState_23 : decode cX4_inState 23 = .ok (.iconst 1, 1) := by decide +kernel
theorem dX4_inState_24 : decode cX4_inState 24 = .ok (.iload_n 3, 1) := by decide +kernel
theorem dX4_inState_25 : decode cX4_inState 25 = .ok (.ishl, 1) := by decide +kernel
theorem dX4_inState_26 : decode cX4_inState 26 = .ok (.goto 4, 3) := by decide +kernel
theorem dX4_inState_29 : decode cX4_inState 29 = .ok (.iconst 0, 1) := by decide +kernel
theorem dX4_inState_30 : decode cX4_inState 30 = .ok (.ior, 1) := by decide +kernel
theorem dX4_inState_31 : decode cX4_inState 31 = .ok (.istore_n 2, 1) := by decide +kernel
theorem dX4_inState_32 : decode cX4_inState 32 = .ok (.iinc 3 1, 3) := by decide +kernel
theorem dX4_inState_35 : decode cX4_inState 35 = .ok (.goto (-31), 3) := by decide +kernel
theorem dX4_inState_38 : decode cX4_inState 38 = .ok (.iload_n 2, 1) := by decide +kernel
theorem dX4_inState_39 : decode cX4_inState 39 = .ok (.ireturn, 1) := by decide +kernel
theorem dX4_settle_0 : decode cX4_settle 0 = .ok (.aload_n 0, 1) := by decide +kernel
theorem dX4_settle_1 : decode cX4_settle 1 = .ok (.iconst 0, 1) := by decide +kernel
theorem dX4_settle_2 : decode cX4_settle 2 = .ok (.invokevirtual 147, 3) := by decide +kernel
theorem dX4_settle_5 : decode cX4_settle 5 = .ok (.ifCond .eq 7, 3) := by decide +kernel
theorem dX4_settle_8 : decode cX4_settle 8 = .ok (.sipush (-1003), 3) := by decide +kernel
theorem dX4_settle_11 : decode cX4_settle 11 = .ok (.ireturn, 1) := by decide +kernel
theorem dX4_settle_12 : decode cX4_settle 12 = .ok (.aload_n 0, 1) := by decide +kernel
theorem dX4_settle_13 : decode cX4_settle 13 = .ok (.aload_n 0, 1) := by decide +kernel
theorem dX4_settle_14 : decode cX4_settle 14 = .ok (.iconst 0, 1) := by decide +kernel
theorem dX4_settle_15 : decode cX4_settle 15 = .ok (.invokevirtual 131, 3) := by decide +kernel
theorem dX4_settle_18 : decode cX4_settle 18 = .ok (.invokevirtual 134, 3) := by decide +kernel
theorem dX4_settle_21 : decode cX4_settle 21 = .ok (.iconst 0, 1) := by decide +kernel
theorem dX4_settle_22 : decode cX4_settle 22 = .ok (.istore_n 1, 1) := by decide +kernel
theorem dX4_settle_23 : decode cX4_settle 23 = .ok (.iload_n 1, 1) := by decide +kernel
theorem dX4_settle_24 : decode cX4_settle 24 = .ok (.aload_n 0, 1) := by decide +kernel
theorem dX4_settle_25 : decode cX4_settle 25 = .ok (.getfield 120, 3) := by decide +kernel
theorem dX4_settle_28 : decode cX4_settle 28 = .ok (.if_icmp .ge 31, 3) := by decide +kernel
theorem dX4_settle_31 : decode cX4_settle 31 = .ok (.aload_n 0, 1) := by decide +kernel
theorem dX4_settle_32 : decode cX4_settle 32 = .ok (.getfield 62, 3) := by decide +kernel
theorem dX4_settle_35 : decode cX4_settle 35 = .ok (.iload_n 1, 1) := by decide +kernel
theorem dX4_settle_36 : decode cX4_settle 36 = .ok (.aload_n 0, 1) := by decide +kernel
theorem dX4_settle_37 : decode cX4_settle 37 = .ok (.getfield 13, 3) := by decide +kernel
theorem dX4_settle_40 : decode cX4_settle 40 = .ok (.aload_n 0, 1) := by decide +kernel
theorem dX4_settle_41 : decode cX4_settle 41 = .ok (.getfield 38, 3) := by decide +kernel
theorem dX4_settle_44 : decode cX4_settle 44 = .ok (.aload_n 0, 1) := by decide +kernel
theorem dX4_settle_45 : decode cX4_settle 45 = .ok (.getfield 56, 3) := by decide +kernel
theorem dX4_settle_48 : decode cX4_settle 48 = .ok (.iload_n 1, 1) := by decide +kernel
theorem dX4_settle_49 : decode cX4_settle 49 = .ok (.iaload, 1) := by decide +kernel
theorem dX4_settle_50 : decode cX4_settle 50 = .ok (.iaload, 1) := by decide +kernel
theorem dX4_settle_51 : decode cX4_settle 51 = .ok (.iaload, 1) := by decide +kernel
theorem dX4_settle_52 : decode cX4_settle 52 = .ok (.iastore, 1) := by decide +kernel
theorem dX4_settle_53 : decode cX4_settle 53 = .ok (.iinc 1 1, 3) := by decide +kernel
theorem dX4_settle_56 : decode cX4_settle 56 = .ok (.goto (-33), 3) := by decide +kernel
theorem dX4_settle_59 : decode cX4_settle 59 = .ok (.aload_n 0, 1) := by decide +kernel
theorem dX4_settle_60 : decode cX4_settle 60 = .ok (.iconst 0, 1) := by decide +kernel
theorem dX4_settle_61 : decode cX4_settle 61 = .ok (.putfield 82, 3) := by decide +kernel
theorem dX4_settle_64 : decode cX4_settle 64 = .ok (.aload_n 0, 1) := by decide +kernel
theorem dX4_settle_65 : decode cX4_settle 65 = .ok (.iconst 0, 1) := by decide +kernel
theorem dX4_settle_66 : decode cX4_settle 66 = .ok (.putfield 85, 3) := by decide +kernel
theorem dX4_settle_69 : decode cX4_settle 69 = .ok (.aload_n 0, 1) := by decide +kernel
theorem dX4_settle_70 : decode cX4_settle 70 = .ok (.iconst 0, 1) := by decide +kernel
theorem dX4_settle_71 : decode cX4_settle 71 = .ok (.putfield 96, 3) := by decide +kernel
theorem dX4_settle_74 : decode cX4_settle 74 = .ok (.iconst 0, 1) := by decide +kernel
theorem dX4_settle_75 : decode cX4_settle 75 = .ok (.istore_n 1, 1) := by decide +kernel
theorem dX4_settle_76 : decode cX4_settle 76 = .ok (.iload_n 1, 1) := by decide +kernel
theorem dX4_settle_77 : decode cX4_settle 77 = .ok (.aload_n 0, 1) := by decide +kernel
theorem dX4_settle_78 : decode cX4_settle 78 = .ok (.getfield 120, 3) := by decide +kernel
theorem dX4_settle_81 : decode cX4_settle 81 = .ok (.if_icmp .ge 24, 3) := by decide +kernel
theorem dX4_settle_84 : decode cX4_settle 84 = .ok (.aload_n 0, 1) := by decide +kernel
theorem dX4_settle_85 : decode cX4_settle 85 = .ok (.aload_n 0, 1) := by decide +kernel
theorem dX4_settle_86 : decode cX4_settle 86 = .ok (.getfield 62, 3) := by decide +kernel
theorem dX4_settle_89 : decode cX4_settle 89 = .ok (.iload_n 1, 1) := by decide +kernel
theorem dX4_settle_90 : decode cX4_settle 90 = .ok (.iaload, 1) := by decide +kernel
theorem dX4_settle_91 : decode cX4_settle 91 = .ok (.iconst (-1), 1) := by decide +kernel
theorem dX4_settle_92 : decode cX4_settle 92 = .ok (.aload_n 0, 1) := by decide +kernel
theorem dX4_settle_93 : decode cX4_settle 93 = .ok (.getfield 85, 3) := by decide +kernel
theorem dX4_settle_96 : decode cX4_settle 96 = .ok (.invokevirtual 99, 3) := by decide +kernel
theorem dX4_settle_99 : decode cX4_settle 99 = .ok (.iinc 1 1, 3) := by decide +kernel
theorem dX4_settle_102 : decode cX4_settle 102 = .ok (.goto (-26), 3) := by decide +kernel
theorem dX4_settle_105 : decode cX4_settle 105 = .ok (.aload_n 0, 1) := by decide +kernel
theorem dX4_settle_106 : decode cX4_settle 106 = .ok (.dup, 1) := by decide +kernel
theorem dX4_settle_107 : decode cX4_settle 107 = .ok (.getfield 150, 3) := by decide +kernel
theorem dX4_settle_110 : decode cX4_settle 110 = .ok (.iconst 1, 1) := by decide +kernel
theorem dX4_settle_111 : decode cX4_settle 111 = .ok (.iadd, 1) := by decide +kernel
theorem dX4_settle_112 : decode cX4_settle 112 = .ok (.putfield 150, 3) := by decide +kernel
theorem dX4_settle_115 : decode cX4_settle 115 = .ok (.aload_n 0, 1) := by decide +kernel
theorem dX4_settle_116 : decode cX4_settle 116 = .ok (.getfield 82, 3) := by decide +kernel
theorem dX4_settle_119 : decode cX4_settle 119 = .ok (.ireturn, 1) := by decide +kernel
theorem dX4_isView_0 : decode cX4_isView 0 = .ok (.iload_n 0, 1) := by decide +kernel
theorem dX4_isView_1 : decode cX4_isView 1 = .ok (.iconst 0, 1) := by decide +kernel
theorem dX4_isView_2 : decode cX4_isView 2 = .ok (.iconst 5, 1) := by decide +kernel
theorem dX4_isView_3 : decode cX4_isView 3 = .ok (.invokestatic 74, 3) := by decide +kernel
theorem dX4_isView_6 : decode cX4_isView 6 = .ok (.ireturn, 1) := by decide +kernel
theorem dX4_lengthOf_0 : decode cX4_lengthOf 0 = .ok (.aload_n 0, 1) := by decide +kernel
theorem dX4_lengthOf_1 : decode cX4_lengthOf 1 = .ok (.aload_n 0, 1) := by decide +kernel
theorem dX4_lengthOf_2 : decode cX4_lengthOf 2 = .ok (.iload_n 1, 1) := by decide +kernel
theorem dX4_lengthOf_3 : decode cX4_lengthOf 3 = .ok (.invokevirtual 131, 3) := by decide +kernel
theorem dX4_lengthOf_6 : decode cX4_lengthOf 6 = .ok (.invokevirtual 134, 3) := by decide +kernel
theorem dX4_lengthOf_9 : decode cX4_lengthOf 9 = .ok (.aload_n 0, 1) := by decide +kernel
theorem dX4_lengthOf_10 : decode cX4_lengthOf 10 = .ok (.getfield 120, 3) := by decide +kernel
theorem dX4_lengthOf_13 : decode cX4_lengthOf 13 = .ok (.ireturn, 1) := by decide +kernel
theorem dX4_length_0 : decode cX4_length 0 = .ok (.iload_n 1, 1) := by decide +kernel
theorem dX4_length_1 : decode cX4_length 1 = .ok (.invokestatic 153, 3) := by decide +kernel
theorem dX4_length_4 : decode cX4_length 4 = .ok (.ifCond .eq 11, 3) := by decide +kernel
theorem dX4_length_7 : decode cX4_length 7 = .ok (.aload_n 0, 1) := by decide +kernel
theorem dX4_length_8 : decode cX4_length 8 = .ok (.iload_n 1, 1) := by decide +kernel
theorem dX4_length_9 : decode cX4_length 9 = .ok (.invokevirtual 156, 3) := by decide +kernel
theorem dX4_length_12 : decode cX4_length 12 = .ok (.goto 6, 3) := by decide +kernel
theorem dX4_length_15 : decode cX4_length 15 = .ok (.sipush (-1001), 3) := by decide +kernel
theorem dX4_length_18 : decode cX4_length 18 = .ok (.ireturn, 1) := by decide +kernel
theorem dX4_ones_0 : decode cX4_ones 0 = .ok (.iconst 0, 1) := by decide +kernel
theorem dX4_ones_1 : decode cX4_ones 1 = .ok (.istore_n 1, 1) := by decide +kernel
theorem dX4_ones_2 : decode cX4_ones 2 = .ok (.iconst 0, 1) := by decide +kernel
theorem dX4_ones_3 : decode cX4_ones 3 = .ok (.istore_n 2, 1) := by decide +kernel
theorem dX4_ones_4 : decode cX4_ones 4 = .ok (.iload_n 2, 1) := by decide +kernel
theorem dX4_ones_5 : decode cX4_ones 5 = .ok (.bipush 12, 2) := by decide +kernel
theorem dX4_ones_7 : decode cX4_ones 7 = .ok (.if_icmp .ge 17, 3) := by decide +kernel
theorem dX4_ones_10 : decode cX4_ones 10 = .ok (.iload_n 1, 1) := by decide +kernel
theorem dX4_ones_11 : decode cX4_ones 11 = .ok (.iload_n 0, 1) := by decide +kernel
theorem dX4_ones_12 : decode cX4_ones 12 = .ok (.iload_n 2, 1) := by decide +kernel
theorem dX4_ones_13 : decode cX4_ones 13 = .ok (.ishr, 1) := by decide +kernel
theorem dX4_ones_14 : decode cX4_ones 14 = .ok (.iconst 1, 1) := by decide +kernel
theorem dX4_ones_15 : decode cX4_ones 15 = .ok (.iand, 1) := by decide +kernel
theorem dX4_ones_16 : decode cX4_ones 16 = .ok (.iadd, 1) := by decide +kernel
theorem dX4_ones_17 : decode cX4_ones 17 = .ok (.istore_n 1, 1) := by decide +kernel
theorem dX4_ones_18 : decode cX4_ones 18 = .ok (.iinc 2 1, 3) := by decide +kernel
theorem dX4_ones_21 : decode cX4_ones 21 = .ok (.goto (-17), 3) := by decide +kernel
theorem dX4_ones_24 : decode cX4_ones 24 = .ok (.iload_n 1, 1) := by decide +kernel
theorem dX4_ones_25 : decode cX4_ones 25 = .ok (.ireturn, 1) := by decide +kernel
theorem dX4_movedBy_0 : decode cX4_movedBy 0 = .ok (.iconst 0, 1) := by decide +kernel
theorem dX4_movedBy_1 : decode cX4_movedBy 1 = .ok (.istore_n 2, 1) := by decide +kernel
theorem dX4_movedBy_2 : decode cX4_movedBy 2 = .ok (.iconst 0, 1) := by decide +kernel
theorem dX4_movedBy_3 : decode cX4_movedBy 3 = .ok (.istore_n 3, 1) := by decide +kernel
theorem dX4_movedBy_4 : decode cX4_movedBy 4 = .ok (.iload_n 3, 1) := by decide +kernel
theorem dX4_movedBy_5 : decode cX4_movedBy 5 = .ok (.aload_n 0, 1) := by decide +kernel
theorem dX4_movedBy_6 : decode cX4_movedBy 6 = .ok (.getfield 85, 3) := by decide +kernel
theorem dX4_movedBy_9 : decode cX4_movedBy 9 = .ok (.if_icmp .ge 44, 3) := by decide +kernel
theorem dX4_movedBy_12 : decode cX4_movedBy 12 = .ok (.iload_n 2, 1) := by decide +kernel
theorem dX4_movedBy_13 : decode cX4_movedBy 13 = .ok (.aload_n 0, 1) := by decide +kernel
theorem dX4_movedBy_14 : decode cX4_movedBy 14 = .ok (.getfield 38, 3) := by decide +kernel
theorem dX4_movedBy_17 : decode cX4_movedBy 17 = .ok (.iload_n 3, 1) := by decide +kernel
theorem dX4_movedBy_18 : decode cX4_movedBy 18 = .ok (.iaload, 1) := by decide +kernel
theorem dX4_movedBy_19 : decode cX4_movedBy 19 = .ok (.iload_n 1, 1) := by decide +kernel
theorem dX4_movedBy_20 : decode cX4_movedBy 20 = .ok (.if_icmp .ne 24, 3) := by decide +kernel
theorem dX4_movedBy_23 : decode cX4_movedBy 23 = .ok (.aload_n 0, 1) := by decide +kernel
theorem dX4_movedBy_24 : decode cX4_movedBy 24 = .ok (.getfield 41, 3) := by decide +kernel
theorem dX4_movedBy_27 : decode cX4_movedBy 27 = .ok (.iload_n 3, 1) := by decide +kernel
theorem dX4_movedBy_28 : decode cX4_movedBy 28 = .ok (.iaload, 1) := by decide +kernel
theorem dX4_movedBy_29 : decode cX4_movedBy 29 = .ok (.iconst (-1), 1) := by decide +kernel
theorem dX4_movedBy_30 : decode cX4_movedBy 30 = .ok (.if_icmp .eq 14, 3) := by decide +kernel
theorem dX4_movedBy_33 : decode cX4_movedBy 33 = .ok (.iconst 1, 1) := by decide +kernel
theorem dX4_movedBy_34 : decode cX4_movedBy 34 = .ok (.aload_n 0, 1) := by decide +kernel
theorem dX4_movedBy_35 : decode cX4_movedBy 35 = .ok (.getfield 44, 3) := by decide +kernel
theorem dX4_movedBy_38 : decode cX4_movedBy 38 = .ok (.iload_n 3, 1) := by decide +kernel
theorem dX4_movedBy_39 : decode cX4_movedBy 39 = .ok (.iaload, 1) := by decide +kernel
theorem dX4_movedBy_40 : decode cX4_movedBy 40 = .ok (.ishl, 1) := by decide +kernel
theorem dX4_movedBy_41 : decode cX4_movedBy 41 = .ok (.goto 4, 3) := by decide +kernel
theorem dX4_movedBy_44 : decode cX4_movedBy 44 = .ok (.iconst 0, 1) := by decide +kernel
theorem dX4_movedBy_45 : decode cX4_movedBy 45 = .ok (.ior, 1) := by decide +kernel
theorem dX4_movedBy_46 : decode cX4_movedBy 46 = .ok (.istore_n 2, 1) := by decide +kernel
theorem dX4_movedBy_47 : decode cX4_movedBy 47 = .ok (.iinc 3 1, 3) := by decide +kernel
theorem dX4_movedBy_50 : decode cX4_movedBy 50 = .ok (.goto (-46), 3) := by decide +kernel
theorem dX4_movedBy_53 : decode cX4_movedBy 53 = .ok (.iload_n 2, 1) := by decide +kernel
theorem dX4_movedBy_54 : decode cX4_movedBy 54 = .ok (.ireturn, 1) := by decide +kernel
theorem dX4_readNow_0 : decode cX4_readNow 0 = .ok (.aload_n 0, 1) := by decide +kernel
theorem dX4_readNow_1 : decode cX4_readNow 1 = .ok (.getfield 38, 3) := by decide +kernel
theorem dX4_readNow_4 : decode cX4_readNow 4 = .ok (.iload_n 1, 1) := by decide +kernel
theorem dX4_readNow_5 : decode cX4_readNow 5 = .ok (.iaload, 1) := by decide +kernel
theorem dX4_readNow_6 : decode cX4_readNow 6 = .ok (.istore_n 3, 1) := by decide +kernel
theorem dX4_readNow_7 : decode cX4_readNow 7 = .ok (.iload_n 2, 1) := by decide +kernel
theorem dX4_readNow_8 : decode cX4_readNow 8 = .ok (.tableswitch 74 0 4 #[36, 43, 45, 51, 58], 36) := by decide +kernel
theorem dX4_readNow_44 : decode cX4_readNow 44 = .ok (.aload_n 0, 1) := by decide +kernel
theorem dX4_readNow_45 : decode cX4_readNow 45 = .ok (.getfield 13, 3) := by decide +kernel
theorem dX4_readNow_48 : decode cX4_readNow 48 = .ok (.iload_n 3, 1) := by decide +kernel
theorem dX4_readNow_49 : decode cX4_readNow 49 = .ok (.iaload, 1) := by decide +kernel
theorem dX4_readNow_50 : decode cX4_readNow 50 = .ok (.ireturn, 1) := by decide +kernel
theorem dX4_readNow_51 : decode cX4_readNow 51 = .ok (.iload_n 3, 1) := by decide +kernel
theorem dX4_readNow_52 : decode cX4_readNow 52 = .ok (.ireturn, 1) := by decide +kernel
theorem dX4_readNow_53 : decode cX4_readNow 53 = .ok (.aload_n 0, 1) := by decide +kernel
theorem dX4_readNow_54 : decode cX4_readNow 54 = .ok (.iload_n 1, 1) := by decide +kernel
theorem dX4_readNow_55 : decode cX4_readNow 55 = .ok (.invokevirtual 123, 3) := by decide +kernel
theorem dX4_readNow_58 : decode cX4_readNow 58 = .ok (.ireturn, 1) := by decide +kernel
theorem dX4_readNow_59 : decode cX4_readNow 59 = .ok (.aload_n 0, 1) := by decide +kernel
theorem dX4_readNow_60 : decode cX4_readNow 60 = .ok (.getfield 44, 3) := by decide +kernel
theorem dX4_readNow_63 : decode cX4_readNow 63 = .ok (.iload_n 1, 1) := by decide +kernel
theorem dX4_readNow_64 : decode cX4_readNow 64 = .ok (.iaload, 1) := by decide +kernel
theorem dX4_readNow_65 : decode cX4_readNow 65 = .ok (.ireturn, 1) := by decide +kernel
theorem dX4_readNow_66 : decode cX4_readNow 66 = .ok (.aload_n 0, 1) := by decide +kernel
theorem dX4_readNow_67 : decode cX4_readNow 67 = .ok (.getfield 22, 3) := by decide +kernel
theorem dX4_readNow_70 : decode cX4_readNow 70 = .ok (.iload_n 3, 1) := by decide +kernel
theorem dX4_readNow_71 : decode cX4_readNow 71 = .ok (.iaload, 1) := by decide +kernel
theorem dX4_readNow_72 : decode cX4_readNow 72 = .ok (.aload_n 0, 1) := by decide +kernel
theorem dX4_readNow_73 : decode cX4_readNow 73 = .ok (.iconst 0, 1) := by decide +kernel
theorem dX4_readNow_74 : decode cX4_readNow 74 = .ok (.invokevirtual 147, 3) := by decide +kernel
theorem dX4_readNow_77 : decode cX4_readNow 77 = .ok (.iand, 1) := by decide +kernel
theorem dX4_readNow_78 : decode cX4_readNow 78 = .ok (.invokestatic 159, 3) := by decide +kernel
theorem dX4_readNow_81 : decode cX4_readNow 81 = .ok (.ireturn, 1) := by decide +kernel
theorem dX4_readNow_82 : decode cX4_readNow 82 = .ok (.aload_n 0, 1) := by decide +kernel
theorem dX4_readNow_83 : decode cX4_readNow 83 = .ok (.iload_n 3, 1) := by decide +kernel
theorem dX4_readNow_84 : decode cX4_readNow 84 = .ok (.invokevirtual 162, 3) := by decide +kernel
theorem dX4_readNow_87 : decode cX4_readNow 87 = .ok (.aload_n 0, 1) := by decide +kernel
theorem dX4_readNow_88 : decode cX4_readNow 88 = .ok (.iconst 0, 1) := by decide +kernel
theorem dX4_readNow_89 : decode cX4_readNow 89 = .ok (.invokevirtual 147, 3) := by decide +kernel
theorem dX4_readNow_92 : decode cX4_readNow 92 = .ok (.iand, 1) := by decide +kernel
theorem dX4_readNow_93 : decode cX4_readNow 93 = .ok (.invokestatic 159, 3) := by decide +kernel
theorem dX4_readNow_96 : decode cX4_readNow 96 = .ok (.ireturn, 1) := by decide +kernel
theorem dX4_read_0 : decode cX4_read 0 = .ok (.iload_n 1, 1) := by decide +kernel
theorem dX4_read_1 : decode cX4_read 1 = .ok (.invokestatic 153, 3) := by decide +kernel
theorem dX4_read_4 : decode cX4_read 4 = .ok (.ifCond .eq 18, 3) := by decide +kernel
theorem dX4_read_7 : decode cX4_read 7 = .ok (.iload_n 2, 1) := by decide +kernel
theorem dX4_read_8 : decode cX4_read 8 = .ok (.iconst 0, 1) := by decide +kernel
theorem dX4_read_9 : decode cX4_read 9 = .ok (.aload_n 0, 1) := by decide +kernel
theorem dX4_read_10 : decode cX4_read 10 = .ok (.iload_n 1, 1) := by decide +kernel
theorem dX4_read_11 : decode cX4_read 11 = .ok (.invokevirtual 156, 3) := by decide +kernel
theorem dX4_read_14 : decode cX4_read 14 = .ok (.iconst 1, 1) := by decide +kernel
theorem dX4_read_15 : decode cX4_read 15 = .ok (.isub, 1) := by decide +kernel
theorem dX4_read_16 : decode cX4_read 16 = .ok (.invokestatic 74, 3) := by decide +kernel
theorem dX4_read_19 : decode cX4_read 19 = .ok (.ifCond .ne 7, 3) := by decide +kernel
theorem dX4_read_22 : decode cX4_read 22 = .ok (.sipush (-1001), 3) := by decide +kernel
theorem dX4_read_25 : decode cX4_read 25 = .ok (.ireturn, 1) := by decide +kernel
theorem dX4_read_26 : decode cX4_read 26 = .ok (.iload_n 3, 1) := by decide +kernel
theorem dX4_read_27 : decode cX4_read 27 = .ok (.iconst 0, 1) := by decide +kernel
theorem dX4_read_28 : decode cX4_read 28 = .ok (.iconst 5, 1) := by decide +kernel
theorem dX4_read_29 : decode cX4_read 29 = .ok (.invokestatic 74, 3) := by decide +kernel
theorem dX4_read_32 : decode cX4_read 32 = .ok (.ifCond .eq 17, 3) := by decide +kernel
theorem dX4_read_35 : decode cX4_read 35 = .ok (.aload_n 0, 1) := by decide +kernel
theorem dX4_read_36 : decode cX4_read 36 = .ok (.aload_n 0, 1) := by decide +kernel
theorem dX4_read_37 : decode cX4_read 37 = .ok (.getfield 56, 3) := by decide +kernel
theorem dX4_read_40 : decode cX4_read 40 = .ok (.iload_n 2, 1) := by decide +kernel
theorem dX4_read_41 : decode cX4_read 41 = .ok (.iaload, 1) := by decide +kernel
theorem dX4_read_42 : decode cX4_read 42 = .ok (.iload_n 3, 1) := by decide +kernel
theorem dX4_read_43 : decode cX4_read 43 = .ok (.invokevirtual 165, 3) := by decide +kernel
theorem dX4_read_46 : decode cX4_read 46 = .ok (.goto 6, 3) := by decide +kernel
theorem dX4_read_49 : decode cX4_read 49 = .ok (.sipush (-1002), 3) := by decide +kernel
theorem dX4_read_52 : decode cX4_read 52 = .ok (.ireturn, 1) := by decide +kernel
theorem dX4_isAt_0 : decode cX4_isAt 0 = .ok (.aload_n 0, 1) := by decide +kernel
theorem dX4_isAt_1 : decode cX4_isAt 1 = .ok (.getfield 38, 3) := by decide +kernel
theorem dX4_isAt_4 : decode cX4_isAt 4 = .ok (.iload_n 1, 1) := by decide +kernel
theorem dX4_isAt_5 : decode cX4_isAt 5 = .ok (.iaload, 1) := by decide +kernel
theorem dX4_isAt_6 : decode cX4_isAt 6 = .ok (.istore_n 3, 1) := by decide +kernel
theorem dX4_isAt_7 : decode cX4_isAt 7 = .ok (.aload_n 0, 1) := by decide +kernel
theorem dX4_isAt_8 : decode cX4_isAt 8 = .ok (.iload_n 3, 1) := by decide +kernel
theorem dX4_isAt_9 : decode cX4_isAt 9 = .ok (.iload_n 2, 1) := by decide +kernel
theorem dX4_isAt_10 : decode cX4_isAt 10 = .ok (.invokevirtual 114, 3) := by decide +kernel
theorem dX4_isAt_13 : decode cX4_isAt 13 = .ok (.ifCond .eq 17, 3) := by decide +kernel
theorem dX4_isAt_16 : decode cX4_isAt 16 = .ok (.aload_n 0, 1) := by decide +kernel
theorem dX4_isAt_17 : decode cX4_isAt 17 = .ok (.iload_n 3, 1) := by decide +kernel
theorem dX4_isAt_18 : decode cX4_isAt 18 = .ok (.iload_n 2, 1) := by decide +kernel
theorem dX4_isAt_19 : decode cX4_isAt 19 = .ok (.invokevirtual 117, 3) := by decide +kernel
theorem dX4_isAt_22 : decode cX4_isAt 22 = .ok (.iload_n 1, 1) := by decide +kernel
theorem dX4_isAt_23 : decode cX4_isAt 23 = .ok (.if_icmp .ne 7, 3) := by decide +kernel
theorem dX4_isAt_26 : decode cX4_isAt 26 = .ok (.iconst 1, 1) := by decide +kernel
theorem dX4_isAt_27 : decode cX4_isAt 27 = .ok (.goto 4, 3) := by decide +kernel
theorem dX4_isAt_30 : decode cX4_isAt 30 = .ok (.iconst 0, 1) := by decide +kernel
theorem dX4_isAt_31 : decode cX4_isAt 31 = .ok (.ireturn, 1) := by decide +kernel
theorem dX4_markOf_0 : decode cX4_markOf 0 = .ok (.aload_n 0, 1) := by decide +kernel
theorem dX4_markOf_1 : decode cX4_markOf 1 = .ok (.iload_n 1, 1) := by decide +kernel
theorem dX4_markOf_2 : decode cX4_markOf 2 = .ok (.aload_n 0, 1) := by decide +kernel
theorem dX4_markOf_3 : decode cX4_markOf 3 = .ok (.iconst 0, 1) := by decide +kernel
theorem dX4_markOf_4 : decode cX4_markOf 4 = .ok (.invokevirtual 131, 3) := by decide +kernel
theorem dX4_markOf_7 : decode cX4_markOf 7 = .ok (.invokevirtual 168, 3) := by decide +kernel
theorem dX4_markOf_10 : decode cX4_markOf 10 = .ok (.istore_n 2, 1) := by decide +kernel
theorem dX4_markOf_11 : decode cX4_markOf 11 = .ok (.aload_n 0, 1) := by decide +kernel
theorem dX4_markOf_12 : decode cX4_markOf 12 = .ok (.iload_n 1, 1) := by decide +kernel
theorem dX4_markOf_13 : decode cX4_markOf 13 = .ok (.aload_n 0, 1) := by decide +kernel
theorem dX4_markOf_14 : decode cX4_markOf 14 = .ok (.iconst 1, 1) := by decide +kernel
theorem dX4_markOf_15 : decode cX4_markOf 15 = .ok (.invokevirtual 131, 3) := by decide +kernel
theorem dX4_markOf_18 : decode cX4_markOf 18 = .ok (.invokevirtual 168, 3) := by decide +kernel
theorem dX4_markOf_21 : decode cX4_markOf 21 = .ok (.istore_n 3, 1) := by decide +kernel
theorem dX4_markOf_22 : decode cX4_markOf 22 = .ok (.iload_n 2, 1) := by decide +kernel
theorem dX4_markOf_23 : decode cX4_markOf 23 = .ok (.ifCond .eq 11, 3) := by decide +kernel
theorem dX4_markOf_26 : decode cX4_markOf 26 = .ok (.iload_n 3, 1) := by decide +kernel
theorem dX4_markOf_27 : decode cX4_markOf 27 = .ok (.ifCond .eq 7, 3) := by decide +kernel
theorem dX4_markOf_30 : decode cX4_markOf 30 = .ok (.iconst 0, 1) := by decide +kernel
theorem dX4_markOf_31 : decode cX4_markOf 31 = .ok (.goto 20, 3) := by decide +kernel
theorem dX4_markOf_34 : decode cX4_markOf 34 = .ok (.iload_n 3, 1) := by decide +kernel
theorem dX4_markOf_35 : decode cX4_markOf 35 = .ok (.ifCond .eq 7, 3) := by decide +kernel
theorem dX4_markOf_38 : decode cX4_markOf 38 = .ok (.iconst 1, 1) := by decide +kernel
theorem dX4_markOf_39 : decode cX4_markOf 39 = .ok (.goto 12, 3) := by decide +kernel
theorem dX4_markOf_42 : decode cX4_markOf 42 = .ok (.iload_n 2, 1) := by decide +kernel
theorem dX4_markOf_43 : decode cX4_markOf 43 = .ok (.ifCond .eq 7, 3) := by decide +kernel
theorem dX4_markOf_46 : decode cX4_markOf 46 = .ok (.iconst 2, 1) := by decide +kernel
theorem dX4_markOf_47 : decode cX4_markOf 47 = .ok (.goto 4, 3) := by decide +kernel
theorem dX4_markOf_50 : decode cX4_markOf 50 = .ok (.iconst 3, 1) := by decide +kernel
theorem dX4_markOf_51 : decode cX4_markOf 51 = .ok (.ireturn, 1) := by decide +kernel
theorem dX4_placeNow_0 : decode cX4_placeNow 0 = .ok (.iload_n 2, 1) := by decide +kernel
theorem dX4_placeNow_1 : decode cX4_placeNow 1 = .ok (.tableswitch 66 0 2 #[27, 34, 59], 27) := by decide +kernel
theorem dX4_placeNow_28 : decode cX4_placeNow 28 = .ok (.aload_n 0, 1) := by decide +kernel
theorem dX4_placeNow_29 : decode cX4_placeNow 29 = .ok (.getfield 38, 3) := by decide +kernel
theorem dX4_placeNow_32 : decode cX4_placeNow 32 = .ok (.iload_n 1, 1) := by decide +kernel
theorem dX4_placeNow_33 : decode cX4_placeNow 33 = .ok (.iaload, 1) := by decide +kernel
theorem dX4_placeNow_34 : decode cX4_placeNow 34 = .ok (.ireturn, 1) := by decide +kernel
theorem dX4_placeNow_35 : decode cX4_placeNow 35 = .ok (.aload_n 0, 1) := by decide +kernel
theorem dX4_placeNow_36 : decode cX4_placeNow 36 = .ok (.getfield 41, 3) := by decide +kernel
theorem dX4_placeNow_39 : decode cX4_placeNow 39 = .ok (.iload_n 1, 1) := by decide +kernel
theorem dX4_placeNow_40 : decode cX4_placeNow 40 = .ok (.iaload, 1) := by decide +kernel
theorem dX4_placeNow_41 : decode cX4_placeNow 41 = .ok (.iconst (-1), 1) := by decide +kernel
theorem dX4_placeNow_42 : decode cX4_placeNow 42 = .ok (.if_icmp .ne 7, 3) := by decide +kernel
theorem dX4_placeNow_45 : decode cX4_placeNow 45 = .ok (.iconst (-1), 1) := by decide +kernel
theorem dX4_placeNow_46 : decode cX4_placeNow 46 = .ok (.goto 13, 3) := by decide +kernel
theorem dX4_placeNow_49 : decode cX4_placeNow 49 = .ok (.aload_n 0, 1) := by decide +kernel
theorem dX4_placeNow_50 : decode cX4_placeNow 50 = .ok (.aload_n 0, 1) := by decide +kernel
theorem dX4_placeNow_51 : decode cX4_placeNow 51 = .ok (.getfield 41, 3) := by decide +kernel
theorem dX4_placeNow_54 : decode cX4_placeNow 54 = .ok (.iload_n 1, 1) := by decide +kernel
theorem dX4_placeNow_55 : decode cX4_placeNow 55 = .ok (.iaload, 1) := by decide +kernel
theorem dX4_placeNow_56 : decode cX4_placeNow 56 = .ok (.invokevirtual 123, 3) := by decide +kernel
theorem dX4_placeNow_59 : decode cX4_placeNow 59 = .ok (.ireturn, 1) := by decide +kernel
theorem dX4_placeNow_60 : decode cX4_placeNow 60 = .ok (.aload_n 0, 1) := by decide +kernel
theorem dX4_placeNow_61 : decode cX4_placeNow 61 = .ok (.getfield 44, 3) := by decide +kernel
theorem dX4_placeNow_64 : decode cX4_placeNow 64 = .ok (.iload_n 1, 1) := by decide +kernel
theorem dX4_placeNow_65 : decode cX4_placeNow 65 = .ok (.iaload, 1) := by decide +kernel
theorem dX4_placeNow_66 : decode cX4_placeNow 66 = .ok (.ireturn, 1) := by decide +kernel
theorem dX4_placeNow_67 : decode cX4_placeNow 67 = .ok (.aload_n 0, 1) := by decide +kernel
theorem dX4_placeNow_68 : decode cX4_placeNow 68 = .ok (.iload_n 1, 1) := by decide +kernel
theorem dX4_placeNow_69 : decode cX4_placeNow 69 = .ok (.invokevirtual 171, 3) := by decide +kernel
theorem dX4_placeNow_72 : decode cX4_placeNow 72 = .ok (.ireturn, 1) := by decide +kernel
theorem dX4_place_0 : decode cX4_place 0 = .ok (.iload_n 1, 1) := by decide +kernel
theorem dX4_place_1 : decode cX4_place 1 = .ok (.iconst 0, 1) := by decide +kernel
theorem dX4_place_2 : decode cX4_place 2 = .ok (.aload_n 0, 1) := by decide +kernel
theorem dX4_place_3 : decode cX4_place 3 = .ok (.getfield 85, 3) := by decide +kernel
theorem dX4_place_6 : decode cX4_place 6 = .ok (.iconst 1, 1) := by decide +kernel
theorem dX4_place_7 : decode cX4_place 7 = .ok (.isub, 1) := by decide +kernel
theorem dX4_place_8 : decode cX4_place 8 = .ok (.invokestatic 74, 3) := by decide +kernel
theorem dX4_place_11 : decode cX4_place 11 = .ok (.ifCond .ne 7, 3) := by decide +kernel
theorem dX4_place_14 : decode cX4_place 14 = .ok (.sipush (-1001), 3) := by decide +kernel
theorem dX4_place_17 : decode cX4_place 17 = .ok (.ireturn, 1) := by decide +kernel
theorem dX4_place_18 : decode cX4_place 18 = .ok (.iload_n 2, 1) := by decide +kernel
theorem dX4_place_19 : decode cX4_place 19 = .ok (.iconst 0, 1) := by decide +kernel
theorem dX4_place_20 : decode cX4_place 20 = .ok (.iconst 3, 1) := by decide +kernel
theorem dX4_place_21 : decode cX4_place 21 = .ok (.invokestatic 74, 3) := by decide +kernel
theorem dX4_place_24 : decode cX4_place 24 = .ok (.ifCond .eq 17, 3) := by decide +kernel
theorem dX4_place_27 : decode cX4_place 27 = .ok (.aload_n 0, 1) := by decide +kernel
theorem dX4_place_28 : decode cX4_place 28 = .ok (.aload_n 0, 1) := by decide +kernel
theorem dX4_place_29 : decode cX4_place 29 = .ok (.getfield 47, 3) := by decide +kernel
theorem dX4_place_32 : decode cX4_place 32 = .ok (.iload_n 1, 1) := by decide +kernel
theorem dX4_place_33 : decode cX4_place 33 = .ok (.iaload, 1) := by decide +kernel
theorem dX4_place_34 : decode cX4_place 34 = .ok (.iload_n 2, 1) := by decide +kernel
theorem dX4_place_35 : decode cX4_place 35 = .ok (.invokevirtual 174, 3) := by decide +kernel
theorem dX4_place_38 : decode cX4_place 38 = .ok (.goto 6, 3) := by decide +kernel
theorem dX4_place_41 : decode cX4_place 41 = .ok (.sipush (-1002), 3) := by decide +kernel
theorem dX4_place_44 : decode cX4_place 44 = .ok (.ireturn, 1) := by decide +kernel
theorem dX4_isTouched_0 : decode cX4_isTouched 0 = .ok (.aload_n 0, 1) := by decide +kernel
theorem dX4_isTouched_1 : decode cX4_isTouched 1 = .ok (.getfield 16, 3) := by decide +kernel
theorem dX4_isTouched_4 : decode cX4_isTouched 4 = .ok (.iload_n 1, 1) := by decide +kernel
theorem dX4_isTouched_5 : decode cX4_isTouched 5 = .ok (.iaload, 1) := by decide +kernel
theorem dX4_isTouched_6 : decode cX4_isTouched 6 = .ok (.iload_n 2, 1) := by decide +kernel
theorem dX4_isTouched_7 : decode cX4_isTouched 7 = .ok (.if_icmp .eq 28, 3) := by decide +kernel
theorem dX4_isTouched_10 : decode cX4_isTouched 10 = .ok (.aload_n 0, 1) := by decide +kernel
theorem dX4_isTouched_11 : decode cX4_isTouched 11 = .ok (.getfield 22, 3) := by decide +kernel
theorem dX4_isTouched_14 : decode cX4_isTouched 14 = .ok (.iload_n 1, 1) := by decide +kernel
theorem dX4_isTouched_15 : decode cX4_isTouched 15 = .ok (.iaload, 1) := by decide +kernel
theorem dX4_isTouched_16 : decode cX4_isTouched 16 = .ok (.iload_n 2, 1) := by decide +kernel
theorem dX4_isTouched_17 : decode cX4_isTouched 17 = .ok (.invokestatic 106, 3) := by decide +kernel
theorem dX4_isTouched_20 : decode cX4_isTouched 20 = .ok (.ifCond .ne 15, 3) := by decide +kernel
theorem dX4_isTouched_23 : decode cX4_isTouched 23 = .ok (.aload_n 0, 1) := by decide +kernel
theorem dX4_isTouched_24 : decode cX4_isTouched 24 = .ok (.iload_n 1, 1) := by decide +kernel
theorem dX4_isTouched_25 : decode cX4_isTouched 25 = .ok (.invokevirtual 162, 3) := by decide +kernel
theorem dX4_isTouched_28 : decode cX4_isTouched 28 = .ok (.iload_n 2, 1) := by decide +kernel
theorem dX4_isTouched_29 : decode cX4_isTouched 29 = .ok (.invokestatic 106, 3) := by decide +kernel
theorem dX4_isTouched_32 : decode cX4_isTouched 32 = .ok (.ifCond .eq 7, 3) := by decide +kernel
theorem dX4_isTouched_35 : decode cX4_isTouched 35 = .ok (.iconst 1, 1) := by decide +kernel
theorem dX4_isTouched_36 : decode cX4_isTouched 36 = .ok (.goto 4, 3) := by decide +kernel
theorem dX4_isTouched_39 : decode cX4_isTouched 39 = .ok (.iconst 0, 1) := by decide +kernel
theorem dX4_isTouched_40 : decode cX4_isTouched 40 = .ok (.ireturn, 1) := by decide +kernel
theorem dX4_isIdle_0 : decode cX4_isIdle 0 = .ok (.aload_n 0, 1) := by decide +kernel
theorem dX4_isIdle_1 : decode cX4_isIdle 1 = .ok (.iconst 1, 1) := by decide +kernel
theorem dX4_isIdle_2 : decode cX4_isIdle 2 = .ok (.invokevirtual 131, 3) := by decide +kernel
theorem dX4_isIdle_5 : decode cX4_isIdle 5 = .ok (.iconst 1, 1) := by decide +kernel
theorem dX4_isIdle_6 : decode cX4_isIdle 6 = .ok (.iload_n 2, 1) := by decide +kernel
theorem dX4_isIdle_7 : decode cX4_isIdle 7 = .ok (.ishl, 1) := by decide +kernel
theorem dX4_isIdle_8 : decode cX4_isIdle 8 = .ok (.iconst (-1), 1) := by decide +kernel
theorem dX4_isIdle_9 : decode cX4_isIdle 9 = .ok (.ixor, 1) := by decide +kernel
theorem dX4_isIdle_10 : decode cX4_isIdle 10 = .ok (.iand, 1) := by decide +kernel
theorem dX4_isIdle_11 : decode cX4_isIdle 11 = .ok (.istore_n 3, 1) := by decide +kernel
theorem dX4_isIdle_12 : decode cX4_isIdle 12 = .ok (.iload_n 3, 1) := by decide +kernel
theorem dX4_isIdle_13 : decode cX4_isIdle 13 = .ok (.iconst 1, 1) := by decide +kernel
theorem dX4_isIdle_14 : decode cX4_isIdle 14 = .ok (.iload_n 2, 1) := by decide +kernel
theorem dX4_isIdle_15 : decode cX4_isIdle 15 = .ok (.ishl, 1) := by decide +kernel
theorem dX4_isIdle_16 : decode cX4_isIdle 16 = .ok (.ior, 1) := by decide +kernel
theorem dX4_isIdle_17 : decode cX4_isIdle 17 = .ok (.istore 4, 2) := by decide +kernel
theorem dX4_isIdle_19 : decode cX4_isIdle 19 = .ok (.aload_n 0, 1) := by decide +kernel
theorem dX4_isIdle_20 : decode cX4_isIdle 20 = .ok (.iload_n 1, 1) := by decide +kernel
theorem dX4_isIdle_21 : decode cX4_isIdle 21 = .ok (.iload 4, 2) := by decide +kernel
theorem dX4_isIdle_23 : decode cX4_isIdle 23 = .ok (.invokevirtual 114, 3) := by decide +kernel
theorem dX4_isIdle_26 : decode cX4_isIdle 26 = .ok (.istore 5, 2) := by decide +kernel
theorem dX4_isIdle_28 : decode cX4_isIdle 28 = .ok (.iload 5, 2) := by decide +kernel
theorem dX4_isIdle_30 : decode cX4_isIdle 30 = .ok (.aload_n 0, 1) := by decide +kernel
theorem dX4_isIdle_31 : decode cX4_isIdle 31 = .ok (.iload_n 1, 1) := by decide +kernel
theorem dX4_isIdle_32 : decode cX4_isIdle 32 = .ok (.iload_n 3, 1) := by decide +kernel
theorem dX4_isIdle_33 : decode cX4_isIdle 33 = .ok (.invokevirtual 114, 3) := by decide +kernel
theorem dX4_isIdle_36 : decode cX4_isIdle 36 = .ok (.if_icmp .ne 28, 3) := by decide +kernel
theorem dX4_isIdle_39 : decode cX4_isIdle 39 = .ok (.iload 5, 2) := by decide +kernel
theorem dX4_isIdle_41 : decode cX4_isIdle 41 = .ok (.ifCond .eq 19, 3) := by decide +kernel
theorem dX4_isIdle_44 : decode cX4_isIdle 44 = .ok (.aload_n 0, 1) := by decide +kernel
theorem dX4_isIdle_45 : decode cX4_isIdle 45 = .ok (.iload_n 1, 1) := by decide +kernel
theorem dX4_isIdle_46 : decode cX4_isIdle 46 = .ok (.iload 4, 2) := by decide +kernel
theorem dX4_isIdle_48 : decode cX4_isIdle 48 = .ok (.invokevirtual 117, 3) := by decide +kernel
theorem dX4_isIdle_51 : decode cX4_isIdle 51 = .ok (.aload_n 0, 1) := by decide +kernel
theorem dX4_isIdle_52 : decode cX4_isIdle 52 = .ok (.iload_n 1, 1) := by decide +kernel
theorem dX4_isIdle_53 : decode cX4_isIdle 53 = .ok (.iload_n 3, 1) := by decide +kernel
theorem dX4_isIdle_54 : decode cX4_isIdle 54 = .ok (.invokevirtual 117, 3) := by decide +kernel
theorem dX4_isIdle_57 : decode cX4_isIdle 57 = .ok (.if_icmp .ne 7, 3) := by decide +kernel
theorem dX4_isIdle_60 : decode cX4_isIdle 60 = .ok (.iconst 1, 1) := by decide +kernel
theorem dX4_isIdle_61 : decode cX4_isIdle 61 = .ok (.goto 4, 3) := by decide +kernel
theorem dX4_isIdle_64 : decode cX4_isIdle 64 = .ok (.iconst 0, 1) := by decide +kernel
theorem dX4_isIdle_65 : decode cX4_isIdle 65 = .ok (.ireturn, 1) := by decide +kernel
theorem dX4_touchedBy_0 : decode cX4_touchedBy 0 = .ok (.iconst 0, 1) := by decide +kernel
theorem dX4_touchedBy_1 : decode cX4_touchedBy 1 = .ok (.istore_n 3, 1) := by decide +kernel
theorem dX4_touchedBy_2 : decode cX4_touchedBy 2 = .ok (.iconst 0, 1) := by decide +kernel
theorem dX4_touchedBy_3 : decode cX4_touchedBy 3 = .ok (.istore 4, 2) := by decide +kernel
theorem dX4_touchedBy_5 : decode cX4_touchedBy 5 = .ok (.iload 4, 2) := by decide +kernel
theorem dX4_touchedBy_7 : decode cX4_touchedBy 7 = .ok (.aload_n 0, 1) := by decide +kernel
theorem dX4_touchedBy_8 : decode cX4_touchedBy 8 = .ok (.getfield 82, 3) := by decide +kernel
theorem dX4_touchedBy_11 : decode cX4_touchedBy 11 = .ok (.if_icmp .ge 41, 3) := by decide +kernel
theorem dX4_touchedBy_14 : decode cX4_touchedBy 14 = .ok (.iload_n 3, 1) := by decide +kernel
theorem dX4_touchedBy_15 : decode cX4_touchedBy 15 = .ok (.aload_n 0, 1) := by decide +kernel
theorem dX4_touchedBy_16 : decode cX4_touchedBy 16 = .ok (.iload 4, 2) := by decide +kernel
theorem dX4_touchedBy_18 : decode cX4_touchedBy 18 = .ok (.iload_n 1, 1) := by decide +kernel
theorem dX4_touchedBy_19 : decode cX4_touchedBy 19 = .ok (.invokevirtual 177, 3) := by decide +kernel
theorem dX4_touchedBy_22 : decode cX4_touchedBy 22 = .ok (.ifCond .eq 21, 3) := by decide +kernel
theorem dX4_touchedBy_25 : decode cX4_touchedBy 25 = .ok (.iload_n 2, 1) := by decide +kernel
theorem dX4_touchedBy_26 : decode cX4_touchedBy 26 = .ok (.ifCond .eq 13, 3) := by decide +kernel
theorem dX4_touchedBy_29 : decode cX4_touchedBy 29 = .ok (.aload_n 0, 1) := by decide +kernel
theorem dX4_touchedBy_30 : decode cX4_touchedBy 30 = .ok (.iload 4, 2) := by decide +kernel
theorem dX4_touchedBy_32 : decode cX4_touchedBy 32 = .ok (.iload_n 1, 1) := by decide +kernel
theorem dX4_touchedBy_33 : decode cX4_touchedBy 33 = .ok (.invokevirtual 180, 3) := by decide +kernel
theorem dX4_touchedBy_36 : decode cX4_touchedBy 36 = .ok (.ifCond .eq 7, 3) := by decide +kernel
theorem dX4_touchedBy_39 : decode cX4_touchedBy 39 = .ok (.iconst 1, 1) := by decide +kernel
theorem dX4_touchedBy_40 : decode cX4_touchedBy 40 = .ok (.goto 4, 3) := by decide +kernel
theorem dX4_touchedBy_43 : decode cX4_touchedBy 43 = .ok (.iconst 0, 1) := by decide +kernel
theorem dX4_touchedBy_44 : decode cX4_touchedBy 44 = .ok (.iadd, 1) := by decide +kernel
theorem dX4_touchedBy_45 : decode cX4_touchedBy 45 = .ok (.istore_n 3, 1) := by decide +kernel
theorem dX4_touchedBy_46 : decode cX4_touchedBy 46 = .ok (.iinc 4 1, 3) := by decide +kernel
theorem dX4_touchedBy_49 : decode cX4_touchedBy 49 = .ok (.goto (-44), 3) := by decide +kernel
theorem dX4_touchedBy_52 : decode cX4_touchedBy 52 = .ok (.iload_n 3, 1) := by decide +kernel
theorem dX4_touchedBy_53 : decode cX4_touchedBy 53 = .ok (.ireturn, 1) := by decide +kernel
theorem dX4_leansOn_0 : decode cX4_leansOn 0 = .ok (.iconst 0, 1) := by decide +kernel
theorem dX4_leansOn_1 : decode cX4_leansOn 1 = .ok (.istore_n 2, 1) := by decide +kernel
theorem dX4_leansOn_2 : decode cX4_leansOn 2 = .ok (.iconst 0, 1) := by decide +kernel
theorem dX4_leansOn_3 : decode cX4_leansOn 3 = .ok (.istore_n 3, 1) := by decide +kernel
theorem dX4_leansOn_4 : decode cX4_leansOn 4 = .ok (.iload_n 3, 1) := by decide +kernel
theorem dX4_leansOn_5 : decode cX4_leansOn 5 = .ok (.aload_n 0, 1) := by decide +kernel
theorem dX4_leansOn_6 : decode cX4_leansOn 6 = .ok (.getfield 82, 3) := by decide +kernel
theorem dX4_leansOn_9 : decode cX4_leansOn 9 = .ok (.if_icmp .ge 71, 3) := by decide +kernel
theorem dX4_leansOn_12 : decode cX4_leansOn 12 = .ok (.aload_n 0, 1) := by decide +kernel
theorem dX4_leansOn_13 : decode cX4_leansOn 13 = .ok (.getfield 22, 3) := by decide +kernel
theorem dX4_leansOn_16 : decode cX4_leansOn 16 = .ok (.iload_n 3, 1) := by decide +kernel
theorem dX4_leansOn_17 : decode cX4_leansOn 17 = .ok (.iaload, 1) := by decide +kernel
theorem dX4_leansOn_18 : decode cX4_leansOn 18 = .ok (.iload_n 1, 1) := by decide +kernel
theorem dX4_leansOn_19 : decode cX4_leansOn 19 = .ok (.invokestatic 106, 3) := by decide +kernel
theorem dX4_leansOn_22 : decode cX4_leansOn 22 = .ok (.ifCond .ne 15, 3) := by decide +kernel
theorem dX4_leansOn_25 : decode cX4_leansOn 25 = .ok (.aload_n 0, 1) := by decide +kernel
theorem dX4_leansOn_26 : decode cX4_leansOn 26 = .ok (.iload_n 3, 1) := by decide +kernel
theorem dX4_leansOn_27 : decode cX4_leansOn 27 = .ok (.invokevirtual 162, 3) := by decide +kernel
theorem dX4_leansOn_30 : decode cX4_leansOn 30 = .ok (.iload_n 1, 1) := by decide +kernel
theorem dX4_leansOn_31 : decode cX4_leansOn 31 = .ok (.invokestatic 106, 3) := by decide +kernel
theorem dX4_leansOn_34 : decode cX4_leansOn 34 = .ok (.ifCond .eq 7, 3) := by decide +kernel
theorem dX4_leansOn_37 : decode cX4_leansOn 37 = .ok (.iconst 1, 1) := by decide +kernel
theorem dX4_leansOn_38 : decode cX4_leansOn 38 = .ok (.goto 4, 3) := by decide +kernel
theorem dX4_leansOn_41 : decode cX4_leansOn 41 = .ok (.iconst 0, 1) := by decide +kernel
theorem dX4_leansOn_42 : decode cX4_leansOn 42 = .ok (.istore 4, 2) := by decide +kernel
theorem dX4_leansOn_44 : decode cX4_leansOn 44 = .ok (.iload_n 2, 1) := by decide +kernel
theorem dX4_leansOn_45 : decode cX4_leansOn 45 = .ok (.iload 4, 2) := by decide +kernel
theorem dX4_leansOn_47 : decode cX4_leansOn 47 = .ok (.ifCond .eq 24, 3) := by decide +kernel
theorem dX4_leansOn_50 : decode cX4_leansOn 50 = .ok (.aload_n 0, 1) := by decide +kernel
theorem dX4_leansOn_51 : decode cX4_leansOn 51 = .ok (.getfield 16, 3) := by decide +kernel
theorem dX4_leansOn_54 : decode cX4_leansOn 54 = .ok (.iload_n 3, 1) := by decide +kernel
theorem dX4_leansOn_55 : decode cX4_leansOn 55 = .ok (.iaload, 1) := by decide +kernel
theorem dX4_leansOn_56 : decode cX4_leansOn 56 = .ok (.iconst (-1), 1) := by decide +kernel
theorem dX4_leansOn_57 : decode cX4_leansOn 57 = .ok (.if_icmp .eq 14, 3) := by decide +kernel
theorem dX4_leansOn_60 : decode cX4_leansOn 60 = .ok (.iconst 1, 1) := by decide +kernel
theorem dX4_leansOn_61 : decode cX4_leansOn 61 = .ok (.aload_n 0, 1) := by decide +kernel
theorem dX4_leansOn_62 : decode cX4_leansOn 62 = .ok (.getfield 16, 3) := by decide +kernel
theorem dX4_leansOn_65 : decode cX4_leansOn 65 = .ok (.iload_n 3, 1) := by decide +kernel
theorem dX4_leansOn_66 : decode cX4_leansOn 66 = .ok (.iaload, 1) := by decide +kernel
theorem dX4_leansOn_67 : decode cX4_leansOn 67 = .ok (.ishl, 1) := by decide +kernel
theorem dX4_leansOn_68 : decode cX4_leansOn 68 = .ok (.goto 4, 3) := by decide +kernel
theorem dX4_leansOn_71 : decode cX4_leansOn 71 = .ok (.iconst 0, 1) := by decide +kernel
theorem dX4_leansOn_72 : decode cX4_leansOn 72 = .ok (.ior, 1) := by decide +kernel
theorem dX4_leansOn_73 : decode cX4_leansOn 73 = .ok (.istore_n 2, 1) := by decide +kernel
theorem dX4_leansOn_74 : decode cX4_leansOn 74 = .ok (.iinc 3 1, 3) := by decide +kernel
theorem dX4_leansOn_77 : decode cX4_leansOn 77 = .ok (.goto (-73), 3) := by decide +kernel
theorem dX4_leansOn_80 : decode cX4_leansOn 80 = .ok (.iconst 0, 1) := by decide +kernel
theorem dX4_leansOn_81 : decode cX4_leansOn 81 = .ok (.istore_n 3, 1) := by decide +kernel
theorem dX4_leansOn_82 : decode cX4_leansOn 82 = .ok (.iload_n 3, 1) := by decide +kernel
theorem dX4_leansOn_83 : decode cX4_leansOn 83 = .ok (.aload_n 0, 1) := by decide +kernel
theorem dX4_leansOn_84 : decode cX4_leansOn 84 = .ok (.getfield 85, 3) := by decide +kernel
theorem dX4_leansOn_87 : decode cX4_leansOn 87 = .ok (.if_icmp .ge 60, 3) := by decide +kernel
theorem dX4_leansOn_90 : decode cX4_leansOn 90 = .ok (.aload_n 0, 1) := by decide +kernel
theorem dX4_leansOn_91 : decode cX4_leansOn 91 = .ok (.getfield 41, 3) := by decide +kernel
theorem dX4_leansOn_94 : decode cX4_leansOn 94 = .ok (.iload_n 3, 1) := by decide +kernel
theorem dX4_leansOn_95 : decode cX4_leansOn 95 = .ok (.iaload, 1) := by decide +kernel
theorem dX4_leansOn_96 : decode cX4_leansOn 96 = .ok (.iconst (-1), 1) := by decide +kernel
theorem dX4_leansOn_97 : decode cX4_leansOn 97 = .ok (.if_icmp .eq 44, 3) := by decide +kernel
theorem dX4_leansOn_100 : decode cX4_leansOn 100 = .ok (.aload_n 0, 1) := by decide +kernel
theorem dX4_leansOn_101 : decode cX4_leansOn 101 = .ok (.getfield 44, 3) := by decide +kernel
theorem dX4_leansOn_104 : decode cX4_leansOn 104 = .ok (.iload_n 3, 1) := by decide +kernel
theorem dX4_leansOn_105 : decode cX4_leansOn 105 = .ok (.iaload, 1) := by decide +kernel
theorem dX4_leansOn_106 : decode cX4_leansOn 106 = .ok (.iload_n 1, 1) := by decide +kernel
theorem dX4_leansOn_107 : decode cX4_leansOn 107 = .ok (.if_icmp .ne 34, 3) := by decide +kernel
theorem dX4_leansOn_110 : decode cX4_leansOn 110 = .ok (.aload_n 0, 1) := by decide +kernel
theorem dX4_leansOn_111 : decode cX4_leansOn 111 = .ok (.getfield 44, 3) := by decide +kernel
theorem dX4_leansOn_114 : decode cX4_leansOn 114 = .ok (.aload_n 0, 1) := by decide +kernel
theorem dX4_leansOn_115 : decode cX4_leansOn 115 = .ok (.getfield 41, 3) := by decide +kernel
theorem dX4_leansOn_118 : decode cX4_leansOn 118 = .ok (.iload_n 3, 1) := by decide +kernel
theorem dX4_leansOn_119 : decode cX4_leansOn 119 = .ok (.iaload, 1) := by decide +kernel
theorem dX4_leansOn_120 : decode cX4_leansOn 120 = .ok (.iaload, 1) := by decide +kernel
theorem dX4_leansOn_121 : decode cX4_leansOn 121 = .ok (.iconst (-1), 1) := by decide +kernel
theorem dX4_leansOn_122 : decode cX4_leansOn 122 = .ok (.if_icmp .eq 19, 3) := by decide +kernel
theorem dX4_leansOn_125 : decode cX4_leansOn 125 = .ok (.iload_n 2, 1) := by decide +kernel
theorem dX4_leansOn_126 : decode cX4_leansOn 126 = .ok (.iconst 1, 1) := by decide +kernel
theorem dX4_leansOn_127 : decode cX4_leansOn 127 = .ok (.aload_n 0, 1) := by decide +kernel
theorem dX4_leansOn_128 : decode cX4_leansOn 128 = .ok (.getfield 44, 3) := by decide +kernel
theorem dX4_leansOn_131 : decode cX4_leansOn 131 = .ok (.aload_n 0, 1) := by decide +kernel
theorem dX4_leansOn_132 : decode cX4_leansOn 132 = .ok (.getfield 41, 3) := by decide +kernel
theorem dX4_leansOn_135 : decode cX4_leansOn 135 = .ok (.iload_n 3, 1) := by decide +kernel
theorem dX4_leansOn_136 : decode cX4_leansOn 136 = .ok (.iaload, 1) := by decide +kernel
theorem dX4_leansOn_137 : decode cX4_leansOn 137 = .ok (.iaload, 1) := by decide +kernel
theorem dX4_leansOn_138 : decode cX4_leansOn 138 = .ok (.ishl, 1) := by decide +kernel
theorem dX4_leansOn_139 : decode cX4_leansOn 139 = .ok (.ior, 1) := by decide +kernel
theorem dX4_leansOn_140 : decode cX4_leansOn 140 = .ok (.istore_n 2, 1) := by decide +kernel
theorem dX4_leansOn_141 : decode cX4_leansOn 141 = .ok (.iinc 3 1, 3) := by decide +kernel
theorem dX4_leansOn_144 : decode cX4_leansOn 144 = .ok (.goto (-62), 3) := by decide +kernel
theorem dX4_leansOn_147 : decode cX4_leansOn 147 = .ok (.iload_n 2, 1) := by decide +kernel
theorem dX4_leansOn_148 : decode cX4_leansOn 148 = .ok (.iconst 1, 1) := by decide +kernel
theorem dX4_leansOn_149 : decode cX4_leansOn 149 = .ok (.iload_n 1, 1) := by decide +kernel
theorem dX4_leansOn_150 : decode cX4_leansOn 150 = .ok (.ishl, 1) := by decide +kernel
theorem dX4_leansOn_151 : decode cX4_leansOn 151 = .ok (.iconst (-1), 1) := by decide +kernel
theorem dX4_leansOn_152 : decode cX4_leansOn 152 = .ok (.ixor, 1) := by decide +kernel
theorem dX4_leansOn_153 : decode cX4_leansOn 153 = .ok (.iand, 1) := by decide +kernel
theorem dX4_leansOn_154 : decode cX4_leansOn 154 = .ok (.ireturn, 1) := by decide +kernel
theorem dX4_changeNow_0 : decode cX4_changeNow 0 = .ok (.iload_n 2, 1) := by decide +kernel
theorem dX4_changeNow_1 : decode cX4_changeNow 1 = .ok (.tableswitch 89 0 5 #[39, 46, 53, 60, 75, 82], 39) := by decide +kernel
theorem dX4_changeNow_40 : decode cX4_changeNow 40 = .ok (.aload_n 0, 1) := by decide +kernel
theorem dX4_changeNow_41 : decode cX4_changeNow 41 = .ok (.getfield 25, 3) := by decide +kernel
theorem dX4_changeNow_44 : decode cX4_changeNow 44 = .ok (.iload_n 1, 1) := by decide +kernel
theorem dX4_changeNow_45 : decode cX4_changeNow 45 = .ok (.iaload, 1) := by decide +kernel
theorem dX4_changeNow_46 : decode cX4_changeNow 46 = .ok (.ireturn, 1) := by decide +kernel
theorem dX4_changeNow_47 : decode cX4_changeNow 47 = .ok (.aload_n 0, 1) := by decide +kernel
theorem dX4_changeNow_48 : decode cX4_changeNow 48 = .ok (.getfield 28, 3) := by decide +kernel
theorem dX4_changeNow_51 : decode cX4_changeNow 51 = .ok (.iload_n 1, 1) := by decide +kernel
theorem dX4_changeNow_52 : decode cX4_changeNow 52 = .ok (.iaload, 1) := by decide +kernel
theorem dX4_changeNow_53 : decode cX4_changeNow 53 = .ok (.ireturn, 1) := by decide +kernel
theorem dX4_changeNow_54 : decode cX4_changeNow 54 = .ok (.aload_n 0, 1) := by decide +kernel
theorem dX4_changeNow_55 : decode cX4_changeNow 55 = .ok (.getfield 31, 3) := by decide +kernel
theorem dX4_changeNow_58 : decode cX4_changeNow 58 = .ok (.iload_n 1, 1) := by decide +kernel
theorem dX4_changeNow_59 : decode cX4_changeNow 59 = .ok (.iaload, 1) := by decide +kernel
theorem dX4_changeNow_60 : decode cX4_changeNow 60 = .ok (.ireturn, 1) := by decide +kernel
theorem dX4_changeNow_61 : decode cX4_changeNow 61 = .ok (.aload_n 0, 1) := by decide +kernel
theorem dX4_changeNow_62 : decode cX4_changeNow 62 = .ok (.getfield 34, 3) := by decide +kernel
theorem dX4_changeNow_65 : decode cX4_changeNow 65 = .ok (.iload_n 1, 1) := by decide +kernel
theorem dX4_changeNow_66 : decode cX4_changeNow 66 = .ok (.baload, 1) := by decide +kernel
theorem dX4_changeNow_67 : decode cX4_changeNow 67 = .ok (.ifCond .eq 7, 3) := by decide +kernel
theorem dX4_changeNow_70 : decode cX4_changeNow 70 = .ok (.iconst 1, 1) := by decide +kernel
theorem dX4_changeNow_71 : decode cX4_changeNow 71 = .ok (.goto 4, 3) := by decide +kernel
theorem dX4_changeNow_74 : decode cX4_changeNow 74 = .ok (.iconst 0, 1) := by decide +kernel
theorem dX4_changeNow_75 : decode cX4_changeNow 75 = .ok (.ireturn, 1) := by decide +kernel
theorem dX4_changeNow_76 : decode cX4_changeNow 76 = .ok (.aload_n 0, 1) := by decide +kernel
theorem dX4_changeNow_77 : decode cX4_changeNow 77 = .ok (.iload_n 1, 1) := by decide +kernel
theorem dX4_changeNow_78 : decode cX4_changeNow 78 = .ok (.iconst 0, 1) := by decide +kernel
theorem dX4_changeNow_79 : decode cX4_changeNow 79 = .ok (.invokevirtual 183, 3) := by decide +kernel
theorem dX4_changeNow_82 : decode cX4_changeNow 82 = .ok (.ireturn, 1) := by decide +kernel
theorem dX4_changeNow_83 : decode cX4_changeNow 83 = .ok (.aload_n 0, 1) := by decide +kernel
theorem dX4_changeNow_84 : decode cX4_changeNow 84 = .ok (.iload_n 1, 1) := by decide +kernel
theorem dX4_changeNow_85 : decode cX4_changeNow 85 = .ok (.iconst 1, 1) := by decide +kernel
theorem dX4_changeNow_86 : decode cX4_changeNow 86 = .ok (.invokevirtual 183, 3) := by decide +kernel
theorem dX4_changeNow_89 : decode cX4_changeNow 89 = .ok (.ireturn, 1) := by decide +kernel
theorem dX4_changeNow_90 : decode cX4_changeNow 90 = .ok (.aload_n 0, 1) := by decide +kernel
theorem dX4_changeNow_91 : decode cX4_changeNow 91 = .ok (.iload_n 1, 1) := by decide +kernel
theorem dX4_changeNow_92 : decode cX4_changeNow 92 = .ok (.invokevirtual 187, 3) := by decide +kernel
theorem dX4_changeNow_95 : decode cX4_changeNow 95 = .ok (.ireturn, 1) := by decide +kernel
theorem dX4_change_0 : decode cX4_change 0 = .ok (.aload_n 0, 1) := by decide +kernel
theorem dX4_change_1 : decode cX4_change 1 = .ok (.iload_n 1, 1) := by decide +kernel
theorem dX4_change_2 : decode cX4_change 2 = .ok (.invokevirtual 144, 3) := by decide +kernel
theorem dX4_change_5 : decode cX4_change 5 = .ok (.ifCond .ne 7, 3) := by decide +kernel
theorem dX4_change_8 : decode cX4_change 8 = .ok (.sipush (-1001), 3) := by decide +kernel
theorem dX4_change_11 : decode cX4_change 11 = .ok (.ireturn, 1) := by decide +kernel
theorem dX4_change_12 : decode cX4_change 12 = .ok (.iload_n 2, 1) := by decide +kernel
theorem dX4_change_13 : decode cX4_change 13 = .ok (.iconst 0, 1) := by decide +kernel
theorem dX4_change_14 : decode cX4_change 14 = .ok (.bipush 6, 2) := by decide +kernel
theorem dX4_change_16 : decode cX4_change 16 = .ok (.invokestatic 74, 3) := by decide +kernel
theorem dX4_change_19 : decode cX4_change 19 = .ok (.ifCond .eq 12, 3) := by decide +kernel
theorem dX4_change_22 : decode cX4_change 22 = .ok (.aload_n 0, 1) := by decide +kernel
theorem dX4_change_23 : decode cX4_change 23 = .ok (.iload_n 1, 1) := by decide +kernel
theorem dX4_change_24 : decode cX4_change 24 = .ok (.iload_n 2, 1) := by decide +kernel
theorem dX4_change_25 : decode cX4_change 25 = .ok (.invokevirtual 190, 3) := by decide +kernel
theorem dX4_change_28 : decode cX4_change 28 = .ok (.goto 6, 3) := by decide +kernel
theorem dX4_change_31 : decode cX4_change 31 = .ok (.sipush (-1002), 3) := by decide +kernel
theorem dX4_change_34 : decode cX4_change 34 = .ok (.ireturn, 1) := by decide +kernel
theorem dX4_laySpans_0 : decode cX4_laySpans 0 = .ok (.aload_n 0, 1) := by decide +kernel
theorem dX4_laySpans_1 : decode cX4_laySpans 1 = .ok (.iconst 0, 1) := by decide +kernel
theorem dX4_laySpans_2 : decode cX4_laySpans 2 = .ok (.putfield 193, 3) := by decide +kernel
theorem dX4_laySpans_5 : decode cX4_laySpans 5 = .ok (.iconst 0, 1) := by decide +kernel
theorem dX4_laySpans_6 : decode cX4_laySpans 6 = .ok (.istore_n 1, 1) := by decide +kernel
theorem dX4_laySpans_7 : decode cX4_laySpans 7 = .ok (.iload_n 1, 1) := by decide +kernel
theorem dX4_laySpans_8 : decode cX4_laySpans 8 = .ok (.aload_n 0, 1) := by decide +kernel
theorem dX4_laySpans_9 : decode cX4_laySpans 9 = .ok (.getfield 85, 3) := by decide +kernel
theorem dX4_laySpans_12 : decode cX4_laySpans 12 = .ok (.if_icmp .ge 117, 3) := by decide +kernel
theorem dX4_laySpans_15 : decode cX4_laySpans 15 = .ok (.aload_n 0, 1) := by decide +kernel
theorem dX4_laySpans_16 : decode cX4_laySpans 16 = .ok (.aload_n 0, 1) := by decide +kernel
theorem dX4_laySpans_17 : decode cX4_laySpans 17 = .ok (.getfield 47, 3) := by decide +kernel
theorem dX4_laySpans_20 : decode cX4_laySpans 20 = .ok (.iload_n 1, 1) := by decide +kernel
theorem dX4_laySpans_21 : decode cX4_laySpans 21 = .ok (.iaload, 1) := by decide +kernel
theorem dX4_laySpans_22 : decode cX4_laySpans 22 = .ok (.invokevirtual 171, 3) := by decide +kernel
theorem dX4_laySpans_25 : decode cX4_laySpans 25 = .ok (.istore_n 2, 1) := by decide +kernel
theorem dX4_laySpans_26 : decode cX4_laySpans 26 = .ok (.iload_n 2, 1) := by decide +kernel
theorem dX4_laySpans_27 : decode cX4_laySpans 27 = .ok (.iconst 3, 1) := by decide +kernel
theorem dX4_laySpans_28 : decode cX4_laySpans 28 = .ok (.if_icmp .ge 29, 3) := by decide +kernel
theorem dX4_laySpans_31 : decode cX4_laySpans 31 = .ok (.aload_n 0, 1) := by decide +kernel
theorem dX4_laySpans_32 : decode cX4_laySpans 32 = .ok (.getfield 193, 3) := by decide +kernel
theorem dX4_laySpans_35 : decode cX4_laySpans 35 = .ok (.ifCond .eq 18, 3) := by decide +kernel
theorem dX4_laySpans_38 : decode cX4_laySpans 38 = .ok (.aload_n 0, 1) := by decide +kernel
theorem dX4_laySpans_39 : decode cX4_laySpans 39 = .ok (.getfield 65, 3) := by decide +kernel
theorem dX4_laySpans_42 : decode cX4_laySpans 42 = .ok (.aload_n 0, 1) := by decide +kernel
theorem dX4_laySpans_43 : decode cX4_laySpans 43 = .ok (.getfield 193, 3) := by decide +kernel
theorem dX4_laySpans_46 : decode cX4_laySpans 46 = .ok (.iconst 1, 1) := by decide +kernel
theorem dX4_laySpans_47 : decode cX4_laySpans 47 = .ok (.isub, 1) := by decide +kernel
theorem dX4_laySpans_48 : decode cX4_laySpans 48 = .ok (.iaload, 1) := by decide +kernel
theorem dX4_laySpans_49 : decode cX4_laySpans 49 = .ok (.iload_n 2, 1) := by decide +kernel
theorem dX4_laySpans_50 : decode cX4_laySpans 50 = .ok (.if_icmp .eq 7, 3) := by decide +kernel
theorem dX4_laySpans_53 : decode cX4_laySpans 53 = .ok (.iconst 1, 1) := by decide +kernel
theorem dX4_laySpans_54 : decode cX4_laySpans 54 = .ok (.goto 4, 3) := by decide +kernel
theorem dX4_laySpans_57 : decode cX4_laySpans 57 = .ok (.iconst 0, 1) := by decide +kernel
theorem dX4_laySpans_58 : decode cX4_laySpans 58 = .ok (.istore_n 3, 1) := by decide +kernel
theorem dX4_laySpans_59 : decode cX4_laySpans 59 = .ok (.iload_n 3, 1) := by decide +kernel
theorem dX4_laySpans_60 : decode cX4_laySpans 60 = .ok (.ifCond .eq 43, 3) := by decide +kernel
theorem dX4_laySpans_63 : decode cX4_laySpans 63 = .ok (.aload_n 0, 1) := by decide +kernel
theorem dX4_laySpans_64 : decode cX4_laySpans 64 = .ok (.getfield 65, 3) := by decide +kernel
theorem dX4_laySpans_67 : decode cX4_laySpans 67 = .ok (.aload_n 0, 1) := by decide +kernel
theorem dX4_laySpans_68 : decode cX4_laySpans 68 = .ok (.getfield 193, 3) := by decide +kernel
theorem dX4_laySpans_71 : decode cX4_laySpans 71 = .ok (.iload_n 2, 1) := by decide +kernel
theorem dX4_laySpans_72 : decode cX4_laySpans 72 = .ok (.iastore, 1) := by decide +kernel
theorem dX4_laySpans_73 : decode cX4_laySpans 73 = .ok (.aload_n 0, 1) := by decide +kernel
theorem dX4_laySpans_74 : decode cX4_laySpans 74 = .ok (.getfield 68, 3) := by decide +kernel
theorem dX4_laySpans_77 : decode cX4_laySpans 77 = .ok (.aload_n 0, 1) := by decide +kernel
theorem dX4_laySpans_78 : decode cX4_laySpans 78 = .ok (.getfield 193, 3) := by decide +kernel
theorem dX4_laySpans_81 : decode cX4_laySpans 81 = .ok (.iconst 0, 1) := by decide +kernel
theorem dX4_laySpans_82 : decode cX4_laySpans 82 = .ok (.iastore, 1) := by decide +kernel
theorem dX4_laySpans_83 : decode cX4_laySpans 83 = .ok (.aload_n 0, 1) := by decide +kernel
theorem dX4_laySpans_84 : decode cX4_laySpans 84 = .ok (.getfield 71, 3) := by decide +kernel
theorem dX4_laySpans_87 : decode cX4_laySpans 87 = .ok (.aload_n 0, 1) := by decide +kernel
theorem dX4_laySpans_88 : decode cX4_laySpans 88 = .ok (.getfield 193, 3) := by decide +kernel
theorem dX4_laySpans_91 : decode cX4_laySpans 91 = .ok (.iload_n 1, 1) := by decide +kernel
theorem dX4_laySpans_92 : decode cX4_laySpans 92 = .ok (.iastore, 1) := by decide +kernel
theorem dX4_laySpans_93 : decode cX4_laySpans 93 = .ok (.aload_n 0, 1) := by decide +kernel
theorem dX4_laySpans_94 : decode cX4_laySpans 94 = .ok (.dup, 1) := by decide +kernel
theorem dX4_laySpans_95 : decode cX4_laySpans 95 = .ok (.getfield 193, 3) := by decide +kernel
theorem dX4_laySpans_98 : decode cX4_laySpans 98 = .ok (.iconst 1, 1) := by decide +kernel
theorem dX4_laySpans_99 : decode cX4_laySpans 99 = .ok (.iadd, 1) := by decide +kernel
theorem dX4_laySpans_100 : decode cX4_laySpans 100 = .ok (.putfield 193, 3) := by decide +kernel
theorem dX4_laySpans_103 : decode cX4_laySpans 103 = .ok (.iload_n 2, 1) := by decide +kernel
theorem dX4_laySpans_104 : decode cX4_laySpans 104 = .ok (.iconst 3, 1) := by decide +kernel
theorem dX4_laySpans_105 : decode cX4_laySpans 105 = .ok (.if_icmp .ge 18, 3) := by decide +kernel
theorem dX4_laySpans_108 : decode cX4_laySpans 108 = .ok (.aload_n 0, 1) := by decide +kernel
theorem dX4_laySpans_109 : decode cX4_laySpans 109 = .ok (.getfield 68, 3) := by decide +kernel
theorem dX4_laySpans_112 : decode cX4_laySpans 112 = .ok (.aload_n 0, 1) := by decide +kernel
theorem dX4_laySpans_113 : decode cX4_laySpans 113 = .ok (.getfield 193, 3) := by decide +kernel
theorem dX4_laySpans_116 : decode cX4_laySpans 116 = .ok (.iconst 1, 1) := by decide +kernel
theorem dX4_laySpans_117 : decode cX4_laySpans 117 = .ok (.isub, 1) := by decide +kernel
theorem dX4_laySpans_118 : decode cX4_laySpans 118 = .ok (.dup2, 1) := by decide +kernel
theorem dX4_laySpans_119 : decode cX4_laySpans 119 = .ok (.iaload, 1) := by decide +kernel
theorem dX4_laySpans_120 : decode cX4_laySpans 120 = .ok (.iconst 1, 1) := by decide +kernel
theorem dX4_laySpans_121 : decode cX4_laySpans 121 = .ok (.iadd, 1) := by decide +kernel
theorem dX4_laySpans_122 : decode cX4_laySpans 122 = .ok (.iastore, 1) := by decide +kernel
theorem dX4_laySpans_123 : decode cX4_laySpans 123 = .ok (.iinc 1 1, 3) := by decide +kernel
theorem dX4_laySpans_126 : decode cX4_laySpans 126 = .ok (.goto (-119), 3) := by decide +kernel
theorem dX4_laySpans_129 : decode cX4_laySpans 129 = .ok (.return_, 1) := by decide +kernel
theorem dX4_span_0 : decode cX4_span 0 = .ok (.iload_n 2, 1) := by decide +kernel
theorem dX4_span_1 : decode cX4_span 1 = .ok (.iconst 0, 1) := by decide +kernel
theorem dX4_span_2 : decode cX4_span 2 = .ok (.iconst 3, 1) := by decide +kernel
theorem dX4_span_3 : decode cX4_span 3 = .ok (.invokestatic 74, 3) := by decide +kernel
theorem dX4_span_6 : decode cX4_span 6 = .ok (.ifCond .ne 7, 3) := by decide +kernel
theorem dX4_span_9 : decode cX4_span 9 = .ok (.sipush (-1002), 3) := by decide +kernel
theorem dX4_span_12 : decode cX4_span 12 = .ok (.ireturn, 1) := by decide +kernel
theorem dX4_span_13 : decode cX4_span 13 = .ok (.aload_n 0, 1) := by decide +kernel
theorem dX4_span_14 : decode cX4_span 14 = .ok (.invokevirtual 196, 3) := by decide +kernel
theorem dX4_span_17 : decode cX4_span 17 = .ok (.iload_n 2, 1) := by decide +kernel
theorem dX4_span_18 : decode cX4_span 18 = .ok (.ifCond .ne 8, 3) := by decide +kernel
theorem dX4_span_21 : decode cX4_span 21 = .ok (.aload_n 0, 1) := by decide +kernel
theorem dX4_span_22 : decode cX4_span 22 = .ok (.getfield 193, 3) := by decide +kernel
theorem dX4_span_25 : decode cX4_span 25 = .ok (.ireturn, 1) := by decide +kernel
theorem dX4_span_26 : decode cX4_span 26 = .ok (.iload_n 1, 1) := by decide +kernel
theorem dX4_span_27 : decode cX4_span 27 = .ok (.iconst 0, 1) := by decide +kernel
theorem dX4_span_28 : decode cX4_span 28 = .ok (.aload_n 0, 1) := by decide +kernel
theorem dX4_span_29 : decode cX4_span 29 = .ok (.getfield 193, 3) := by decide +kernel
theorem dX4_span_32 : decode cX4_span 32 = .ok (.iconst 1, 1) := by decide +kernel
theorem dX4_span_33 : decode cX4_span 33 = .ok (.isub, 1) := by decide +kernel
theorem dX4_span_34 : decode cX4_span 34 = .ok (.invokestatic 74, 3) := by decide +kernel
theorem dX4_span_37 : decode cX4_span 37 = .ok (.ifCond .ne 7, 3) := by decide +kernel
theorem dX4_span_40 : decode cX4_span 40 = .ok (.sipush (-1001), 3) := by decide +kernel
theorem dX4_span_43 : decode cX4_span 43 = .ok (.ireturn, 1) := by decide +kernel
theorem dX4_span_44 : decode cX4_span 44 = .ok (.iload_n 2, 1) := by decide +kernel
theorem dX4_span_45 : decode cX4_span 45 = .ok (.iconst 1, 1) := by decide +kernel
theorem dX4_span_46 : decode cX4_span 46 = .ok (.if_icmp .ne 12, 3) := by decide +kernel
theorem dX4_span_49 : decode cX4_span 49 = .ok (.aload_n 0, 1) := by decide +kernel
theorem dX4_span_50 : decode cX4_span 50 = .ok (.getfield 65, 3) := by decide +kernel
theorem dX4_span_53 : decode cX4_span 53 = .ok (.iload_n 1, 1) := by decide +kernel
theorem dX4_span_54 : decode cX4_span 54 = .ok (.iaload, 1) := by decide +kernel
theorem dX4_span_55 : decode cX4_span 55 = .ok (.goto 23, 3) := by decide +kernel
theorem dX4_span_58 : decode cX4_span 58 = .ok (.iload_n 2, 1) := by decide +kernel
theorem dX4_span_59 : decode cX4_span 59 = .ok (.iconst 2, 1) := by decide +kernel
theorem dX4_span_60 : decode cX4_span 60 = .ok (.if_icmp .ne 12, 3) := by decide +kernel
theorem dX4_span_63 : decode cX4_span 63 = .ok (.aload_n 0, 1) := by decide +kernel
theorem dX4_span_64 : decode cX4_span 64 = .ok (.getfield 68, 3) := by decide +kernel
theorem dX4_span_67 : decode cX4_span 67 = .ok (.iload_n 1, 1) := by decide +kernel
theorem dX4_span_68 : decode cX4_span 68 = .ok (.iaload, 1) := by decide +kernel
theorem dX4_span_69 : decode cX4_span 69 = .ok (.goto 9, 3) := by decide +kernel
theorem dX4_span_72 : decode cX4_span 72 = .ok (.aload_n 0, 1) := by decide +kernel
theorem dX4_span_73 : decode cX4_span 73 = .ok (.getfield 71, 3) := by decide +kernel
theorem dX4_span_76 : decode cX4_span 76 = .ok (.iload_n 1, 1) := by decide +kernel
theorem dX4_span_77 : decode cX4_span 77 = .ok (.iaload, 1) := by decide +kernel
theorem dX4_span_78 : decode cX4_span 78 = .ok (.ireturn, 1) := by decide +kernel
theorem dX4_readsAsPage_0 : decode cX4_readsAsPage 0 = .ok (.aload_n 0, 1) := by decide +kernel
theorem dX4_readsAsPage_1 : decode cX4_readsAsPage 1 = .ok (.iload_n 1, 1) := by decide +kernel
theorem dX4_readsAsPage_2 : decode cX4_readsAsPage 2 = .ok (.invokevirtual 134, 3) := by decide +kernel
theorem dX4_readsAsPage_5 : decode cX4_readsAsPage 5 = .ok (.aload_n 0, 1) := by decide +kernel
theorem dX4_readsAsPage_6 : decode cX4_readsAsPage 6 = .ok (.getfield 120, 3) := by decide +kernel
theorem dX4_readsAsPage_9 : decode cX4_readsAsPage 9 = .ok (.aload_n 0, 1) := by decide +kernel
theorem dX4_readsAsPage_10 : decode cX4_readsAsPage 10 = .ok (.getfield 78, 3) := by decide +kernel
theorem dX4_readsAsPage_13 : decode cX4_readsAsPage 13 = .ok (.if_icmp .ne 7, 3) := by decide +kernel
theorem dX4_readsAsPage_16 : decode cX4_readsAsPage 16 = .ok (.iconst 1, 1) := by decide +kernel
theorem dX4_readsAsPage_17 : decode cX4_readsAsPage 17 = .ok (.goto 4, 3) := by decide +kernel
theorem dX4_readsAsPage_20 : decode cX4_readsAsPage 20 = .ok (.iconst 0, 1) := by decide +kernel
theorem dX4_readsAsPage_21 : decode cX4_readsAsPage 21 = .ok (.istore_n 2, 1) := by decide +kernel
theorem dX4_readsAsPage_22 : decode cX4_readsAsPage 22 = .ok (.iconst 0, 1) := by decide +kernel
theorem dX4_readsAsPage_23 : decode cX4_readsAsPage 23 = .ok (.istore_n 3, 1) := by decide +kernel
theorem dX4_readsAsPage_24 : decode cX4_readsAsPage 24 = .ok (.iload_n 3, 1) := by decide +kernel
theorem dX4_readsAsPage_25 : decode cX4_readsAsPage 25 = .ok (.aload_n 0, 1) := by decide +kernel
theorem dX4_readsAsPage_26 : decode cX4_readsAsPage 26 = .ok (.getfield 120, 3) := by decide +kernel
theorem dX4_readsAsPage_29 : decode cX4_readsAsPage 29 = .ok (.if_icmp .ge 44, 3) := by decide +kernel
theorem dX4_readsAsPage_32 : decode cX4_readsAsPage 32 = .ok (.iload_n 2, 1) := by decide +kernel
theorem dX4_readsAsPage_33 : decode cX4_readsAsPage 33 = .ok (.ifCond .eq 40, 3) := by decide +kernel
theorem dX4_readsAsPage_36 : decode cX4_readsAsPage 36 = .ok (.aload_n 0, 1) := by decide +kernel
theorem dX4_readsAsPage_37 : decode cX4_readsAsPage 37 = .ok (.getfield 13, 3) := by decide +kernel
theorem dX4_readsAsPage_40 : decode cX4_readsAsPage 40 = .ok (.aload_n 0, 1) := by decide +kernel
theorem dX4_readsAsPage_41 : decode cX4_readsAsPage 41 = .ok (.getfield 38, 3) := by decide +kernel
theorem dX4_readsAsPage_44 : decode cX4_readsAsPage 44 = .ok (.aload_n 0, 1) := by decide +kernel
theorem dX4_readsAsPage_45 : decode cX4_readsAsPage 45 = .ok (.getfield 56, 3) := by decide +kernel
theorem dX4_readsAsPage_48 : decode cX4_readsAsPage 48 = .ok (.iload_n 3, 1) := by decide +kernel
theorem dX4_readsAsPage_49 : decode cX4_readsAsPage 49 = .ok (.iaload, 1) := by decide +kernel
theorem dX4_readsAsPage_50 : decode cX4_readsAsPage 50 = .ok (.iaload, 1) := by decide +kernel
theorem dX4_readsAsPage_51 : decode cX4_readsAsPage 51 = .ok (.iaload, 1) := by decide +kernel
theorem dX4_readsAsPage_52 : decode cX4_readsAsPage 52 = .ok (.aload_n 0, 1) := by decide +kernel
theorem dX4_readsAsPage_53 : decode cX4_readsAsPage 53 = .ok (.getfield 7, 3) := by decide +kernel
theorem dX4_readsAsPage_56 : decode cX4_readsAsPage 56 = .ok (.iload_n 3, 1) := by decide +kernel
theorem dX4_readsAsPage_57 : decode cX4_readsAsPage 57 = .ok (.iaload, 1) := by decide +kernel
theorem dX4_readsAsPage_58 : decode cX4_readsAsPage 58 = .ok (.if_icmp .ne 7, 3) := by decide +kernel
theorem dX4_readsAsPage_61 : decode cX4_readsAsPage 61 = .ok (.iconst 1, 1) := by decide +kernel
theorem dX4_readsAsPage_62 : decode cX4_readsAsPage 62 = .ok (.goto 4, 3) := by decide +kernel
theorem dX4_readsAsPage_65 : decode cX4_readsAsPage 65 = .ok (.iconst 0, 1) := by decide +kernel
theorem dX4_readsAsPage_66 : decode cX4_readsAsPage 66 = .ok (.istore_n 2, 1) := by decide +kernel
theorem dX4_readsAsPage_67 : decode cX4_readsAsPage 67 = .ok (.iinc 3 1, 3) := by decide +kernel
theorem dX4_readsAsPage_70 : decode cX4_readsAsPage 70 = .ok (.goto (-46), 3) := by decide +kernel
theorem dX4_readsAsPage_73 : decode cX4_readsAsPage 73 = .ok (.iload_n 2, 1) := by decide +kernel
theorem dX4_readsAsPage_74 : decode cX4_readsAsPage 74 = .ok (.ireturn, 1) := by decide +kernel
theorem dX4_layFound_0 : decode cX4_layFound 0 = .ok (.aload_n 0, 1) := by decide +kernel
theorem dX4_layFound_1 : decode cX4_layFound 1 = .ok (.iconst 0, 1) := by decide +kernel
theorem dX4_layFound_2 : decode cX4_layFound 2 = .ok (.invokevirtual 147, 3) := by decide +kernel
theorem dX4_layFound_5 : decode cX4_layFound 5 = .ok (.istore_n 1, 1) := by decide +kernel
theorem dX4_layFound_6 : decode cX4_layFound 6 = .ok (.aload_n 0, 1) := by decide +kernel
theorem dX4_layFound_7 : decode cX4_layFound 7 = .ok (.iconst 1, 1) := by decide +kernel
theorem dX4_layFound_8 : decode cX4_layFound 8 = .ok (.invokevirtual 147, 3) := by decide +kernel
theorem dX4_layFound_11 : decode cX4_layFound 11 = .ok (.istore_n 2, 1) := by decide +kernel
theorem dX4_layFound_12 : decode cX4_layFound 12 = .ok (.aload_n 0, 1) := by decide +kernel
theorem dX4_layFound_13 : decode cX4_layFound 13 = .ok (.iconst 0, 1) := by decide +kernel
theorem dX4_layFound_14 : decode cX4_layFound 14 = .ok (.putfield 199, 3) := by decide +kernel
theorem dX4_layFound_17 : decode cX4_layFound 17 = .ok (.aload_n 0, 1) := by decide +kernel
theorem dX4_layFound_18 : decode cX4_layFound 18 = .ok (.iconst (-1), 1) := by decide +kernel
theorem dX4_layFound_19 : decode cX4_layFound 19 = .ok (.putfield 202, 3) := by decide +kernel
theorem dX4_layFound_22 : decode cX4_layFound 22 = .ok (.iconst 0, 1) := by decide +kernel
theorem dX4_layFound_23 : decode cX4_layFound 23 = .ok (.istore_n 3, 1) := by decide +kernel
theorem dX4_layFound_24 : decode cX4_layFound 24 = .ok (.iload_n 3, 1) := by decide +kernel
theorem dX4_layFound_25 : decode cX4_layFound 25 = .ok (.iconst 1, 1) := by decide +kernel
theorem dX4_layFound_26 : decode cX4_layFound 26 = .ok (.aload_n 0, 1) := by decide +kernel
theorem dX4_layFound_27 : decode cX4_layFound 27 = .ok (.getfield 96, 3) := by decide +kernel
theorem dX4_layFound_30 : decode cX4_layFound 30 = .ok (.ishl, 1) := by decide +kernel
theorem dX4_layFound_31 : decode cX4_layFound 31 = .ok (.if_icmp .ge 71, 3) := by decide +kernel
theorem dX4_layFound_34 : decode cX4_layFound 34 = .ok (.iload_n 3, 1) := by decide +kernel
theorem dX4_layFound_35 : decode cX4_layFound 35 = .ok (.iload_n 1, 1) := by decide +kernel
theorem dX4_layFound_36 : decode cX4_layFound 36 = .ok (.iconst (-1), 1) := by decide +kernel
theorem dX4_layFound_37 : decode cX4_layFound 37 = .ok (.ixor, 1) := by decide +kernel
theorem dX4_layFound_38 : decode cX4_layFound 38 = .ok (.iand, 1) := by decide +kernel
theorem dX4_layFound_39 : decode cX4_layFound 39 = .ok (.ifCond .ne 57, 3) := by decide +kernel
theorem dX4_layFound_42 : decode cX4_layFound 42 = .ok (.aload_n 0, 1) := by decide +kernel
theorem dX4_layFound_43 : decode cX4_layFound 43 = .ok (.iload_n 3, 1) := by decide +kernel
theorem dX4_layFound_44 : decode cX4_layFound 44 = .ok (.iload_n 2, 1) := by decide +kernel
theorem dX4_layFound_45 : decode cX4_layFound 45 = .ok (.ior, 1) := by decide +kernel
theorem dX4_layFound_46 : decode cX4_layFound 46 = .ok (.invokevirtual 205, 3) := by decide +kernel
theorem dX4_layFound_49 : decode cX4_layFound 49 = .ok (.ifCond .eq 47, 3) := by decide +kernel
theorem dX4_layFound_52 : decode cX4_layFound 52 = .ok (.aload_n 0, 1) := by decide +kernel
theorem dX4_layFound_53 : decode cX4_layFound 53 = .ok (.dup, 1) := by decide +kernel
theorem dX4_layFound_54 : decode cX4_layFound 54 = .ok (.getfield 199, 3) := by decide +kernel
theorem dX4_layFound_57 : decode cX4_layFound 57 = .ok (.iconst 1, 1) := by decide +kernel
theorem dX4_layFound_58 : decode cX4_layFound 58 = .ok (.iadd, 1) := by decide +kernel
theorem dX4_layFound_59 : decode cX4_layFound 59 = .ok (.putfield 199, 3) := by decide +kernel
theorem dX4_layFound_62 : decode cX4_layFound 62 = .ok (.aload_n 0, 1) := by decide +kernel
theorem dX4_layFound_63 : decode cX4_layFound 63 = .ok (.aload_n 0, 1) := by decide +kernel
theorem dX4_layFound_64 : decode cX4_layFound 64 = .ok (.getfield 202, 3) := by decide +kernel
theorem dX4_layFound_67 : decode cX4_layFound 67 = .ok (.iconst (-1), 1) := by decide +kernel
theorem dX4_layFound_68 : decode cX4_layFound 68 = .ok (.if_icmp .eq 17, 3) := by decide +kernel
theorem dX4_layFound_71 : decode cX4_layFound 71 = .ok (.iload_n 3, 1) := by decide +kernel
theorem dX4_layFound_72 : decode cX4_layFound 72 = .ok (.invokestatic 159, 3) := by decide +kernel
theorem dX4_layFound_75 : decode cX4_layFound 75 = .ok (.aload_n 0, 1) := by decide +kernel
theorem dX4_layFound_76 : decode cX4_layFound 76 = .ok (.getfield 202, 3) := by decide +kernel
theorem dX4_layFound_79 : decode cX4_layFound 79 = .ok (.invokestatic 159, 3) := by decide +kernel
theorem dX4_layFound_82 : decode cX4_layFound 82 = .ok (.if_icmp .ge 7, 3) := by decide +kernel
theorem dX4_layFound_85 : decode cX4_layFound 85 = .ok (.iload_n 3, 1) := by decide +kernel
theorem dX4_layFound_86 : decode cX4_layFound 86 = .ok (.goto 7, 3) := by decide +kernel
theorem dX4_layFound_89 : decode cX4_layFound 89 = .ok (.aload_n 0, 1) := by decide +kernel
theorem dX4_layFound_90 : decode cX4_layFound 90 = .ok (.getfield 202, 3) := by decide +kernel
theorem dX4_layFound_93 : decode cX4_layFound 93 = .ok (.putfield 202, 3) := by decide +kernel
theorem dX4_layFound_96 : decode cX4_layFound 96 = .ok (.iinc 3 1, 3) := by decide +kernel
theorem dX4_layFound_99 : decode cX4_layFound 99 = .ok (.goto (-75), 3) := by decide +kernel
theorem dX4_layFound_102 : decode cX4_layFound 102 = .ok (.return_, 1) := by decide +kernel
theorem dX4_found_0 : decode cX4_found 0 = .ok (.iload_n 1, 1) := by decide +kernel
theorem dX4_found_1 : decode cX4_found 1 = .ok (.iconst 0, 1) := by decide +kernel
theorem dX4_found_2 : decode cX4_found 2 = .ok (.iconst 1, 1) := by decide +kernel
theorem dX4_found_3 : decode cX4_found 3 = .ok (.invokestatic 74, 3) := by decide +kernel
theorem dX4_found_6 : decode cX4_found 6 = .ok (.ifCond .ne 7, 3) := by decide +kernel
theorem dX4_found_9 : decode cX4_found 9 = .ok (.sipush (-1002), 3) := by decide +kernel
theorem dX4_found_12 : decode cX4_found 12 = .ok (.ireturn, 1) := by decide +kernel
theorem dX4_found_13 : decode cX4_found 13 = .ok (.aload_n 0, 1) := by decide +kernel
theorem dX4_found_14 : decode cX4_found 14 = .ok (.invokevirtual 208, 3) := by decide +kernel
theorem dX4_found_17 : decode cX4_found 17 = .ok (.iload_n 1, 1) := by decide +kernel
theorem dX4_found_18 : decode cX4_found 18 = .ok (.ifCond .ne 10, 3) := by decide +kernel
theorem dX4_found_21 : decode cX4_found 21 = .ok (.aload_n 0, 1) := by decide +kernel
theorem dX4_found_22 : decode cX4_found 22 = .ok (.getfield 199, 3) := by decide +kernel
theorem dX4_found_25 : decode cX4_found 25 = .ok (.goto 7, 3) := by decide +kernel
theorem dX4_found_28 : decode cX4_found 28 = .ok (.aload_n 0, 1) := by decide +kernel
theorem dX4_found_29 : decode cX4_found 29 = .ok (.getfield 202, 3) := by decide +kernel
theorem dX4_found_32 : decode cX4_found 32 = .ok (.ireturn, 1) := by decide +kernel
theorem dX4_openFrom_0 : decode cX4_openFrom 0 = .ok (.iconst 0, 1) := by decide +kernel
theorem dX4_openFrom_1 : decode cX4_openFrom 1 = .ok (.istore_n 3, 1) := by decide +kernel
theorem dX4_openFrom_2 : decode cX4_openFrom 2 = .ok (.aload_n 0, 1) := by decide +kernel
theorem dX4_openFrom_3 : decode cX4_openFrom 3 = .ok (.getfield 50, 3) := by decide +kernel
theorem dX4_openFrom_6 : decode cX4_openFrom 6 = .ok (.iload_n 1, 1) := by decide +kernel
theorem dX4_openFrom_7 : decode cX4_openFrom 7 = .ok (.iaload, 1) := by decide +kernel
theorem dX4_openFrom_8 : decode cX4_openFrom 8 = .ok (.istore 4, 2) := by decide +kernel
theorem dX4_openFrom_10 : decode cX4_openFrom 10 = .ok (.iload 4, 2) := by decide +kernel
theorem dX4_openFrom_12 : decode cX4_openFrom 12 = .ok (.iconst (-1), 1) := by decide +kernel
theorem dX4_openFrom_13 : decode cX4_openFrom 13 = .ok (.if_icmp .eq 37, 3) := by decide +kernel
theorem dX4_openFrom_16 : decode cX4_openFrom 16 = .ok (.iload_n 3, 1) := by decide +kernel
theorem dX4_openFrom_17 : decode cX4_openFrom 17 = .ok (.iload_n 2, 1) := by decide +kernel
theorem dX4_openFrom_18 : decode cX4_openFrom 18 = .ok (.aload_n 0, 1) := by decide +kernel
theorem dX4_openFrom_19 : decode cX4_openFrom 19 = .ok (.getfield 44, 3) := by decide +kernel
theorem dX4_openFrom_22 : decode cX4_openFrom 22 = .ok (.iload 4, 2) := by decide +kernel
theorem dX4_openFrom_24 : decode cX4_openFrom 24 = .ok (.iaload, 1) := by decide +kernel
theorem dX4_openFrom_25 : decode cX4_openFrom 25 = .ok (.invokestatic 106, 3) := by decide +kernel
theorem dX4_openFrom_28 : decode cX4_openFrom 28 = .ok (.ifCond .eq 7, 3) := by decide +kernel
theorem dX4_openFrom_31 : decode cX4_openFrom 31 = .ok (.iconst 1, 1) := by decide +kernel
theorem dX4_openFrom_32 : decode cX4_openFrom 32 = .ok (.goto 4, 3) := by decide +kernel
theorem dX4_openFrom_35 : decode cX4_openFrom 35 = .ok (.iconst 0, 1) := by decide +kernel
theorem dX4_openFrom_36 : decode cX4_openFrom 36 = .ok (.iadd, 1) := by decide +kernel
theorem dX4_openFrom_37 : decode cX4_openFrom 37 = .ok (.istore_n 3, 1) := by decide +kernel
theorem dX4_openFrom_38 : decode cX4_openFrom 38 = .ok (.aload_n 0, 1) := by decide +kernel
theorem dX4_openFrom_39 : decode cX4_openFrom 39 = .ok (.getfield 53, 3) := by decide +kernel
theorem dX4_openFrom_42 : decode cX4_openFrom 42 = .ok (.iload 4, 2) := by decide +kernel
theorem dX4_openFrom_44 : decode cX4_openFrom 44 = .ok (.iaload, 1) := by decide +kernel
theorem dX4_openFrom_45 : decode cX4_openFrom 45 = .ok (.istore 4, 2) := by decide +kernel
theorem dX4_openFrom_47 : decode cX4_openFrom 47 = .ok (.goto (-37), 3) := by decide +kernel
theorem dX4_openFrom_50 : decode cX4_openFrom 50 = .ok (.iload_n 3, 1) := by decide +kernel
theorem dX4_openFrom_51 : decode cX4_openFrom 51 = .ok (.ireturn, 1) := by decide +kernel
theorem dX4_isTorn_0 : decode cX4_isTorn 0 = .ok (.aload_n 0, 1) := by decide +kernel
theorem dX4_isTorn_1 : decode cX4_isTorn 1 = .ok (.iconst 0, 1) := by decide +kernel
theorem dX4_isTorn_2 : decode cX4_isTorn 2 = .ok (.invokevirtual 147, 3) := by decide +kernel
theorem dX4_isTorn_5 : decode cX4_isTorn 5 = .ok (.istore_n 2, 1) := by decide +kernel
theorem dX4_isTorn_6 : decode cX4_isTorn 6 = .ok (.aload_n 0, 1) := by decide +kernel
theorem dX4_isTorn_7 : decode cX4_isTorn 7 = .ok (.getfield 22, 3) := by decide +kernel
theorem dX4_isTorn_10 : decode cX4_isTorn 10 = .ok (.iload_n 1, 1) := by decide +kernel
theorem dX4_isTorn_11 : decode cX4_isTorn 11 = .ok (.iaload, 1) := by decide +kernel
theorem dX4_isTorn_12 : decode cX4_isTorn 12 = .ok (.iload_n 2, 1) := by decide +kernel
theorem dX4_isTorn_13 : decode cX4_isTorn 13 = .ok (.iand, 1) := by decide +kernel
theorem dX4_isTorn_14 : decode cX4_isTorn 14 = .ok (.invokestatic 159, 3) := by decide +kernel
theorem dX4_isTorn_17 : decode cX4_isTorn 17 = .ok (.iconst 1, 1) := by decide +kernel
theorem dX4_isTorn_18 : decode cX4_isTorn 18 = .ok (.if_icmp .le 7, 3) := by decide +kernel
theorem dX4_isTorn_21 : decode cX4_isTorn 21 = .ok (.iconst 1, 1) := by decide +kernel
theorem dX4_isTorn_22 : decode cX4_isTorn 22 = .ok (.goto 4, 3) := by decide +kernel
theorem dX4_isTorn_25 : decode cX4_isTorn 25 = .ok (.iconst 0, 1) := by decide +kernel
theorem dX4_isTorn_26 : decode cX4_isTorn 26 = .ok (.istore_n 3, 1) := by decide +kernel
theorem dX4_isTorn_27 : decode cX4_isTorn 27 = .ok (.iconst 0, 1) := by decide +kernel
theorem dX4_isTorn_28 : decode cX4_isTorn 28 = .ok (.istore 4, 2) := by decide +kernel
theorem dX4_isTorn_30 : decode cX4_isTorn 30 = .ok (.iload 4, 2) := by decide +kernel
theorem dX4_isTorn_32 : decode cX4_isTorn 32 = .ok (.aload_n 0, 1) := by decide +kernel
theorem dX4_isTorn_33 : decode cX4_isTorn 33 = .ok (.getfield 85, 3) := by decide +kernel
theorem dX4_isTorn_36 : decode cX4_isTorn 36 = .ok (.if_icmp .ge 41, 3) := by decide +kernel
theorem dX4_isTorn_39 : decode cX4_isTorn 39 = .ok (.iload_n 3, 1) := by decide +kernel
theorem dX4_isTorn_40 : decode cX4_isTorn 40 = .ok (.ifCond .ne 25, 3) := by decide +kernel
theorem dX4_isTorn_43 : decode cX4_isTorn 43 = .ok (.aload_n 0, 1) := by decide +kernel
theorem dX4_isTorn_44 : decode cX4_isTorn 44 = .ok (.getfield 38, 3) := by decide +kernel
theorem dX4_isTorn_47 : decode cX4_isTorn 47 = .ok (.iload 4, 2) := by decide +kernel
theorem dX4_isTorn_49 : decode cX4_isTorn 49 = .ok (.iaload, 1) := by decide +kernel
theorem dX4_isTorn_50 : decode cX4_isTorn 50 = .ok (.iload_n 1, 1) := by decide +kernel
theorem dX4_isTorn_51 : decode cX4_isTorn 51 = .ok (.if_icmp .ne 18, 3) := by decide +kernel
theorem dX4_isTorn_54 : decode cX4_isTorn 54 = .ok (.aload_n 0, 1) := by decide +kernel
theorem dX4_isTorn_55 : decode cX4_isTorn 55 = .ok (.iload 4, 2) := by decide +kernel
theorem dX4_isTorn_57 : decode cX4_isTorn 57 = .ok (.iload_n 2, 1) := by decide +kernel
theorem dX4_isTorn_58 : decode cX4_isTorn 58 = .ok (.invokevirtual 211, 3) := by decide +kernel
theorem dX4_isTorn_61 : decode cX4_isTorn 61 = .ok (.iconst 1, 1) := by decide +kernel
theorem dX4_isTorn_62 : decode cX4_isTorn 62 = .ok (.if_icmp .le 7, 3) := by decide +kernel
theorem dX4_isTorn_65 : decode cX4_isTorn 65 = .ok (.iconst 1, 1) := by decide +kernel
theorem dX4_isTorn_66 : decode cX4_isTorn 66 = .ok (.goto 4, 3) := by decide +kernel
theorem dX4_isTorn_69 : decode cX4_isTorn 69 = .ok (.iconst 0, 1) := by decide +kernel
theorem dX4_isTorn_70 : decode cX4_isTorn 70 = .ok (.istore_n 3, 1) := by decide +kernel
theorem dX4_isTorn_71 : decode cX4_isTorn 71 = .ok (.iinc 4 1, 3) := by decide +kernel
theorem dX4_isTorn_74 : decode cX4_isTorn 74 = .ok (.goto (-44), 3) := by decide +kernel
theorem dX4_isTorn_77 : decode cX4_isTorn 77 = .ok (.iload_n 3, 1) := by decide +kernel
theorem dX4_isTorn_78 : decode cX4_isTorn 78 = .ok (.ireturn, 1) := by decide +kernel
theorem dX4_tornMany_0 : decode cX4_tornMany 0 = .ok (.iconst 0, 1) := by decide +kernel
theorem dX4_tornMany_1 : decode cX4_tornMany 1 = .ok (.istore_n 1, 1) := by decide +kernel
theorem dX4_tornMany_2 : decode cX4_tornMany 2 = .ok (.iconst 0, 1) := by decide +kernel
theorem dX4_tornMany_3 : decode cX4_tornMany 3 = .ok (.istore_n 2, 1) := by decide +kernel
theorem dX4_tornMany_4 : decode cX4_tornMany 4 = .ok (.iload_n 2, 1) := by decide +kernel
theorem dX4_tornMany_5 : decode cX4_tornMany 5 = .ok (.aload_n 0, 1) := by decide +kernel
theorem dX4_tornMany_6 : decode cX4_tornMany 6 = .ok (.getfield 82, 3) := by decide +kernel
theorem dX4_tornMany_9 : decode cX4_tornMany 9 = .ok (.if_icmp .ge 25, 3) := by decide +kernel
theorem dX4_tornMany_12 : decode cX4_tornMany 12 = .ok (.iload_n 1, 1) := by decide +kernel
theorem dX4_tornMany_13 : decode cX4_tornMany 13 = .ok (.aload_n 0, 1) := by decide +kernel
theorem dX4_tornMany_14 : decode cX4_tornMany 14 = .ok (.iload_n 2, 1) := by decide +kernel
theorem dX4_tornMany_15 : decode cX4_tornMany 15 = .ok (.invokevirtual 214, 3) := by decide +kernel
theorem dX4_tornMany_18 : decode cX4_tornMany 18 = .ok (.ifCond .eq 7, 3) := by decide +kernel
theorem dX4_tornMany_21 : decode cX4_tornMany 21 = .ok (.iconst 1, 1) := by decide +kernel
theorem dX4_tornMany_22 : decode cX4_tornMany 22 = .ok (.goto 4, 3) := by decide +kernel
theorem dX4_tornMany_25 : decode cX4_tornMany 25 = .ok (.iconst 0, 1) := by decide +kernel
theorem dX4_tornMany_26 : decode cX4_tornMany 26 = .ok (.iadd, 1) := by decide +kernel
theorem dX4_tornMany_27 : decode cX4_tornMany 27 = .ok (.istore_n 1, 1) := by decide +kernel
theorem dX4_tornMany_28 : decode cX4_tornMany 28 = .ok (.iinc 2 1, 3) := by decide +kernel
theorem dX4_tornMany_31 : decode cX4_tornMany 31 = .ok (.goto (-27), 3) := by decide +kernel
theorem dX4_tornMany_34 : decode cX4_tornMany 34 = .ok (.iload_n 1, 1) := by decide +kernel
theorem dX4_tornMany_35 : decode cX4_tornMany 35 = .ok (.ireturn, 1) := by decide +kernel
theorem dX4_howMany_0 : decode cX4_howMany 0 = .ok (.iload_n 1, 1) := by decide +kernel
theorem dX4_howMany_1 : decode cX4_howMany 1 = .ok (.tableswitch 104 0 8 #[51, 56, 61, 66, 71, 80, 89, 94, 99], 51) := by decide +kernel
theorem dX4_howMany_52 : decode cX4_howMany 52 = .ok (.aload_n 0, 1) := by decide +kernel
theorem dX4_howMany_53 : decode cX4_howMany 53 = .ok (.getfield 78, 3) := by decide +kernel
theorem dX4_howMany_56 : decode cX4_howMany 56 = .ok (.ireturn, 1) := by decide +kernel
theorem dX4_howMany_57 : decode cX4_howMany 57 = .ok (.aload_n 0, 1) := by decide +kernel
theorem dX4_howMany_58 : decode cX4_howMany 58 = .ok (.getfield 82, 3) := by decide +kernel
theorem dX4_howMany_61 : decode cX4_howMany 61 = .ok (.ireturn, 1) := by decide +kernel
theorem dX4_howMany_62 : decode cX4_howMany 62 = .ok (.aload_n 0, 1) := by decide +kernel
theorem dX4_howMany_63 : decode cX4_howMany 63 = .ok (.getfield 85, 3) := by decide +kernel
theorem dX4_howMany_66 : decode cX4_howMany 66 = .ok (.ireturn, 1) := by decide +kernel
theorem dX4_howMany_67 : decode cX4_howMany 67 = .ok (.aload_n 0, 1) := by decide +kernel
theorem dX4_howMany_68 : decode cX4_howMany 68 = .ok (.getfield 96, 3) := by decide +kernel
theorem dX4_howMany_71 : decode cX4_howMany 71 = .ok (.ireturn, 1) := by decide +kernel
theorem dX4_howMany_72 : decode cX4_howMany 72 = .ok (.aload_n 0, 1) := by decide +kernel
theorem dX4_howMany_73 : decode cX4_howMany 73 = .ok (.iconst 0, 1) := by decide +kernel
theorem dX4_howMany_74 : decode cX4_howMany 74 = .ok (.invokevirtual 147, 3) := by decide +kernel
theorem dX4_howMany_77 : decode cX4_howMany 77 = .ok (.invokestatic 159, 3) := by decide +kernel
theorem dX4_howMany_80 : decode cX4_howMany 80 = .ok (.ireturn, 1) := by decide +kernel
theorem dX4_howMany_81 : decode cX4_howMany 81 = .ok (.aload_n 0, 1) := by decide +kernel
theorem dX4_howMany_82 : decode cX4_howMany 82 = .ok (.iconst 1, 1) := by decide +kernel
theorem dX4_howMany_83 : decode cX4_howMany 83 = .ok (.invokevirtual 147, 3) := by decide +kernel
theorem dX4_howMany_86 : decode cX4_howMany 86 = .ok (.invokestatic 159, 3) := by decide +kernel
theorem dX4_howMany_89 : decode cX4_howMany 89 = .ok (.ireturn, 1) := by decide +kernel
theorem dX4_howMany_90 : decode cX4_howMany 90 = .ok (.aload_n 0, 1) := by decide +kernel
theorem dX4_howMany_91 : decode cX4_howMany 91 = .ok (.invokevirtual 217, 3) := by decide +kernel
theorem dX4_howMany_94 : decode cX4_howMany 94 = .ok (.ireturn, 1) := by decide +kernel
theorem dX4_howMany_95 : decode cX4_howMany 95 = .ok (.aload_n 0, 1) := by decide +kernel
theorem dX4_howMany_96 : decode cX4_howMany 96 = .ok (.getfield 103, 3) := by decide +kernel
theorem dX4_howMany_99 : decode cX4_howMany 99 = .ok (.ireturn, 1) := by decide +kernel
theorem dX4_howMany_100 : decode cX4_howMany 100 = .ok (.aload_n 0, 1) := by decide +kernel
theorem dX4_howMany_101 : decode cX4_howMany 101 = .ok (.getfield 150, 3) := by decide +kernel
theorem dX4_howMany_104 : decode cX4_howMany 104 = .ok (.ireturn, 1) := by decide +kernel
theorem dX4_howMany_105 : decode cX4_howMany 105 = .ok (.sipush (-1002), 3) := by decide +kernel
theorem dX4_howMany_108 : decode cX4_howMany 108 = .ok (.ireturn, 1) := by decide +kernel
theorem dX4_count_0 : decode cX4_count 0 = .ok (.aload_n 0, 1) := by decide +kernel
theorem dX4_count_1 : decode cX4_count 1 = .ok (.iload_n 1, 1) := by decide +kernel
theorem dX4_count_2 : decode cX4_count 2 = .ok (.invokevirtual 221, 3) := by decide +kernel
theorem dX4_count_5 : decode cX4_count 5 = .ok (.ireturn, 1) := by decide +kernel
theorem dX4_mix_0 : decode cX4_mix 0 = .ok (.aload_n 0, 1) := by decide +kernel
theorem dX4_mix_1 : decode cX4_mix 1 = .ok (.ldc2_w 224, 3) := by decide +kernel
theorem dX4_mix_4 : decode cX4_mix 4 = .ok (.aload_n 0, 1) := by decide +kernel
theorem dX4_mix_5 : decode cX4_mix 5 = .ok (.getfield 226, 3) := by decide +kernel
theorem dX4_mix_8 : decode cX4_mix 8 = .ok (.lmul, 1) := by decide +kernel
theorem dX4_mix_9 : decode cX4_mix 9 = .ok (.lload_n 1, 1) := by decide +kernel
theorem dX4_mix_10 : decode cX4_mix 10 = .ok (.ladd, 1) := by decide +kernel
theorem dX4_mix_11 : decode cX4_mix 11 = .ok (.putfield 226, 3) := by decide +kernel
theorem dX4_mix_14 : decode cX4_mix 14 = .ok (.return_, 1) := by decide +kernel
theorem dX4_mixView_0 : decode cX4_mixView 0 = .ok (.aload_n 0, 1) := by decide +kernel
theorem dX4_mixView_1 : decode cX4_mixView 1 = .ok (.aload_n 0, 1) := by decide +kernel
theorem dX4_mixView_2 : decode cX4_mixView 2 = .ok (.iload_n 1, 1) := by decide +kernel
theorem dX4_mixView_3 : decode cX4_mixView 3 = .ok (.invokevirtual 156, 3) := by decide +kernel
theorem dX4_mixView_6 : decode cX4_mixView 6 = .ok (.i2l, 1) := by decide +kernel
theorem dX4_mixView_7 : decode cX4_mixView 7 = .ok (.invokevirtual 230, 3) := by decide +kernel
theorem dX4_mixView_10 : decode cX4_mixView 10 = .ok (.iconst 0, 1) := by decide +kernel
theorem dX4_mixView_11 : decode cX4_mixView 11 = .ok (.istore_n 2, 1) := by decide +kernel
theorem dX4_mixView_12 : decode cX4_mixView 12 = .ok (.iload_n 2, 1) := by decide +kernel
theorem dX4_mixView_13 : decode cX4_mixView 13 = .ok (.aload_n 0, 1) := by decide +kernel
theorem dX4_mixView_14 : decode cX4_mixView 14 = .ok (.getfield 120, 3) := by decide +kernel
theorem dX4_mixView_17 : decode cX4_mixView 17 = .ok (.if_icmp .ge 39, 3) := by decide +kernel
theorem dX4_mixView_20 : decode cX4_mixView 20 = .ok (.iconst 0, 1) := by decide +kernel
theorem dX4_mixView_21 : decode cX4_mixView 21 = .ok (.istore_n 3, 1) := by decide +kernel
theorem dX4_mixView_22 : decode cX4_mixView 22 = .ok (.iload_n 3, 1) := by decide +kernel
theorem dX4_mixView_23 : decode cX4_mixView 23 = .ok (.bipush 6, 2) := by decide +kernel
theorem dX4_mixView_25 : decode cX4_mixView 25 = .ok (.if_icmp .ge 25, 3) := by decide +kernel
theorem dX4_mixView_28 : decode cX4_mixView 28 = .ok (.aload_n 0, 1) := by decide +kernel
theorem dX4_mixView_29 : decode cX4_mixView 29 = .ok (.aload_n 0, 1) := by decide +kernel
theorem dX4_mixView_30 : decode cX4_mixView 30 = .ok (.aload_n 0, 1) := by decide +kernel
theorem dX4_mixView_31 : decode cX4_mixView 31 = .ok (.getfield 56, 3) := by decide +kernel
theorem dX4_mixView_34 : decode cX4_mixView 34 = .ok (.iload_n 2, 1) := by decide +kernel
theorem dX4_mixView_35 : decode cX4_mixView 35 = .ok (.iaload, 1) := by decide +kernel
theorem dX4_mixView_36 : decode cX4_mixView 36 = .ok (.iload_n 3, 1) := by decide +kernel
theorem dX4_mixView_37 : decode cX4_mixView 37 = .ok (.invokevirtual 165, 3) := by decide +kernel
theorem dX4_mixView_40 : decode cX4_mixView 40 = .ok (.i2l, 1) := by decide +kernel
theorem dX4_mixView_41 : decode cX4_mixView 41 = .ok (.invokevirtual 230, 3) := by decide +kernel
theorem dX4_mixView_44 : decode cX4_mixView 44 = .ok (.iinc 3 1, 3) := by decide +kernel
theorem dX4_mixView_47 : decode cX4_mixView 47 = .ok (.goto (-25), 3) := by decide +kernel
theorem dX4_mixView_50 : decode cX4_mixView 50 = .ok (.iinc 2 1, 3) := by decide +kernel
theorem dX4_mixView_53 : decode cX4_mixView 53 = .ok (.goto (-41), 3) := by decide +kernel
theorem dX4_mixView_56 : decode cX4_mixView 56 = .ok (.return_, 1) := by decide +kernel
theorem dX4_mixSpans_0 : decode cX4_mixSpans 0 = .ok (.aload_n 0, 1) := by decide +kernel
theorem dX4_mixSpans_1 : decode cX4_mixSpans 1 = .ok (.invokevirtual 196, 3) := by decide +kernel
theorem dX4_mixSpans_4 : decode cX4_mixSpans 4 = .ok (.aload_n 0, 1) := by decide +kernel
theorem dX4_mixSpans_5 : decode cX4_mixSpans 5 = .ok (.aload_n 0, 1) := by decide +kernel
theorem dX4_mixSpans_6 : decode cX4_mixSpans 6 = .ok (.getfield 193, 3) := by decide +kernel
theorem dX4_mixSpans_9 : decode cX4_mixSpans 9 = .ok (.i2l, 1) := by decide +kernel
theorem dX4_mixSpans_10 : decode cX4_mixSpans 10 = .ok (.invokevirtual 230, 3) := by decide +kernel
theorem dX4_mixSpans_13 : decode cX4_mixSpans 13 = .ok (.iconst 0, 1) := by decide +kernel
theorem dX4_mixSpans_14 : decode cX4_mixSpans 14 = .ok (.istore_n 1, 1) := by decide +kernel
theorem dX4_mixSpans_15 : decode cX4_mixSpans 15 = .ok (.iload_n 1, 1) := by decide +kernel
theorem dX4_mixSpans_16 : decode cX4_mixSpans 16 = .ok (.aload_n 0, 1) := by decide +kernel
theorem dX4_mixSpans_17 : decode cX4_mixSpans 17 = .ok (.getfield 193, 3) := by decide +kernel
theorem dX4_mixSpans_20 : decode cX4_mixSpans 20 = .ok (.if_icmp .ge 42, 3) := by decide +kernel
theorem dX4_mixSpans_23 : decode cX4_mixSpans 23 = .ok (.aload_n 0, 1) := by decide +kernel
theorem dX4_mixSpans_24 : decode cX4_mixSpans 24 = .ok (.aload_n 0, 1) := by decide +kernel
theorem dX4_mixSpans_25 : decode cX4_mixSpans 25 = .ok (.getfield 65, 3) := by decide +kernel
theorem dX4_mixSpans_28 : decode cX4_mixSpans 28 = .ok (.iload_n 1, 1) := by decide +kernel
theorem dX4_mixSpans_29 : decode cX4_mixSpans 29 = .ok (.iaload, 1) := by decide +kernel
theorem dX4_mixSpans_30 : decode cX4_mixSpans 30 = .ok (.i2l, 1) := by decide +kernel
theorem dX4_mixSpans_31 : decode cX4_mixSpans 31 = .ok (.invokevirtual 230, 3) := by decide +kernel
theorem dX4_mixSpans_34 : decode cX4_mixSpans 34 = .ok (.aload_n 0, 1) := by decide +kernel
theorem dX4_mixSpans_35 : decode cX4_mixSpans 35 = .ok (.aload_n 0, 1) := by decide +kernel
theorem dX4_mixSpans_36 : decode cX4_mixSpans 36 = .ok (.getfield 68, 3) := by decide +kernel
theorem dX4_mixSpans_39 : decode cX4_mixSpans 39 = .ok (.iload_n 1, 1) := by decide +kernel
theorem dX4_mixSpans_40 : decode cX4_mixSpans 40 = .ok (.iaload, 1) := by decide +kernel
theorem dX4_mixSpans_41 : decode cX4_mixSpans 41 = .ok (.i2l, 1) := by decide +kernel
theorem dX4_mixSpans_42 : decode cX4_mixSpans 42 = .ok (.invokevirtual 230, 3) := by decide +kernel
theorem dX4_mixSpans_45 : decode cX4_mixSpans 45 = .ok (.aload_n 0, 1) := by decide +kernel
theorem dX4_mixSpans_46 : decode cX4_mixSpans 46 = .ok (.aload_n 0, 1) := by decide +kernel
theorem dX4_mixSpans_47 : decode cX4_mixSpans 47 = .ok (.getfield 71, 3) := by decide +kernel
theorem dX4_mixSpans_50 : decode cX4_mixSpans 50 = .ok (.iload_n 1, 1) := by decide +kernel
theorem dX4_mixSpans_51 : decode cX4_mixSpans 51 = .ok (.iaload, 1) := by decide +kernel
theorem dX4_mixSpans_52 : decode cX4_mixSpans 52 = .ok (.i2l, 1) := by decide +kernel
theorem dX4_mixSpans_53 : decode cX4_mixSpans 53 = .ok (.invokevirtual 230, 3) := by decide +kernel
theorem dX4_mixSpans_56 : decode cX4_mixSpans 56 = .ok (.iinc 1 1, 3) := by decide +kernel
theorem dX4_mixSpans_59 : decode cX4_mixSpans 59 = .ok (.goto (-44), 3) := by decide +kernel
theorem dX4_mixSpans_62 : decode cX4_mixSpans 62 = .ok (.return_, 1) := by decide +kernel
theorem dX4_digest_0 : decode cX4_digest 0 = .ok (.aload_n 0, 1) := by decide +kernel
theorem dX4_digest_1 : decode cX4_digest 1 = .ok (.ldc2_w 234, 3) := by decide +kernel
theorem dX4_digest_4 : decode cX4_digest 4 = .ok (.putfield 226, 3) := by decide +kernel
theorem dX4_digest_7 : decode cX4_digest 7 = .ok (.iconst 0, 1) := by decide +kernel
theorem dX4_digest_8 : decode cX4_digest 8 = .ok (.istore_n 1, 1) := by decide +kernel
theorem dX4_digest_9 : decode cX4_digest 9 = .ok (.iload_n 1, 1) := by decide +kernel
theorem dX4_digest_10 : decode cX4_digest 10 = .ok (.bipush 6, 2) := by decide +kernel
theorem dX4_digest_12 : decode cX4_digest 12 = .ok (.if_icmp .ge 14, 3) := by decide +kernel
theorem dX4_digest_15 : decode cX4_digest 15 = .ok (.aload_n 0, 1) := by decide +kernel
theorem dX4_digest_16 : decode cX4_digest 16 = .ok (.iload_n 1, 1) := by decide +kernel
theorem dX4_digest_17 : decode cX4_digest 17 = .ok (.invokevirtual 236, 3) := by decide +kernel
theorem dX4_digest_20 : decode cX4_digest 20 = .ok (.iinc 1 1, 3) := by decide +kernel
theorem dX4_digest_23 : decode cX4_digest 23 = .ok (.goto (-14), 3) := by decide +kernel
theorem dX4_digest_26 : decode cX4_digest 26 = .ok (.iconst 0, 1) := by decide +kernel
theorem dX4_digest_27 : decode cX4_digest 27 = .ok (.istore_n 1, 1) := by decide +kernel
theorem dX4_digest_28 : decode cX4_digest 28 = .ok (.iload_n 1, 1) := by decide +kernel
theorem dX4_digest_29 : decode cX4_digest 29 = .ok (.iconst 4, 1) := by decide +kernel
theorem dX4_digest_30 : decode cX4_digest 30 = .ok (.aload_n 0, 1) := by decide +kernel
theorem dX4_digest_31 : decode cX4_digest 31 = .ok (.getfield 85, 3) := by decide +kernel
theorem dX4_digest_34 : decode cX4_digest 34 = .ok (.imul, 1) := by decide +kernel
theorem dX4_digest_35 : decode cX4_digest 35 = .ok (.if_icmp .ge 29, 3) := by decide +kernel
theorem dX4_digest_38 : decode cX4_digest 38 = .ok (.aload_n 0, 1) := by decide +kernel
theorem dX4_digest_39 : decode cX4_digest 39 = .ok (.aload_n 0, 1) := by decide +kernel
theorem dX4_digest_40 : decode cX4_digest 40 = .ok (.aload_n 0, 1) := by decide +kernel
theorem dX4_digest_41 : decode cX4_digest 41 = .ok (.getfield 47, 3) := by decide +kernel
theorem dX4_digest_44 : decode cX4_digest 44 = .ok (.iload_n 1, 1) := by decide +kernel
theorem dX4_digest_45 : decode cX4_digest 45 = .ok (.iconst 4, 1) := by decide +kernel
theorem dX4_digest_46 : decode cX4_digest 46 = .ok (.idiv, 1) := by decide +kernel
theorem dX4_digest_47 : decode cX4_digest 47 = .ok (.iaload, 1) := by decide +kernel
theorem dX4_digest_48 : decode cX4_digest 48 = .ok (.iload_n 1, 1) := by decide +kernel
theorem dX4_digest_49 : decode cX4_digest 49 = .ok (.iconst 4, 1) := by decide +kernel
theorem dX4_digest_50 : decode cX4_digest 50 = .ok (.irem, 1) := by decide +kernel
theorem dX4_digest_51 : decode cX4_digest 51 = .ok (.invokevirtual 174, 3) := by decide +kernel
theorem dX4_digest_54 : decode cX4_digest 54 = .ok (.i2l, 1) := by decide +kernel
theorem dX4_digest_55 : decode cX4_digest 55 = .ok (.invokevirtual 230, 3) := by decide +kernel
theorem dX4_digest_58 : decode cX4_digest 58 = .ok (.iinc 1 1, 3) := by decide +kernel
theorem dX4_digest_61 : decode cX4_digest 61 = .ok (.goto (-33), 3) := by decide +kernel
theorem dX4_digest_64 : decode cX4_digest 64 = .ok (.iconst 0, 1) := by decide +kernel
theorem dX4_digest_65 : decode cX4_digest 65 = .ok (.istore_n 1, 1) := by decide +kernel
theorem dX4_digest_66 : decode cX4_digest 66 = .ok (.iload_n 1, 1) := by decide +kernel
theorem dX4_digest_67 : decode cX4_digest 67 = .ok (.bipush 7, 2) := by decide +kernel
theorem dX4_digest_69 : decode cX4_digest 69 = .ok (.aload_n 0, 1) := by decide +kernel
theorem dX4_digest_70 : decode cX4_digest 70 = .ok (.getfield 96, 3) := by decide +kernel
theorem dX4_digest_73 : decode cX4_digest 73 = .ok (.imul, 1) := by decide +kernel
theorem dX4_digest_74 : decode cX4_digest 74 = .ok (.if_icmp .ge 26, 3) := by decide +kernel
theorem dX4_digest_77 : decode cX4_digest 77 = .ok (.aload_n 0, 1) := by decide +kernel
theorem dX4_digest_78 : decode cX4_digest 78 = .ok (.aload_n 0, 1) := by decide +kernel
theorem dX4_digest_79 : decode cX4_digest 79 = .ok (.iload_n 1, 1) := by decide +kernel
theorem dX4_digest_80 : decode cX4_digest 80 = .ok (.bipush 7, 2) := by decide +kernel
theorem dX4_digest_82 : decode cX4_digest 82 = .ok (.idiv, 1) := by decide +kernel
theorem dX4_digest_83 : decode cX4_digest 83 = .ok (.iload_n 1, 1) := by decide +kernel
theorem dX4_digest_84 : decode cX4_digest 84 = .ok (.bipush 7, 2) := by decide +kernel
theorem dX4_digest_86 : decode cX4_digest 86 = .ok (.irem, 1) := by decide +kernel
theorem dX4_digest_87 : decode cX4_digest 87 = .ok (.invokevirtual 190, 3) := by decide +kernel
theorem dX4_digest_90 : decode cX4_digest 90 = .ok (.i2l, 1) := by decide +kernel
theorem dX4_digest_91 : decode cX4_digest 91 = .ok (.invokevirtual 230, 3) := by decide +kernel
theorem dX4_digest_94 : decode cX4_digest 94 = .ok (.iinc 1 1, 3) := by decide +kernel
theorem dX4_digest_97 : decode cX4_digest 97 = .ok (.goto (-31), 3) := by decide +kernel
theorem dX4_digest_100 : decode cX4_digest 100 = .ok (.aload_n 0, 1) := by decide +kernel
theorem dX4_digest_101 : decode cX4_digest 101 = .ok (.invokevirtual 239, 3) := by decide +kernel
theorem dX4_digest_104 : decode cX4_digest 104 = .ok (.aload_n 0, 1) := by decide +kernel
theorem dX4_digest_105 : decode cX4_digest 105 = .ok (.invokevirtual 208, 3) := by decide +kernel
theorem dX4_digest_108 : decode cX4_digest 108 = .ok (.aload_n 0, 1) := by decide +kernel
theorem dX4_digest_109 : decode cX4_digest 109 = .ok (.aload_n 0, 1) := by decide +kernel
theorem dX4_digest_110 : decode cX4_digest 110 = .ok (.getfield 199, 3) := by decide +kernel
theorem dX4_digest_113 : decode cX4_digest 113 = .ok (.i2l, 1) := by decide +kernel
theorem dX4_digest_114 : decode cX4_digest 114 = .ok (.invokevirtual 230, 3) := by decide +kernel
theorem dX4_digest_117 : decode cX4_digest 117 = .ok (.aload_n 0, 1) := by decide +kernel
theorem dX4_digest_118 : decode cX4_digest 118 = .ok (.aload_n 0, 1) := by decide +kernel
theorem dX4_digest_119 : decode cX4_digest 119 = .ok (.getfield 202, 3) := by decide +kernel
theorem dX4_digest_122 : decode cX4_digest 122 = .ok (.i2l, 1) := by decide +kernel
theorem dX4_digest_123 : decode cX4_digest 123 = .ok (.invokevirtual 230, 3) := by decide +kernel
theorem dX4_digest_126 : decode cX4_digest 126 = .ok (.iconst 0, 1) := by decide +kernel
theorem dX4_digest_127 : decode cX4_digest 127 = .ok (.istore_n 1, 1) := by decide +kernel
theorem dX4_digest_128 : decode cX4_digest 128 = .ok (.iload_n 1, 1) := by decide +kernel
theorem dX4_digest_129 : decode cX4_digest 129 = .ok (.aload_n 0, 1) := by decide +kernel
theorem dX4_digest_130 : decode cX4_digest 130 = .ok (.getfield 78, 3) := by decide +kernel
theorem dX4_digest_133 : decode cX4_digest 133 = .ok (.if_icmp .ge 20, 3) := by decide +kernel
theorem dX4_digest_136 : decode cX4_digest 136 = .ok (.aload_n 0, 1) := by decide +kernel
theorem dX4_digest_137 : decode cX4_digest 137 = .ok (.aload_n 0, 1) := by decide +kernel
theorem dX4_digest_138 : decode cX4_digest 138 = .ok (.getfield 7, 3) := by decide +kernel
theorem dX4_digest_141 : decode cX4_digest 141 = .ok (.iload_n 1, 1) := by decide +kernel
theorem dX4_digest_142 : decode cX4_digest 142 = .ok (.iaload, 1) := by decide +kernel
theorem dX4_digest_143 : decode cX4_digest 143 = .ok (.i2l, 1) := by decide +kernel
theorem dX4_digest_144 : decode cX4_digest 144 = .ok (.invokevirtual 230, 3) := by decide +kernel
theorem dX4_digest_147 : decode cX4_digest 147 = .ok (.iinc 1 1, 3) := by decide +kernel
theorem dX4_digest_150 : decode cX4_digest 150 = .ok (.goto (-22), 3) := by decide +kernel
theorem dX4_digest_153 : decode cX4_digest 153 = .ok (.iconst 0, 1) := by decide +kernel
theorem dX4_digest_154 : decode cX4_digest 154 = .ok (.istore_n 1, 1) := by decide +kernel
theorem dX4_digest_155 : decode cX4_digest 155 = .ok (.iload_n 1, 1) := by decide +kernel
theorem dX4_digest_156 : decode cX4_digest 156 = .ok (.bipush 9, 2) := by decide +kernel
theorem dX4_digest_158 : decode cX4_digest 158 = .ok (.if_icmp .ge 19, 3) := by decide +kernel
theorem dX4_digest_161 : decode cX4_digest 161 = .ok (.aload_n 0, 1) := by decide +kernel
theorem dX4_digest_162 : decode cX4_digest 162 = .ok (.aload_n 0, 1) := by decide +kernel
theorem dX4_digest_163 : decode cX4_digest 163 = .ok (.iload_n 1, 1) := by decide +kernel
theorem dX4_digest_164 : decode cX4_digest 164 = .ok (.invokevirtual 221, 3) := by decide +kernel
theorem dX4_digest_167 : decode cX4_digest 167 = .ok (.i2l, 1) := by decide +kernel
theorem dX4_digest_168 : decode cX4_digest 168 = .ok (.invokevirtual 230, 3) := by decide +kernel
theorem dX4_digest_171 : decode cX4_digest 171 = .ok (.iinc 1 1, 3) := by decide +kernel
theorem dX4_digest_174 : decode cX4_digest 174 = .ok (.goto (-19), 3) := by decide +kernel
theorem dX4_digest_177 : decode cX4_digest 177 = .ok (.aload_n 0, 1) := by decide +kernel
theorem dX4_digest_178 : decode cX4_digest 178 = .ok (.getfield 226, 3) := by decide +kernel
theorem dX4_digest_181 : decode cX4_digest 181 = .ok (.lreturn, 1) := by decide +kernel
theorem dJ6_bitCount_0f7a4_0 : decode cJ6_bitCount_0f7a4 0 = .ok (.iload_n 0, 1) := by decide +kernel
theorem dJ6_bitCount_0f7a4_1 : decode cJ6_bitCount_0f7a4 1 = .ok (.iload_n 0, 1) := by decide +kernel
theorem dJ6_bitCount_0f7a4_2 : decode cJ6_bitCount_0f7a4 2 = .ok (.iconst 1, 1) := by decide +kernel
theorem dJ6_bitCount_0f7a4_3 : decode cJ6_bitCount_0f7a4 3 = .ok (.iushr, 1) := by decide +kernel
theorem dJ6_bitCount_0f7a4_4 : decode cJ6_bitCount_0f7a4 4 = .ok (.ldc_w 265, 3) := by decide +kernel
theorem dJ6_bitCount_0f7a4_7 : decode cJ6_bitCount_0f7a4 7 = .ok (.iand, 1) := by decide +kernel
theorem dJ6_bitCount_0f7a4_8 : decode cJ6_bitCount_0f7a4 8 = .ok (.isub, 1) := by decide +kernel
theorem dJ6_bitCount_0f7a4_9 : decode cJ6_bitCount_0f7a4 9 = .ok (.istore_n 0, 1) := by decide +kernel
theorem dJ6_bitCount_0f7a4_10 : decode cJ6_bitCount_0f7a4 10 = .ok (.iload_n 0, 1) := by decide +kernel
theorem dJ6_bitCount_0f7a4_11 : decode cJ6_bitCount_0f7a4 11 = .ok (.ldc_w 266, 3) := by decide +kernel
theorem dJ6_bitCount_0f7a4_14 : decode cJ6_bitCount_0f7a4 14 = .ok (.iand, 1) := by decide +kernel
theorem dJ6_bitCount_0f7a4_15 : decode cJ6_bitCount_0f7a4 15 = .ok (.iload_n 0, 1) := by decide +kernel
theorem dJ6_bitCount_0f7a4_16 : decode cJ6_bitCount_0f7a4 16 = .ok (.iconst 2, 1) := by decide +kernel
theorem dJ6_bitCount_0f7a4_17 : decode cJ6_bitCount_0f7a4 17 = .ok (.iushr, 1) := by decide +kernel
theorem dJ6_bitCount_0f7a4_18 : decode cJ6_bitCount_0f7a4 18 = .ok (.ldc_w 266, 3) := by decide +kernel
theorem dJ6_bitCount_0f7a4_21 : decode cJ6_bitCount_0f7a4 21 = .ok (.iand, 1) := by decide +kernel
theorem dJ6_bitCount_0f7a4_22 : decode cJ6_bitCount_0f7a4 22 = .ok (.iadd, 1) := by decide +kernel
theorem dJ6_bitCount_0f7a4_23 : decode cJ6_bitCount_0f7a4 23 = .ok (.istore_n 0, 1) := by decide +kernel
theorem dJ6_bitCount_0f7a4_24 : decode cJ6_bitCount_0f7a4 24 = .ok (.iload_n 0, 1) := by decide +kernel
theorem dJ6_bitCount_0f7a4_25 : decode cJ6_bitCount_0f7a4 25 = .ok (.iload_n 0, 1) := by decide +kernel
theorem dJ6_bitCount_0f7a4_26 : decode cJ6_bitCount_0f7a4 26 = .ok (.iconst 4, 1) := by decide +kernel
theorem dJ6_bitCount_0f7a4_27 : decode cJ6_bitCount_0f7a4 27 = .ok (.iushr, 1) := by decide +kernel
theorem dJ6_bitCount_0f7a4_28 : decode cJ6_bitCount_0f7a4 28 = .ok (.iadd, 1) := by decide +kernel
theorem dJ6_bitCount_0f7a4_29 : decode cJ6_bitCount_0f7a4 29 = .ok (.ldc_w 267, 3) := by decide +kernel
theorem dJ6_bitCount_0f7a4_32 : decode cJ6_bitCount_0f7a4 32 = .ok (.iand, 1) := by decide +kernel
theorem dJ6_bitCount_0f7a4_33 : decode cJ6_bitCount_0f7a4 33 = .ok (.istore_n 0, 1) := by decide +kernel
theorem dJ6_bitCount_0f7a4_34 : decode cJ6_bitCount_0f7a4 34 = .ok (.iload_n 0, 1) := by decide +kernel
theorem dJ6_bitCount_0f7a4_35 : decode cJ6_bitCount_0f7a4 35 = .ok (.iload_n 0, 1) := by decide +kernel
theorem dJ6_bitCount_0f7a4_36 : decode cJ6_bitCount_0f7a4 36 = .ok (.bipush 8, 2) := by decide +kernel
theorem dJ6_bitCount_0f7a4_38 : decode cJ6_bitCount_0f7a4 38 = .ok (.iushr, 1) := by decide +kernel
theorem dJ6_bitCount_0f7a4_39 : decode cJ6_bitCount_0f7a4 39 = .ok (.iadd, 1) := by decide +kernel
theorem dJ6_bitCount_0f7a4_40 : decode cJ6_bitCount_0f7a4 40 = .ok (.istore_n 0, 1) := by decide +kernel
theorem dJ6_bitCount_0f7a4_41 : decode cJ6_bitCount_0f7a4 41 = .ok (.iload_n 0, 1) := by decide +kernel
theorem dJ6_bitCount_0f7a4_42 : decode cJ6_bitCount_0f7a4 42 = .ok (.iload_n 0, 1) := by decide +kernel
theorem dJ6_bitCount_0f7a4_43 : decode cJ6_bitCount_0f7a4 43 = .ok (.bipush 16, 2) := by decide +kernel
theorem dJ6_bitCount_0f7a4_45 : decode cJ6_bitCount_0f7a4 45 = .ok (.iushr, 1) := by decide +kernel
theorem dJ6_bitCount_0f7a4_46 : decode cJ6_bitCount_0f7a4 46 = .ok (.iadd, 1) := by decide +kernel
theorem dJ6_bitCount_0f7a4_47 : decode cJ6_bitCount_0f7a4 47 = .ok (.istore_n 0, 1) := by decide +kernel
theorem dJ6_bitCount_0f7a4_48 : decode cJ6_bitCount_0f7a4 48 = .ok (.iload_n 0, 1) := by decide +kernel
theorem dJ6_bitCount_0f7a4_49 : decode cJ6_bitCount_0f7a4 49 = .ok (.bipush 63, 2) := by decide +kernel
theorem dJ6_bitCount_0f7a4_51 : decode cJ6_bitCount_0f7a4 51 = .ok (.iand, 1) := by decide +kernel
theorem dJ6_bitCount_0f7a4_52 : decode cJ6_bitCount_0f7a4 52 = .ok (.ireturn, 1) := by decide +kernel
theorem dJ13_bitCount_95d88_0 : decode cJ13_bitCount_95d88 0 = .ok (.lload_n 0, 1) := by decide +kernel
theorem dJ13_bitCount_95d88_1 : decode cJ13_bitCount_95d88 1 = .ok (.lload_n 0, 1) := by decide +kernel
theorem dJ13_bitCount_95d88_2 : decode cJ13_bitCount_95d88 2 = .ok (.iconst 1, 1) := by decide +kernel
theorem dJ13_bitCount_95d88_3 : decode cJ13_bitCount_95d88 3 = .ok (.lushr, 1) := by decide +kernel
theorem dJ13_bitCount_95d88_4 : decode cJ13_bitCount_95d88 4 = .ok (.ldc2_w 314, 3) := by decide +kernel
theorem dJ13_bitCount_95d88_7 : decode cJ13_bitCount_95d88 7 = .ok (.land, 1) := by decide +kernel
theorem dJ13_bitCount_95d88_8 : decode cJ13_bitCount_95d88 8 = .ok (.lsub, 1) := by decide +kernel
theorem dJ13_bitCount_95d88_9 : decode cJ13_bitCount_95d88 9 = .ok (.lstore_n 0, 1) := by decide +kernel
theorem dJ13_bitCount_95d88_10 : decode cJ13_bitCount_95d88 10 = .ok (.lload_n 0, 1) := by decide +kernel
theorem dJ13_bitCount_95d88_11 : decode cJ13_bitCount_95d88 11 = .ok (.ldc2_w 316, 3) := by decide +kernel
theorem dJ13_bitCount_95d88_14 : decode cJ13_bitCount_95d88 14 = .ok (.land, 1) := by decide +kernel
theorem dJ13_bitCount_95d88_15 : decode cJ13_bitCount_95d88 15 = .ok (.lload_n 0, 1) := by decide +kernel
theorem dJ13_bitCount_95d88_16 : decode cJ13_bitCount_95d88 16 = .ok (.iconst 2, 1) := by decide +kernel
theorem dJ13_bitCount_95d88_17 : decode cJ13_bitCount_95d88 17 = .ok (.lushr, 1) := by decide +kernel
theorem dJ13_bitCount_95d88_18 : decode cJ13_bitCount_95d88 18 = .ok (.ldc2_w 316, 3) := by decide +kernel
theorem dJ13_bitCount_95d88_21 : decode cJ13_bitCount_95d88 21 = .ok (.land, 1) := by decide +kernel
theorem dJ13_bitCount_95d88_22 : decode cJ13_bitCount_95d88 22 = .ok (.ladd, 1) := by decide +kernel
theorem dJ13_bitCount_95d88_23 : decode cJ13_bitCount_95d88 23 = .ok (.lstore_n 0, 1) := by decide +kernel
theorem dJ13_bitCount_95d88_24 : decode cJ13_bitCount_95d88 24 = .ok (.lload_n 0, 1) := by decide +kernel
theorem dJ13_bitCount_95d88_25 : decode cJ13_bitCount_95d88 25 = .ok (.lload_n 0, 1) := by decide +kernel
theorem dJ13_bitCount_95d88_26 : decode cJ13_bitCount_95d88 26 = .ok (.iconst 4, 1) := by decide +kernel
theorem dJ13_bitCount_95d88_27 : decode cJ13_bitCount_95d88 27 = .ok (.lushr, 1) := by decide +kernel
theorem dJ13_bitCount_95d88_28 : decode cJ13_bitCount_95d88 28 = .ok (.ladd, 1) := by decide +kernel
theorem dJ13_bitCount_95d88_29 : decode cJ13_bitCount_95d88 29 = .ok (.ldc2_w 318, 3) := by decide +kernel
theorem dJ13_bitCount_95d88_32 : decode cJ13_bitCount_95d88 32 = .ok (.land, 1) := by decide +kernel
theorem dJ13_bitCount_95d88_33 : decode cJ13_bitCount_95d88 33 = .ok (.lstore_n 0, 1) := by decide +kernel
theorem dJ13_bitCount_95d88_34 : decode cJ13_bitCount_95d88 34 = .ok (.lload_n 0, 1) := by decide +kernel
theorem dJ13_bitCount_95d88_35 : decode cJ13_bitCount_95d88 35 = .ok (.lload_n 0, 1) := by decide +kernel
theorem dJ13_bitCount_95d88_36 : decode cJ13_bitCount_95d88 36 = .ok (.bipush 8, 2) := by decide +kernel
theorem dJ13_bitCount_95d88_38 : decode cJ13_bitCount_95d88 38 = .ok (.lushr, 1) := by decide +kernel
theorem dJ13_bitCount_95d88_39 : decode cJ13_bitCount_95d88 39 = .ok (.ladd, 1) := by decide +kernel
theorem dJ13_bitCount_95d88_40 : decode cJ13_bitCount_95d88 40 = .ok (.lstore_n 0, 1) := by decide +kernel
theorem dJ13_bitCount_95d88_41 : decode cJ13_bitCount_95d88 41 = .ok (.lload_n 0, 1) := by decide +kernel
theorem dJ13_bitCount_95d88_42 : decode cJ13_bitCount_95d88 42 = .ok (.lload_n 0, 1) := by decide +kernel
theorem dJ13_bitCount_95d88_43 : decode cJ13_bitCount_95d88 43 = .ok (.bipush 16, 2) := by decide +kernel
theorem dJ13_bitCount_95d88_45 : decode cJ13_bitCount_95d88 45 = .ok (.lushr, 1) := by decide +kernel
theorem dJ13_bitCount_95d88_46 : decode cJ13_bitCount_95d88 46 = .ok (.ladd, 1) := by decide +kernel
theorem dJ13_bitCount_95d88_47 : decode cJ13_bitCount_95d88 47 = .ok (.lstore_n 0, 1) := by decide +kernel
theorem dJ13_bitCount_95d88_48 : decode cJ13_bitCount_95d88 48 = .ok (.lload_n 0, 1) := by decide +kernel
theorem dJ13_bitCount_95d88_49 : decode cJ13_bitCount_95d88 49 = .ok (.lload_n 0, 1) := by decide +kernel
theorem dJ13_bitCount_95d88_50 : decode cJ13_bitCount_95d88 50 = .ok (.bipush 32, 2) := by decide +kernel
theorem dJ13_bitCount_95d88_52 : decode cJ13_bitCount_95d88 52 = .ok (.lushr, 1) := by decide +kernel
theorem dJ13_bitCount_95d88_53 : decode cJ13_bitCount_95d88 53 = .ok (.ladd, 1) := by decide +kernel
theorem dJ13_bitCount_95d88_54 : decode cJ13_bitCount_95d88 54 = .ok (.lstore_n 0, 1) := by decide +kernel
theorem dJ13_bitCount_95d88_55 : decode cJ13_bitCount_95d88 55 = .ok (.lload_n 0, 1) := by decide +kernel
theorem dJ13_bitCount_95d88_56 : decode cJ13_bitCount_95d88 56 = .ok (.l2i, 1) := by decide +kernel
theorem dJ13_bitCount_95d88_57 : decode cJ13_bitCount_95d88 57 = .ok (.bipush 127, 2) := by decide +kernel
theorem dJ13_bitCount_95d88_59 : decode cJ13_bitCount_95d88 59 = .ok (.iand, 1) := by decide +kernel
theorem dJ13_bitCount_95d88_60 : decode cJ13_bitCount_95d88 60 = .ok (.ireturn, 1) := by decide +kernel
theorem dL_law_0 : decode cL_law 0 = .ok (.new 7, 3) := by decide +kernel
theorem dL_law_3 : decode cL_law 3 = .ok (.dup, 1) := by decide +kernel
theorem dL_law_4 : decode cL_law 4 = .ok (.invokespecial 9, 3) := by decide +kernel
theorem dL_law_7 : decode cL_law 7 = .ok (.astore_n 1, 1) := by decide +kernel
theorem dL_law_8 : decode cL_law 8 = .ok (.new 10, 3) := by decide +kernel
theorem dL_law_11 : decode cL_law 11 = .ok (.dup, 1) := by decide +kernel
theorem dL_law_12 : decode cL_law 12 = .ok (.invokespecial 12, 3) := by decide +kernel
theorem dL_law_15 : decode cL_law 15 = .ok (.astore_n 2, 1) := by decide +kernel
theorem dL_law_16 : decode cL_law 16 = .ok (.iconst 0, 1) := by decide +kernel
theorem dL_law_17 : decode cL_law 17 = .ok (.istore_n 3, 1) := by decide +kernel
theorem dL_law_18 : decode cL_law 18 = .ok (.iload_n 3, 1) := by decide +kernel
theorem dL_law_19 : decode cL_law 19 = .ok (.aload_n 0, 1) := by decide +kernel
theorem dL_law_20 : decode cL_law 20 = .ok (.arraylength, 1) := by decide +kernel
theorem dL_law_21 : decode cL_law 21 = .ok (.iconst 5, 1) := by decide +kernel
theorem dL_law_22 : decode cL_law 22 = .ok (.isub, 1) := by decide +kernel
theorem dL_law_23 : decode cL_law 23 = .ok (.if_icmp .gt 597, 3) := by decide +kernel
theorem dL_law_26 : decode cL_law 26 = .ok (.aload_n 0, 1) := by decide +kernel
theorem dL_law_27 : decode cL_law 27 = .ok (.iload_n 3, 1) := by decide +kernel
theorem dL_law_28 : decode cL_law 28 = .ok (.iaload, 1) := by decide +kernel
theorem dL_law_29 : decode cL_law 29 = .ok (.bipush 31, 2) := by decide +kernel
theorem dL_law_31 : decode cL_law 31 = .ok (.iand, 1) := by decide +kernel
theorem dL_law_32 : decode cL_law 32 = .ok (.tableswitch 582 0 16 #[84, 107, 120, 133, 166, 209, 262, 311, 344, 357, 380, 423, 456, 489, 522, 545, 568], 84) := by decide +kernel
theorem dL_law_116 : decode cL_law 116 = .ok (.aload_n 1, 1) := by decide +kernel
theorem dL_law_117 : decode cL_law 117 = .ok (.aload_n 0, 1) := by decide +kernel
theorem dL_law_118 : decode cL_law 118 = .ok (.iload_n 3, 1) := by decide +kernel
theorem dL_law_119 : decode cL_law 119 = .ok (.iconst 1, 1) := by decide +kernel
theorem dL_law_120 : decode cL_law 120 = .ok (.iadd, 1) := by decide +kernel
theorem dL_law_121 : decode cL_law 121 = .ok (.iaload, 1) := by decide +kernel
theorem dL_law_122 : decode cL_law 122 = .ok (.invokevirtual 13, 3) := by decide +kernel
theorem dL_law_125 : decode cL_law 125 = .ok (.aload_n 2, 1) := by decide +kernel
theorem dL_law_126 : decode cL_law 126 = .ok (.aload_n 0, 1) := by decide +kernel
theorem dL_law_127 : decode cL_law 127 = .ok (.iload_n 3, 1) := by decide +kernel
theorem dL_law_128 : decode cL_law 128 = .ok (.iconst 1, 1) := by decide +kernel
theorem dL_law_129 : decode cL_law 129 = .ok (.iadd, 1) := by decide +kernel
theorem dL_law_130 : decode cL_law 130 = .ok (.iaload, 1) := by decide +kernel
theorem dL_law_131 : decode cL_law 131 = .ok (.invokevirtual 17, 3) := by decide +kernel
theorem dL_law_134 : decode cL_law 134 = .ok (.if_icmp .eq 480, 3) := by decide +kernel
theorem dL_law_137 : decode cL_law 137 = .ok (.iconst 0, 1) := by decide +kernel
theorem dL_law_138 : decode cL_law 138 = .ok (.ireturn, 1) := by decide +kernel
theorem dL_law_139 : decode cL_law 139 = .ok (.aload_n 1, 1) := by decide +kernel
theorem dL_law_140 : decode cL_law 140 = .ok (.invokevirtual 18, 3) := by decide +kernel
theorem dL_law_143 : decode cL_law 143 = .ok (.aload_n 2, 1) := by decide +kernel
theorem dL_law_144 : decode cL_law 144 = .ok (.invokevirtual 22, 3) := by decide +kernel
theorem dL_law_147 : decode cL_law 147 = .ok (.if_icmp .eq 467, 3) := by decide +kernel
theorem dL_law_150 : decode cL_law 150 = .ok (.iconst 0, 1) := by decide +kernel
theorem dL_law_151 : decode cL_law 151 = .ok (.ireturn, 1) := by decide +kernel
theorem dL_law_152 : decode cL_law 152 = .ok (.aload_n 1, 1) := by decide +kernel
theorem dL_law_153 : decode cL_law 153 = .ok (.invokevirtual 23, 3) := by decide +kernel
theorem dL_law_156 : decode cL_law 156 = .ok (.aload_n 2, 1) := by decide +kernel
theorem dL_law_157 : decode cL_law 157 = .ok (.invokevirtual 26, 3) := by decide +kernel
theorem dL_law_160 : decode cL_law 160 = .ok (.if_icmp .eq 454, 3) := by decide +kernel
theorem dL_law_163 : decode cL_law 163 = .ok (.iconst 0, 1) := by decide +kernel
theorem dL_law_164 : decode cL_law 164 = .ok (.ireturn, 1) := by decide +kernel
theorem dL_law_165 : decode cL_law 165 = .ok (.aload_n 1, 1) := by decide +kernel
theorem dL_law_166 : decode cL_law 166 = .ok (.aload_n 0, 1) := by decide +kernel
theorem dL_law_167 : decode cL_law 167 = .ok (.iload_n 3, 1) := by decide +kernel
theorem dL_law_168 : decode cL_law 168 = .ok (.iconst 1, 1) := by decide +kernel
theorem dL_law_169 : decode cL_law 169 = .ok (.iadd, 1) := by decide +kernel
theorem dL_law_170 : decode cL_law 170 = .ok (.iaload, 1) := by decide +kernel
theorem dL_law_171 : decode cL_law 171 = .ok (.aload_n 0, 1) := by decide +kernel
theorem dL_law_172 : decode cL_law 172 = .ok (.iload_n 3, 1) := by decide +kernel
theorem dL_law_173 : decode cL_law 173 = .ok (.iconst 2, 1) := by decide +kernel
theorem dL_law_174 : decode cL_law 174 = .ok (.iadd, 1) := by decide +kernel
theorem dL_law_175 : decode cL_law 175 = .ok (.iaload, 1) := by decide +kernel
theorem dL_law_176 : decode cL_law 176 = .ok (.invokevirtual 27, 3) := by decide +kernel
theorem dL_law_179 : decode cL_law 179 = .ok (.aload_n 2, 1) := by decide +kernel
theorem dL_law_180 : decode cL_law 180 = .ok (.aload_n 0, 1) := by decide +kernel
theorem dL_law_181 : decode cL_law 181 = .ok (.iload_n 3, 1) := by decide +kernel
theorem dL_law_182 : decode cL_law 182 = .ok (.iconst 1, 1) := by decide +kernel
theorem dL_law_183 : decode cL_law 183 = .ok (.iadd, 1) := by decide +kernel
theorem dL_law_184 : decode cL_law 184 = .ok (.iaload, 1) := by decide +kernel
theorem dL_law_185 : decode cL_law 185 = .ok (.aload_n 0, 1) := by decide +kernel
theorem dL_law_186 : decode cL_law 186 = .ok (.iload_n 3, 1) := by decide +kernel
theorem dL_law_187 : decode cL_law 187 = .ok (.iconst 2, 1) := by decide +kernel
theorem dL_law_188 : decode cL_law 188 = .ok (.iadd, 1) := by decide +kernel
theorem dL_law_189 : decode cL_law 189 = .ok (.iaload, 1) := by decide +kernel
theorem dL_law_190 : decode cL_law 190 = .ok (.invokevirtual 31, 3) := by decide +kernel
theorem dL_law_193 : decode cL_law 193 = .ok (.if_icmp .eq 421, 3) := by decide +kernel
theorem dL_law_196 : decode cL_law 196 = .ok (.iconst 0, 1) := by decide +kernel
theorem dL_law_197 : decode cL_law 197 = .ok (.ireturn, 1) := by decide +kernel
theorem dL_law_198 : decode cL_law 198 = .ok (.aload_n 1, 1) := by decide +kernel
theorem dL_law_199 : decode cL_law 199 = .ok (.aload_n 0, 1) := by decide +kernel
theorem dL_law_200 : decode cL_law 200 = .ok (.iload_n 3, 1) := by decide +kernel
theorem dL_law_201 : decode cL_law 201 = .ok (.iconst 1, 1) := by decide +kernel
theorem dL_law_202 : decode cL_law 202 = .ok (.iadd, 1) := by decide +kernel
theorem dL_law_203 : decode cL_law 203 = .ok (.iaload, 1) := by decide +kernel
theorem dL_law_204 : decode cL_law 204 = .ok (.aload_n 0, 1) := by decide +kernel
theorem dL_law_205 : decode cL_law 205 = .ok (.iload_n 3, 1) := by decide +kernel
theorem dL_law_206 : decode cL_law 206 = .ok (.iconst 2, 1) := by decide +kernel
theorem dL_law_207 : decode cL_law 207 = .ok (.iadd, 1) := by decide +kernel
theorem dL_law_208 : decode cL_law 208 = .ok (.iaload, 1) := by decide +kernel
theorem dL_law_209 : decode cL_law 209 = .ok (.aload_n 0, 1) := by decide +kernel
theorem dL_law_210 : decode cL_law 210 = .ok (.iload_n 3, 1) := by decide +kernel
theorem dL_law_211 : decode cL_law 211 = .ok (.iconst 3, 1) := by decide +kernel
theorem dL_law_212 : decode cL_law 212 = .ok (.iadd, 1) := by decide +kernel
theorem dL_law_213 : decode cL_law 213 = .ok (.iaload, 1) := by decide +kernel
theorem dL_law_214 : decode cL_law 214 = .ok (.invokevirtual 32, 3) := by decide +kernel
theorem dL_law_217 : decode cL_law 217 = .ok (.aload_n 2, 1) := by decide +kernel
theorem dL_law_218 : decode cL_law 218 = .ok (.aload_n 0, 1) := by decide +kernel
theorem dL_law_219 : decode cL_law 219 = .ok (.iload_n 3, 1) := by decide +kernel
theorem dL_law_220 : decode cL_law 220 = .ok (.iconst 1, 1) := by decide +kernel
theorem dL_law_221 : decode cL_law 221 = .ok (.iadd, 1) := by decide +kernel
theorem dL_law_222 : decode cL_law 222 = .ok (.iaload, 1) := by decide +kernel
theorem dL_law_223 : decode cL_law 223 = .ok (.aload_n 0, 1) := by decide +kernel
theorem dL_law_224 : decode cL_law 224 = .ok (.iload_n 3, 1) := by decide +kernel
theorem dL_law_225 : decode cL_law 225 = .ok (.iconst 2, 1) := by decide +kernel
theorem dL_law_226 : decode cL_law 226 = .ok (.iadd, 1) := by decide +kernel
theorem dL_law_227 : decode cL_law 227 = .ok (.iaload, 1) := by decide +kernel
theorem dL_law_228 : decode cL_law 228 = .ok (.aload_n 0, 1) := by decide +kernel
theorem dL_law_229 : decode cL_law 229 = .ok (.iload_n 3, 1) := by decide +kernel
theorem dL_law_230 : decode cL_law 230 = .ok (.iconst 3, 1) := by decide +kernel
theorem dL_law_231 : decode cL_law 231 = .ok (.iadd, 1) := by decide +kernel
theorem dL_law_232 : decode cL_law 232 = .ok (.iaload, 1) := by decide +kernel
theorem dL_law_233 : decode cL_law 233 = .ok (.invokevirtual 36, 3) := by decide +kernel
theorem dL_law_236 : decode cL_law 236 = .ok (.if_icmp .eq 378, 3) := by decide +kernel
theorem dL_law_239 : decode cL_law 239 = .ok (.iconst 0, 1) := by decide +kernel
theorem dL_law_240 : decode cL_law 240 = .ok (.ireturn, 1) := by decide +kernel
theorem dL_law_241 : decode cL_law 241 = .ok (.aload_n 1, 1) := by decide +kernel
theorem dL_law_242 : decode cL_law 242 = .ok (.aload_n 0, 1) := by decide +kernel
theorem dL_law_243 : decode cL_law 243 = .ok (.iload_n 3, 1) := by decide +kernel
theorem dL_law_244 : decode cL_law 244 = .ok (.iconst 1, 1) := by decide +kernel
theorem dL_law_245 : decode cL_law 245 = .ok (.iadd, 1) := by decide +kernel
theorem dL_law_246 : decode cL_law 246 = .ok (.iaload, 1) := by decide +kernel
theorem dL_law_247 : decode cL_law 247 = .ok (.aload_n 0, 1) := by decide +kernel
theorem dL_law_248 : decode cL_law 248 = .ok (.iload_n 3, 1) := by decide +kernel
theorem dL_law_249 : decode cL_law 249 = .ok (.iconst 2, 1) := by decide +kernel
theorem dL_law_250 : decode cL_law 250 = .ok (.iadd, 1) := by decide +kernel
theorem dL_law_251 : decode cL_law 251 = .ok (.iaload, 1) := by decide +kernel
theorem dL_law_252 : decode cL_law 252 = .ok (.aload_n 0, 1) := by decide +kernel
theorem dL_law_253 : decode cL_law 253 = .ok (.iload_n 3, 1) := by decide +kernel
theorem dL_law_254 : decode cL_law 254 = .ok (.iconst 3, 1) := by decide +kernel
theorem dL_law_255 : decode cL_law 255 = .ok (.iadd, 1) := by decide +kernel
theorem dL_law_256 : decode cL_law 256 = .ok (.iaload, 1) := by decide +kernel
theorem dL_law_257 : decode cL_law 257 = .ok (.aload_n 0, 1) := by decide +kernel
theorem dL_law_258 : decode cL_law 258 = .ok (.iload_n 3, 1) := by decide +kernel
theorem dL_law_259 : decode cL_law 259 = .ok (.iconst 4, 1) := by decide +kernel
theorem dL_law_260 : decode cL_law 260 = .ok (.iadd, 1) := by decide +kernel
theorem dL_law_261 : decode cL_law 261 = .ok (.iaload, 1) := by decide +kernel
theorem dL_law_262 : decode cL_law 262 = .ok (.invokevirtual 37, 3) := by decide +kernel
theorem dL_law_265 : decode cL_law 265 = .ok (.aload_n 2, 1) := by decide +kernel
theorem dL_law_266 : decode cL_law 266 = .ok (.aload_n 0, 1) := by decide +kernel
theorem dL_law_267 : decode cL_law 267 = .ok (.iload_n 3, 1) := by decide +kernel
theorem dL_law_268 : decode cL_law 268 = .ok (.iconst 1, 1) := by decide +kernel
theorem dL_law_269 : decode cL_law 269 = .ok (.iadd, 1) := by decide +kernel
theorem dL_law_270 : decode cL_law 270 = .ok (.iaload, 1) := by decide +kernel
theorem dL_law_271 : decode cL_law 271 = .ok (.aload_n 0, 1) := by decide +kernel
theorem dL_law_272 : decode cL_law 272 = .ok (.iload_n 3, 1) := by decide +kernel
theorem dL_law_273 : decode cL_law 273 = .ok (.iconst 2, 1) := by decide +kernel
theorem dL_law_274 : decode cL_law 274 = .ok (.iadd, 1) := by decide +kernel
theorem dL_law_275 : decode cL_law 275 = .ok (.iaload, 1) := by decide +kernel
theorem dL_law_276 : decode cL_law 276 = .ok (.aload_n 0, 1) := by decide +kernel
theorem dL_law_277 : decode cL_law 277 = .ok (.iload_n 3, 1) := by decide +kernel
theorem dL_law_278 : decode cL_law 278 = .ok (.iconst 3, 1) := by decide +kernel
theorem dL_law_279 : decode cL_law 279 = .ok (.iadd, 1) := by decide +kernel
theorem dL_law_280 : decode cL_law 280 = .ok (.iaload, 1) := by decide +kernel
theorem dL_law_281 : decode cL_law 281 = .ok (.aload_n 0, 1) := by decide +kernel
theorem dL_law_282 : decode cL_law 282 = .ok (.iload_n 3, 1) := by decide +kernel
theorem dL_law_283 : decode cL_law 283 = .ok (.iconst 4, 1) := by decide +kernel
theorem dL_law_284 : decode cL_law 284 = .ok (.iadd, 1) := by decide +kernel
theorem dL_law_285 : decode cL_law 285 = .ok (.iaload, 1) := by decide +kernel
theorem dL_law_286 : decode cL_law 286 = .ok (.invokevirtual 41, 3) := by decide +kernel
theorem dL_law_289 : decode cL_law 289 = .ok (.if_icmp .eq 325, 3) := by decide +kernel
theorem dL_law_292 : decode cL_law 292 = .ok (.iconst 0, 1) := by decide +kernel
theorem dL_law_293 : decode cL_law 293 = .ok (.ireturn, 1) := by decide +kernel
theorem dL_law_294 : decode cL_law 294 = .ok (.aload_n 1, 1) := by decide +kernel
theorem dL_law_295 : decode cL_law 295 = .ok (.aload_n 0, 1) := by decide +kernel
theorem dL_law_296 : decode cL_law 296 = .ok (.iload_n 3, 1) := by decide +kernel
theorem dL_law_297 : decode cL_law 297 = .ok (.iconst 1, 1) := by decide +kernel
theorem dL_law_298 : decode cL_law 298 = .ok (.iadd, 1) := by decide +kernel
theorem dL_law_299 : decode cL_law 299 = .ok (.iaload, 1) := by decide +kernel
theorem dL_law_300 : decode cL_law 300 = .ok (.aload_n 0, 1) := by decide +kernel
theorem dL_law_301 : decode cL_law 301 = .ok (.iload_n 3, 1) := by decide +kernel
theorem dL_law_302 : decode cL_law 302 = .ok (.iconst 2, 1) := by decide +kernel
theorem dL_law_303 : decode cL_law 303 = .ok (.iadd, 1) := by decide +kernel
theorem dL_law_304 : decode cL_law 304 = .ok (.iaload, 1) := by decide +kernel
theorem dL_law_305 : decode cL_law 305 = .ok (.ifCond .eq 7, 3) := by decide +kernel
theorem dL_law_308 : decode cL_law 308 = .ok (.iconst 1, 1) := by decide +kernel
theorem dL_law_309 : decode cL_law 309 = .ok (.goto 4, 3) := by decide +kernel
theorem dL_law_312 : decode cL_law 312 = .ok (.iconst 0, 1) := by decide +kernel
theorem dL_law_313 : decode cL_law 313 = .ok (.invokevirtual 42, 3) := by decide +kernel
theorem dL_law_316 : decode cL_law 316 = .ok (.aload_n 2, 1) := by decide +kernel
theorem dL_law_317 : decode cL_law 317 = .ok (.aload_n 0, 1) := by decide +kernel
theorem dL_law_318 : decode cL_law 318 = .ok (.iload_n 3, 1) := by decide +kernel
theorem dL_law_319 : decode cL_law 319 = .ok (.iconst 1, 1) := by decide +kernel
theorem dL_law_320 : decode cL_law 320 = .ok (.iadd, 1) := by decide +kernel
theorem dL_law_321 : decode cL_law 321 = .ok (.iaload, 1) := by decide +kernel
theorem dL_law_322 : decode cL_law 322 = .ok (.aload_n 0, 1) := by decide +kernel
theorem dL_law_323 : decode cL_law 323 = .ok (.iload_n 3, 1) := by decide +kernel
theorem dL_law_324 : decode cL_law 324 = .ok (.iconst 2, 1) := by decide +kernel
theorem dL_law_325 : decode cL_law 325 = .ok (.iadd, 1) := by decide +kernel
theorem dL_law_326 : decode cL_law 326 = .ok (.iaload, 1) := by decide +kernel
theorem dL_law_327 : decode cL_law 327 = .ok (.ifCond .eq 7, 3) := by decide +kernel
theorem dL_law_330 : decode cL_law 330 = .ok (.iconst 1, 1) := by decide +kernel
theorem dL_law_331 : decode cL_law 331 = .ok (.goto 4, 3) := by decide +kernel
theorem dL_law_334 : decode cL_law 334 = .ok (.iconst 0, 1) := by decide +kernel
theorem dL_law_335 : decode cL_law 335 = .ok (.invokevirtual 46, 3) := by decide +kernel
theorem dL_law_338 : decode cL_law 338 = .ok (.if_icmp .eq 276, 3) := by decide +kernel
theorem dL_law_341 : decode cL_law 341 = .ok (.iconst 0, 1) := by decide +kernel
theorem dL_law_342 : decode cL_law 342 = .ok (.ireturn, 1) := by decide +kernel
theorem dL_law_343 : decode cL_law 343 = .ok (.aload_n 1, 1) := by decide +kernel
theorem dL_law_344 : decode cL_law 344 = .ok (.aload_n 0, 1) := by decide +kernel
theorem dL_law_345 : decode cL_law 345 = .ok (.iload_n 3, 1) := by decide +kernel
theorem dL_law_346 : decode cL_law 346 = .ok (.iconst 1, 1) := by decide +kernel
theorem dL_law_347 : decode cL_law 347 = .ok (.iadd, 1) := by decide +kernel
theorem dL_law_348 : decode cL_law 348 = .ok (.iaload, 1) := by decide +kernel
theorem dL_law_349 : decode cL_law 349 = .ok (.aload_n 0, 1) := by decide +kernel
theorem dL_law_350 : decode cL_law 350 = .ok (.iload_n 3, 1) := by decide +kernel
theorem dL_law_351 : decode cL_law 351 = .ok (.iconst 2, 1) := by decide +kernel
theorem dL_law_352 : decode cL_law 352 = .ok (.iadd, 1) := by decide +kernel
theorem dL_law_353 : decode cL_law 353 = .ok (.iaload, 1) := by decide +kernel
theorem dL_law_354 : decode cL_law 354 = .ok (.invokevirtual 47, 3) := by decide +kernel
theorem dL_law_357 : decode cL_law 357 = .ok (.aload_n 2, 1) := by decide +kernel
theorem dL_law_358 : decode cL_law 358 = .ok (.aload_n 0, 1) := by decide +kernel
theorem dL_law_359 : decode cL_law 359 = .ok (.iload_n 3, 1) := by decide +kernel
theorem dL_law_360 : decode cL_law 360 = .ok (.iconst 1, 1) := by decide +kernel
theorem dL_law_361 : decode cL_law 361 = .ok (.iadd, 1) := by decide +kernel
theorem dL_law_362 : decode cL_law 362 = .ok (.iaload, 1) := by decide +kernel
theorem dL_law_363 : decode cL_law 363 = .ok (.aload_n 0, 1) := by decide +kernel
theorem dL_law_364 : decode cL_law 364 = .ok (.iload_n 3, 1) := by decide +kernel
theorem dL_law_365 : decode cL_law 365 = .ok (.iconst 2, 1) := by decide +kernel
theorem dL_law_366 : decode cL_law 366 = .ok (.iadd, 1) := by decide +kernel
theorem dL_law_367 : decode cL_law 367 = .ok (.iaload, 1) := by decide +kernel
theorem dL_law_368 : decode cL_law 368 = .ok (.invokevirtual 50, 3) := by decide +kernel
theorem dL_law_371 : decode cL_law 371 = .ok (.if_icmp .eq 243, 3) := by decide +kernel
theorem dL_law_374 : decode cL_law 374 = .ok (.iconst 0, 1) := by decide +kernel
theorem dL_law_375 : decode cL_law 375 = .ok (.ireturn, 1) := by decide +kernel
theorem dL_law_376 : decode cL_law 376 = .ok (.aload_n 1, 1) := by decide +kernel
theorem dL_law_377 : decode cL_law 377 = .ok (.invokevirtual 51, 3) := by decide +kernel
theorem dL_law_380 : decode cL_law 380 = .ok (.aload_n 2, 1) := by decide +kernel
theorem dL_law_381 : decode cL_law 381 = .ok (.invokevirtual 54, 3) := by decide +kernel
theorem dL_law_384 : decode cL_law 384 = .ok (.if_icmp .eq 230, 3) := by decide +kernel
theorem dL_law_387 : decode cL_law 387 = .ok (.iconst 0, 1) := by decide +kernel
theorem dL_law_388 : decode cL_law 388 = .ok (.ireturn, 1) := by decide +kernel
theorem dL_law_389 : decode cL_law 389 = .ok (.aload_n 1, 1) := by decide +kernel
theorem dL_law_390 : decode cL_law 390 = .ok (.aload_n 0, 1) := by decide +kernel
theorem dL_law_391 : decode cL_law 391 = .ok (.iload_n 3, 1) := by decide +kernel
theorem dL_law_392 : decode cL_law 392 = .ok (.iconst 1, 1) := by decide +kernel
theorem dL_law_393 : decode cL_law 393 = .ok (.iadd, 1) := by decide +kernel
theorem dL_law_394 : decode cL_law 394 = .ok (.iaload, 1) := by decide +kernel
theorem dL_law_395 : decode cL_law 395 = .ok (.invokevirtual 55, 3) := by decide +kernel
theorem dL_law_398 : decode cL_law 398 = .ok (.aload_n 2, 1) := by decide +kernel
theorem dL_law_399 : decode cL_law 399 = .ok (.aload_n 0, 1) := by decide +kernel
theorem dL_law_400 : decode cL_law 400 = .ok (.iload_n 3, 1) := by decide +kernel
theorem dL_law_401 : decode cL_law 401 = .ok (.iconst 1, 1) := by decide +kernel
theorem dL_law_402 : decode cL_law 402 = .ok (.iadd, 1) := by decide +kernel
theorem dL_law_403 : decode cL_law 403 = .ok (.iaload, 1) := by decide +kernel
theorem dL_law_404 : decode cL_law 404 = .ok (.invokevirtual 58, 3) := by decide +kernel
theorem dL_law_407 : decode cL_law 407 = .ok (.if_icmp .eq 207, 3) := by decide +kernel
theorem dL_law_410 : decode cL_law 410 = .ok (.iconst 0, 1) := by decide +kernel
theorem dL_law_411 : decode cL_law 411 = .ok (.ireturn, 1) := by decide +kernel
theorem dL_law_412 : decode cL_law 412 = .ok (.aload_n 1, 1) := by decide +kernel
theorem dL_law_413 : decode cL_law 413 = .ok (.aload_n 0, 1) := by decide +kernel
theorem dL_law_414 : decode cL_law 414 = .ok (.iload_n 3, 1) := by decide +kernel
theorem dL_law_415 : decode cL_law 415 = .ok (.iconst 1, 1) := by decide +kernel
theorem dL_law_416 : decode cL_law 416 = .ok (.iadd, 1) := by decide +kernel
theorem dL_law_417 : decode cL_law 417 = .ok (.iaload, 1) := by decide +kernel
theorem dL_law_418 : decode cL_law 418 = .ok (.aload_n 0, 1) := by decide +kernel
theorem dL_law_419 : decode cL_law 419 = .ok (.iload_n 3, 1) := by decide +kernel
theorem dL_law_420 : decode cL_law 420 = .ok (.iconst 2, 1) := by decide +kernel
theorem dL_law_421 : decode cL_law 421 = .ok (.iadd, 1) := by decide +kernel
theorem dL_law_422 : decode cL_law 422 = .ok (.iaload, 1) := by decide +kernel
theorem dL_law_423 : decode cL_law 423 = .ok (.aload_n 0, 1) := by decide +kernel
theorem dL_law_424 : decode cL_law 424 = .ok (.iload_n 3, 1) := by decide +kernel
theorem dL_law_425 : decode cL_law 425 = .ok (.iconst 3, 1) := by decide +kernel
theorem dL_law_426 : decode cL_law 426 = .ok (.iadd, 1) := by decide +kernel
theorem dL_law_427 : decode cL_law 427 = .ok (.iaload, 1) := by decide +kernel
theorem dL_law_428 : decode cL_law 428 = .ok (.invokevirtual 59, 3) := by decide +kernel
theorem dL_law_431 : decode cL_law 431 = .ok (.aload_n 2, 1) := by decide +kernel
theorem dL_law_432 : decode cL_law 432 = .ok (.aload_n 0, 1) := by decide +kernel
theorem dL_law_433 : decode cL_law 433 = .ok (.iload_n 3, 1) := by decide +kernel
theorem dL_law_434 : decode cL_law 434 = .ok (.iconst 1, 1) := by decide +kernel
theorem dL_law_435 : decode cL_law 435 = .ok (.iadd, 1) := by decide +kernel
theorem dL_law_436 : decode cL_law 436 = .ok (.iaload, 1) := by decide +kernel
theorem dL_law_437 : decode cL_law 437 = .ok (.aload_n 0, 1) := by decide +kernel
theorem dL_law_438 : decode cL_law 438 = .ok (.iload_n 3, 1) := by decide +kernel
theorem dL_law_439 : decode cL_law 439 = .ok (.iconst 2, 1) := by decide +kernel
theorem dL_law_440 : decode cL_law 440 = .ok (.iadd, 1) := by decide +kernel
theorem dL_law_441 : decode cL_law 441 = .ok (.iaload, 1) := by decide +kernel
theorem dL_law_442 : decode cL_law 442 = .ok (.aload_n 0, 1) := by decide +kernel
theorem dL_law_443 : decode cL_law 443 = .ok (.iload_n 3, 1) := by decide +kernel
theorem dL_law_444 : decode cL_law 444 = .ok (.iconst 3, 1) := by decide +kernel
theorem dL_law_445 : decode cL_law 445 = .ok (.iadd, 1) := by decide +kernel
theorem dL_law_446 : decode cL_law 446 = .ok (.iaload, 1) := by decide +kernel
theorem dL_law_447 : decode cL_law 447 = .ok (.invokevirtual 62, 3) := by decide +kernel
theorem dL_law_450 : decode cL_law 450 = .ok (.if_icmp .eq 164, 3) := by decide +kernel
theorem dL_law_453 : decode cL_law 453 = .ok (.iconst 0, 1) := by decide +kernel
theorem dL_law_454 : decode cL_law 454 = .ok (.ireturn, 1) := by decide +kernel
theorem dL_law_455 : decode cL_law 455 = .ok (.aload_n 1, 1) := by decide +kernel
theorem dL_law_456 : decode cL_law 456 = .ok (.aload_n 0, 1) := by decide +kernel
theorem dL_law_457 : decode cL_law 457 = .ok (.iload_n 3, 1) := by decide +kernel
theorem dL_law_458 : decode cL_law 458 = .ok (.iconst 1, 1) := by decide +kernel
theorem dL_law_459 : decode cL_law 459 = .ok (.iadd, 1) := by decide +kernel
theorem dL_law_460 : decode cL_law 460 = .ok (.iaload, 1) := by decide +kernel
theorem dL_law_461 : decode cL_law 461 = .ok (.aload_n 0, 1) := by decide +kernel
theorem dL_law_462 : decode cL_law 462 = .ok (.iload_n 3, 1) := by decide +kernel
theorem dL_law_463 : decode cL_law 463 = .ok (.iconst 2, 1) := by decide +kernel
theorem dL_law_464 : decode cL_law 464 = .ok (.iadd, 1) := by decide +kernel
theorem dL_law_465 : decode cL_law 465 = .ok (.iaload, 1) := by decide +kernel
theorem dL_law_466 : decode cL_law 466 = .ok (.invokevirtual 63, 3) := by decide +kernel
theorem dL_law_469 : decode cL_law 469 = .ok (.aload_n 2, 1) := by decide +kernel
theorem dL_law_470 : decode cL_law 470 = .ok (.aload_n 0, 1) := by decide +kernel
theorem dL_law_471 : decode cL_law 471 = .ok (.iload_n 3, 1) := by decide +kernel
theorem dL_law_472 : decode cL_law 472 = .ok (.iconst 1, 1) := by decide +kernel
theorem dL_law_473 : decode cL_law 473 = .ok (.iadd, 1) := by decide +kernel
theorem dL_law_474 : decode cL_law 474 = .ok (.iaload, 1) := by decide +kernel
theorem dL_law_475 : decode cL_law 475 = .ok (.aload_n 0, 1) := by decide +kernel
theorem dL_law_476 : decode cL_law 476 = .ok (.iload_n 3, 1) := by decide +kernel
theorem dL_law_477 : decode cL_law 477 = .ok (.iconst 2, 1) := by decide +kernel
theorem dL_law_478 : decode cL_law 478 = .ok (.iadd, 1) := by decide +kernel
theorem dL_law_479 : decode cL_law 479 = .ok (.iaload, 1) := by decide +kernel
theorem dL_law_480 : decode cL_law 480 = .ok (.invokevirtual 66, 3) := by decide +kernel
theorem dL_law_483 : decode cL_law 483 = .ok (.if_icmp .eq 131, 3) := by decide +kernel
theorem dL_law_486 : decode cL_law 486 = .ok (.iconst 0, 1) := by decide +kernel
theorem dL_law_487 : decode cL_law 487 = .ok (.ireturn, 1) := by decide +kernel
theorem dL_law_488 : decode cL_law 488 = .ok (.aload_n 1, 1) := by decide +kernel
theorem dL_law_489 : decode cL_law 489 = .ok (.aload_n 0, 1) := by decide +kernel
theorem dL_law_490 : decode cL_law 490 = .ok (.iload_n 3, 1) := by decide +kernel
theorem dL_law_491 : decode cL_law 491 = .ok (.iconst 1, 1) := by decide +kernel
theorem dL_law_492 : decode cL_law 492 = .ok (.iadd, 1) := by decide +kernel
theorem dL_law_493 : decode cL_law 493 = .ok (.iaload, 1) := by decide +kernel
theorem dL_law_494 : decode cL_law 494 = .ok (.aload_n 0, 1) := by decide +kernel
theorem dL_law_495 : decode cL_law 495 = .ok (.iload_n 3, 1) := by decide +kernel
theorem dL_law_496 : decode cL_law 496 = .ok (.iconst 2, 1) := by decide +kernel
theorem dL_law_497 : decode cL_law 497 = .ok (.iadd, 1) := by decide +kernel
theorem dL_law_498 : decode cL_law 498 = .ok (.iaload, 1) := by decide +kernel
theorem dL_law_499 : decode cL_law 499 = .ok (.invokevirtual 67, 3) := by decide +kernel
theorem dL_law_502 : decode cL_law 502 = .ok (.aload_n 2, 1) := by decide +kernel
theorem dL_law_503 : decode cL_law 503 = .ok (.aload_n 0, 1) := by decide +kernel
theorem dL_law_504 : decode cL_law 504 = .ok (.iload_n 3, 1) := by decide +kernel
theorem dL_law_505 : decode cL_law 505 = .ok (.iconst 1, 1) := by decide +kernel
theorem dL_law_506 : decode cL_law 506 = .ok (.iadd, 1) := by decide +kernel
theorem dL_law_507 : decode cL_law 507 = .ok (.iaload, 1) := by decide +kernel
theorem dL_law_508 : decode cL_law 508 = .ok (.aload_n 0, 1) := by decide +kernel
theorem dL_law_509 : decode cL_law 509 = .ok (.iload_n 3, 1) := by decide +kernel
theorem dL_law_510 : decode cL_law 510 = .ok (.iconst 2, 1) := by decide +kernel
theorem dL_law_511 : decode cL_law 511 = .ok (.iadd, 1) := by decide +kernel
theorem dL_law_512 : decode cL_law 512 = .ok (.iaload, 1) := by decide +kernel
theorem dL_law_513 : decode cL_law 513 = .ok (.invokevirtual 70, 3) := by decide +kernel
theorem dL_law_516 : decode cL_law 516 = .ok (.if_icmp .eq 98, 3) := by decide +kernel
theorem dL_law_519 : decode cL_law 519 = .ok (.iconst 0, 1) := by decide +kernel
theorem dL_law_520 : decode cL_law 520 = .ok (.ireturn, 1) := by decide +kernel
theorem dL_law_521 : decode cL_law 521 = .ok (.aload_n 1, 1) := by decide +kernel
theorem dL_law_522 : decode cL_law 522 = .ok (.aload_n 0, 1) := by decide +kernel
theorem dL_law_523 : decode cL_law 523 = .ok (.iload_n 3, 1) := by decide +kernel
theorem dL_law_524 : decode cL_law 524 = .ok (.iconst 1, 1) := by decide +kernel
theorem dL_law_525 : decode cL_law 525 = .ok (.iadd, 1) := by decide +kernel
theorem dL_law_526 : decode cL_law 526 = .ok (.iaload, 1) := by decide +kernel
theorem dL_law_527 : decode cL_law 527 = .ok (.aload_n 0, 1) := by decide +kernel
theorem dL_law_528 : decode cL_law 528 = .ok (.iload_n 3, 1) := by decide +kernel
theorem dL_law_529 : decode cL_law 529 = .ok (.iconst 2, 1) := by decide +kernel
theorem dL_law_530 : decode cL_law 530 = .ok (.iadd, 1) := by decide +kernel
theorem dL_law_531 : decode cL_law 531 = .ok (.iaload, 1) := by decide +kernel
theorem dL_law_532 : decode cL_law 532 = .ok (.invokevirtual 71, 3) := by decide +kernel
theorem dL_law_535 : decode cL_law 535 = .ok (.aload_n 2, 1) := by decide +kernel
theorem dL_law_536 : decode cL_law 536 = .ok (.aload_n 0, 1) := by decide +kernel
theorem dL_law_537 : decode cL_law 537 = .ok (.iload_n 3, 1) := by decide +kernel
theorem dL_law_538 : decode cL_law 538 = .ok (.iconst 1, 1) := by decide +kernel
theorem dL_law_539 : decode cL_law 539 = .ok (.iadd, 1) := by decide +kernel
theorem dL_law_540 : decode cL_law 540 = .ok (.iaload, 1) := by decide +kernel
theorem dL_law_541 : decode cL_law 541 = .ok (.aload_n 0, 1) := by decide +kernel
theorem dL_law_542 : decode cL_law 542 = .ok (.iload_n 3, 1) := by decide +kernel
theorem dL_law_543 : decode cL_law 543 = .ok (.iconst 2, 1) := by decide +kernel
theorem dL_law_544 : decode cL_law 544 = .ok (.iadd, 1) := by decide +kernel
theorem dL_law_545 : decode cL_law 545 = .ok (.iaload, 1) := by decide +kernel
theorem dL_law_546 : decode cL_law 546 = .ok (.invokevirtual 74, 3) := by decide +kernel
theorem dL_law_549 : decode cL_law 549 = .ok (.if_icmp .eq 65, 3) := by decide +kernel
theorem dL_law_552 : decode cL_law 552 = .ok (.iconst 0, 1) := by decide +kernel
theorem dL_law_553 : decode cL_law 553 = .ok (.ireturn, 1) := by decide +kernel
theorem dL_law_554 : decode cL_law 554 = .ok (.aload_n 1, 1) := by decide +kernel
theorem dL_law_555 : decode cL_law 555 = .ok (.aload_n 0, 1) := by decide +kernel
theorem dL_law_556 : decode cL_law 556 = .ok (.iload_n 3, 1) := by decide +kernel
theorem dL_law_557 : decode cL_law 557 = .ok (.iconst 1, 1) := by decide +kernel
theorem dL_law_558 : decode cL_law 558 = .ok (.iadd, 1) := by decide +kernel
theorem dL_law_559 : decode cL_law 559 = .ok (.iaload, 1) := by decide +kernel
theorem dL_law_560 : decode cL_law 560 = .ok (.invokevirtual 75, 3) := by decide +kernel
theorem dL_law_563 : decode cL_law 563 = .ok (.aload_n 2, 1) := by decide +kernel
theorem dL_law_564 : decode cL_law 564 = .ok (.aload_n 0, 1) := by decide +kernel
theorem dL_law_565 : decode cL_law 565 = .ok (.iload_n 3, 1) := by decide +kernel
theorem dL_law_566 : decode cL_law 566 = .ok (.iconst 1, 1) := by decide +kernel
theorem dL_law_567 : decode cL_law 567 = .ok (.iadd, 1) := by decide +kernel
theorem dL_law_568 : decode cL_law 568 = .ok (.iaload, 1) := by decide +kernel
theorem dL_law_569 : decode cL_law 569 = .ok (.invokevirtual 78, 3) := by decide +kernel
theorem dL_law_572 : decode cL_law 572 = .ok (.if_icmp .eq 42, 3) := by decide +kernel
theorem dL_law_575 : decode cL_law 575 = .ok (.iconst 0, 1) := by decide +kernel
theorem dL_law_576 : decode cL_law 576 = .ok (.ireturn, 1) := by decide +kernel
theorem dL_law_577 : decode cL_law 577 = .ok (.aload_n 1, 1) := by decide +kernel
theorem dL_law_578 : decode cL_law 578 = .ok (.aload_n 0, 1) := by decide +kernel
theorem dL_law_579 : decode cL_law 579 = .ok (.iload_n 3, 1) := by decide +kernel
theorem dL_law_580 : decode cL_law 580 = .ok (.iconst 1, 1) := by decide +kernel
theorem dL_law_581 : decode cL_law 581 = .ok (.iadd, 1) := by decide +kernel
theorem dL_law_582 : decode cL_law 582 = .ok (.iaload, 1) := by decide +kernel
theorem dL_law_583 : decode cL_law 583 = .ok (.invokevirtual 79, 3) := by decide +kernel
theorem dL_law_586 : decode cL_law 586 = .ok (.aload_n 2, 1) := by decide +kernel
theorem dL_law_587 : decode cL_law 587 = .ok (.aload_n 0, 1) := by decide +kernel
theorem dL_law_588 : decode cL_law 588 = .ok (.iload_n 3, 1) := by decide +kernel
theorem dL_law_589 : decode cL_law 589 = .ok (.iconst 1, 1) := by decide +kernel
theorem dL_law_590 : decode cL_law 590 = .ok (.iadd, 1) := by decide +kernel
theorem dL_law_591 : decode cL_law 591 = .ok (.iaload, 1) := by decide +kernel
theorem dL_law_592 : decode cL_law 592 = .ok (.invokevirtual 82, 3) := by decide +kernel
theorem dL_law_595 : decode cL_law 595 = .ok (.if_icmp .eq 19, 3) := by decide +kernel
theorem dL_law_598 : decode cL_law 598 = .ok (.iconst 0, 1) := by decide +kernel
theorem dL_law_599 : decode cL_law 599 = .ok (.ireturn, 1) := by decide +kernel
theorem dL_law_600 : decode cL_law 600 = .ok (.aload_n 1, 1) := by decide +kernel
theorem dL_law_601 : decode cL_law 601 = .ok (.invokevirtual 83, 3) := by decide +kernel
theorem dL_law_604 : decode cL_law 604 = .ok (.aload_n 2, 1) := by decide +kernel
theorem dL_law_605 : decode cL_law 605 = .ok (.invokevirtual 87, 3) := by decide +kernel
theorem dL_law_608 : decode cL_law 608 = .ok (.lcmp, 1) := by decide +kernel
theorem dL_law_609 : decode cL_law 609 = .ok (.ifCond .eq 5, 3) := by decide +kernel
theorem dL_law_612 : decode cL_law 612 = .ok (.iconst 0, 1) := by decide +kernel
theorem dL_law_613 : decode cL_law 613 = .ok (.ireturn, 1) := by decide +kernel
theorem dL_law_614 : decode cL_law 614 = .ok (.iinc 3 5, 3) := by decide +kernel
theorem dL_law_617 : decode cL_law 617 = .ok (.goto (-599), 3) := by decide +kernel
theorem dL_law_620 : decode cL_law 620 = .ok (.iconst 1, 1) := by decide +kernel
theorem dL_law_621 : decode cL_law 621 = .ok (.ireturn, 1) := by decide +kernel
end
section
/-! ===== the state, the world, the contracts ===== -/
abbrev tST : Type := (Nat → Int32) × (Nat → Int64) × (Nat → Nat → Int32) × (Nat → Nat → Int64)
abbrev tG : Type := va_G × ClassId × ClassId × ClassId × (Nat → Nat)
def tad (G : tG) (k : Nat) : Nat := G.2.2.2.2 k
def tg_I (st : tST) (k : Nat) : Int32 := st.1 k
def tg_L (st : tST) (k : Nat) : Int64 := st.2.1 k
def tg_A (st : tST) (k : Nat) : Nat → Int32 := st.2.2.1 k
def tg_B (st : tST) (k : Nat) : Nat → Int64 := st.2.2.2 k
def tp_I (st : tST) (k : Nat) (v : Int32) : tST := (upd st.1 k v, st.2)
def tp_L (st : tST) (k : Nat) (v : Int64) : tST := (st.1, vp_updL st.2.1 k v, st.2.2)
def tp_A (st : tST) (k i : Nat) (v : Int32) : tST := (st.1, st.2.1, va_up st.2.2.1 k (upd (st.2.2.1 k) i v), st.2.2.2)
def tp_B (st : tST) (k i : Nat) (v : Int64) : tST := (st.1, st.2.1, st.2.2.1, va_up st.2.2.2 k (vp_updL (st.2.2.2 k) i v))
def tfu : Nat := 5000
def tlet {α β : Type} (a : α) (k : α → β) : β := k a
def tal {α β : Type} (n : Nat) (f : Nat → α) (i : Int32) (k : α → Option β) : Option β := if i < 0 ∨ n ≤ i.toNatClampNeg then none else k (f i.toNatClampNeg)
def tas {β : Type} (n : Nat) (i : Int32) (st : tST) (k : tST → Option β) : Option β := if i < 0 ∨ n ≤ i.toNatClampNeg then none else k st
def tbd {α β : Type} (q : Option (α × tST)) (k : α → tST → Option β) : Option β := match q with
  | some (a, st) => k a st
  | none => none
def tzr {α : Type} (v : Int32) (x : Option α) : Option α := if v = 0 ∨ v = 1 then x else none
def tnz {α : Type} (v : Int32) (x : Option α) : Option α := if v = 0 then none else x
def tw (G : tG) (st : tST) : va_W := [
  (tad G 0, .inr (3, [.ref (tad G 1), .int (tg_I st 0), .ref (tad G 2), .int (tg_I st 1), .long (tg_L st 0), .ref (tad G 3), .ref (tad G 8), .ref (tad G 14), .ref (tad G 18), .int (tg_I st 2), .int (tg_I st 3), .int (tg_I st 4), .int (tg_I st 5)])),
  (tad G 1, .inl (G.2.1, 40, .inl (tg_A st 1))),
  (tad G 2, .inl (G.2.1, 64, .inl (tg_A st 2))),
  (tad G 3, .inr (1, [.ref (tad G 4), .ref (tad G 5), .ref (tad G 6), .ref (tad G 7), .int (tg_I st 6)])),
  (tad G 4, .inl (G.2.1, 90, .inl (tg_A st 4))),
  (tad G 5, .inl (G.2.1, 90, .inl (tg_A st 5))),
  (tad G 6, .inl (G.2.1, 90, .inl (tg_A st 6))),
  (tad G 7, .inl (G.2.1, 90, .inl (tg_A st 7))),
  (tad G 8, .inr (0, [.ref (tad G 9), .ref (tad G 10), .ref (tad G 11), .ref (tad G 12), .ref (tad G 13), .int (tg_I st 7)])),
  (tad G 9, .inl (G.2.1, 12, .inl (tg_A st 9))),
  (tad G 10, .inl (G.2.1, 12, .inl (tg_A st 10))),
  (tad G 11, .inl (G.2.1, 12, .inl (tg_A st 11))),
  (tad G 12, .inl (G.2.1, 12, .inl (tg_A st 12))),
  (tad G 13, .inl (G.2.2.1, 12, .inr (.inl (tg_B st 13)))),
  (tad G 14, .inr (2, [.ref (tad G 15), .ref (tad G 16), .ref (tad G 17), .int (tg_I st 8)])),
  (tad G 15, .inl (G.2.1, 90, .inl (tg_A st 15))),
  (tad G 16, .inl (G.2.1, 90, .inl (tg_A st 16))),
  (tad G 17, .inl (G.2.1, 90, .inl (tg_A st 17))),
  (tad G 18, .inl (G.2.1, 90, .inl (tg_A st 18))),
  (tad G 19, .inr (4, [.int (tg_I st 100), .ref (tad G 20), .int (tg_I st 102), .ref (tad G 21), .ref (tad G 22), .ref (tad G 23), .ref (tad G 24), .int (tg_I st 107), .ref (tad G 25), .ref (tad G 26), .ref (tad G 27), .ref (tad G 28), .int (tg_I st 112), .ref (tad G 29), .ref (tad G 30), .ref (tad G 31), .ref (tad G 32), .ref (tad G 33), .ref (tad G 34), .int (tg_I st 119), .int (tg_I st 120), .int (tg_I st 121), .ref (tad G 35), .ref (tad G 36), .ref (tad G 37), .int (tg_I st 125), .ref (tad G 38), .ref (tad G 39), .ref (tad G 40), .int (tg_I st 129), .int (tg_I st 130), .long (tg_L st 1)])),
  (tad G 20, .inl (G.2.1, 40, .inl (tg_A st 20))),
  (tad G 21, .inl (G.2.1, 64, .inl (tg_A st 21))),
  (tad G 22, .inl (G.2.1, 64, .inl (tg_A st 22))),
  (tad G 23, .inl (G.2.1, 64, .inl (tg_A st 23))),
  (tad G 24, .inl (G.2.1, 64, .inl (tg_A st 24))),
  (tad G 25, .inl (G.2.1, 12, .inl (tg_A st 25))),
  (tad G 26, .inl (G.2.1, 12, .inl (tg_A st 26))),
  (tad G 27, .inl (G.2.1, 12, .inl (tg_A st 27))),
  (tad G 28, .inl (G.2.2.2.1, 12, .inl (tg_A st 28))),
  (tad G 29, .inl (G.2.1, 90, .inl (tg_A st 29))),
  (tad G 30, .inl (G.2.1, 90, .inl (tg_A st 30))),
  (tad G 31, .inl (G.2.1, 90, .inl (tg_A st 31))),
  (tad G 32, .inl (G.2.1, 90, .inl (tg_A st 32))),
  (tad G 33, .inl (G.2.1, 90, .inl (tg_A st 33))),
  (tad G 34, .inl (G.2.1, 90, .inl (tg_A st 34))),
  (tad G 35, .inl (G.2.1, 64, .inl (tg_A st 35))),
  (tad G 36, .inl (G.2.2.2.1, 90, .inl (tg_A st 36))),
  (tad G 37, .inl (G.2.1, 64, .inl (tg_A st 37))),
  (tad G 38, .inl (G.2.1, 90, .inl (tg_A st 38))),
  (tad G 39, .inl (G.2.1, 90, .inl (tg_A st 39))),
  (tad G 40, .inl (G.2.1, 90, .inl (tg_A st 40)))]
def tty (G : tG) : List (ClassId × FieldType) := [(G.2.1, .int), (G.2.2.1, .long), (G.2.2.2.1, .boolean)]
def tA (G : tG) (sz : Nat) : Nat → Prop := fun q => (∃ k, q = tad G k) ∨ sz ≤ q
def tIn (G : tG) (A : Nat → Prop) (s : State) (st : tST) (H : Heap) (locs : List Loc) : Prop := va_K G.1 vwCl (tty G) s ∧ va_P G.1 vwCl (tw G st) H ∧ va_D A (tw G st) ∧ va_S A s.heap H locs
def tPw (G : tG) (sz : Nat) (st : tST) : State → Prop := fun U => U.heap.size = sz ∧ va_P G.1 vwCl (tw G st) U.heap ∧ va_K G.1 vwCl (tty G) U ∧ va_D (fun _ => True) (tw G st)
def tBw (G : tG) (A : Nat → Prop) (st : tST) : State → Prop := fun t => va_P G.1 vwCl (tw G st) t.heap ∧ va_K G.1 vwCl (tty G) t ∧ va_D A (tw G st)
def tCI (l : Launch) (G : tG) (y : MethodName) (cc : ByteArray) (mL : Nat) (ret : Option FieldType) (rm : Room) (as : List Value) (st : tST) (r : Int32) (st' : tST) : Prop := ∀ sz : Nat, Met l y (Cond.code y cc mL ret :: wsL_law) rm (va_Pc as (tPw G sz st)) (va_Qi (fun r' u => r' = r ∧ u = st') (tBw G (tA G sz)) (tA G sz)) 0 0 (tA G sz)
def tCL (l : Launch) (G : tG) (y : MethodName) (cc : ByteArray) (mL : Nat) (ret : Option FieldType) (rm : Room) (as : List Value) (st : tST) (r : Int64) (st' : tST) : Prop := ∀ sz : Nat, Met l y (Cond.code y cc mL ret :: wsL_law) rm (va_Pc as (tPw G sz st)) (va_Ql (fun r' u => r' = r ∧ u = st') (tBw G (tA G sz)) (tA G sz)) 0 0 (tA G sz)
def tCV (l : Launch) (G : tG) (y : MethodName) (cc : ByteArray) (mL : Nat) (ret : Option FieldType) (rm : Room) (as : List Value) (st : tST) (st' : tST) : Prop := ∀ sz : Nat, Met l y (Cond.code y cc mL ret :: wsL_law) rm (va_Pc as (tPw G sz st)) (va_Qv (fun u => u = st') (tBw G (tA G sz)) (tA G sz)) 0 0 (tA G sz)
def tZI (G : tG) (below : List Frame) (args : Array Value) (s : State) (r : Int32) (st' : tST) : State → Prop := MQ below (va_Qi (fun r' u => r' = r ∧ u = st') (tBw G (tA G s.heap.size)) (tA G s.heap.size)) args s 0 0 (tA G s.heap.size)
def tZL (G : tG) (below : List Frame) (args : Array Value) (s : State) (r : Int64) (st' : tST) : State → Prop := MQ below (va_Ql (fun r' u => r' = r ∧ u = st') (tBw G (tA G s.heap.size)) (tA G s.heap.size)) args s 0 0 (tA G s.heap.size)
def tZV (G : tG) (below : List Frame) (args : Array Value) (s : State) (st' : tST) : State → Prop := MQ below (va_Qv (fun u => u = st') (tBw G (tA G s.heap.size)) (tA G s.heap.size)) args s 0 0 (tA G s.heap.size)
theorem tw_fst (G : tG) (st : tST) : (tw G st).map Prod.fst = (List.range 41).map (tad G) := rfl
theorem tA_self {G : tG} {st : tST} {sz : Nat} {A : Nat → Prop} (h : va_D A (tw G st)) : va_D (tA G sz) (tw G st) := by
  refine ⟨h.1, fun k q hk => Or.inl ⟨k, ?_⟩⟩
  have h1 : ((tw G st).map Prod.fst)[k]? = some q.1 := by rw [List.getElem?_map, hk]; rfl
  rw [tw_fst, List.getElem?_map] at h1
  cases hr : (List.range 41)[k]? with
  | none => rw [hr] at h1; cases h1
  | some j =>
    rw [hr] at h1
    have hj : j = k := by
      have h2 := List.getElem?_eq_some_iff.mp hr
      obtain ⟨h3, h4⟩ := h2
      rw [List.getElem_range] at h4
      exact h4.symm
    rw [← hj]
    exact (Option.some.inj h1).symm
theorem tA_sub {G : tG} {H0 H : Heap} {A : Nat → Prop} {locs : List Loc} (hS : va_S A H0 H locs) : ∀ q, tA G H.size q → tA G H0.size q := fun _ h => h.imp id (fun h => Nat.le_trans hS.1 h)
theorem tk_bd {α β : Type} {q : Option α} {k : α → Option β} {z : β} {X : Prop} (hf : q.bind k = some z) (kk : ∀ r, q = some r → k r = some z → X) : X := by
  cases q with
  | none => cases hf
  | some a => exact kk a rfl hf
theorem tk_bd2 {α β : Type} {q : Option (α × tST)} {k : α → tST → Option β} {z : β} {X : Prop} (hf : tbd q k = some z) (kk : ∀ r st, q = some (r, st) → k r st = some z → X) : X := by
  cases q with
  | none => cases hf
  | some a => exact kk a.1 a.2 rfl hf
theorem tk_if {α : Type} {c : Prop} [Decidable c] {a b : Option α} {z : α} {X : Prop} (hf : (if c then a else b) = some z) (kt : c → a = some z → X) (kf : ¬ c → b = some z → X) : X := by
  by_cases h : c
  · rw [if_pos h] at hf; exact kt h hf
  · rw [if_neg h] at hf; exact kf h hf
theorem tk_let {α β : Type} {a : α} {k : α → Option β} {z : β} {X : Prop} (hf : tlet a k = some z) (kk : ∀ y, y = a → k y = some z → X) : X := kk a rfl hf
theorem tk_nz {α : Type} {v : Int32} {x : Option α} {z : α} {X : Prop} (hf : tnz v x = some z) (kk : ¬ v = 0 → x = some z → X) : X := by
  unfold tnz at hf
  split at hf
  · cases hf
  · next h => exact kk h hf
theorem tk_blind {G : tG} {sz : Nat} {st : tST} {as : List Value} : FrameBlind (va_Pc as (tPw G sz st)) := fun a U g mk q => by obtain ⟨q0, q1, qP, qK, qD⟩ := q; exact ⟨q0, q1, qP, va_K.moved (u := U) (U := U.calling g mk a) (Vm.Alike.refl U.vm) qK, qD⟩
theorem tk_entI {l : Launch} {G : tG} {y : MethodName} {cc : ByteArray} {mL : Nat} {ret : Option FieldType} {rm : Room} {as : List Value} {st st' : tST} {r : Int32} (hy : plainName y.cls = true) (hn : (lg_sl as).length ≤ mL) (body : ∀ (p : Program) (e : Env) (s : State) (m : MethodId) (below : List Frame) (meth : Method) (c : Code) (ls : Array Slot), CallFix p m c cc mL s as.toArray wsL_law y.cls → meth.sig.returnType = ret → meth.locks = false → tIn G (tA G s.heap.size) s st s.heap [] → lv_has ls mL (lv_args 0 as) → W p l e rm s m as.toArray below meth c s.heap [] 0 0 (tZI G below as.toArray s r st') (F0 m 0 ls [])) : tCI l G y cc mL ret rm as st r st' := by
  intro sz
  refine Met.ofW (cc := cc) (maxL := mL) (ret := ret) hy rfl ?_
  intro p e s m args below meth c s₁ B hml hv
  obtain ⟨rfl, hsz, hP, hK, hD0⟩ := hv
  have hts := atoms_spec (ws := Cond.code y cc mL ret :: wsL_law) B.pre
  subst hsz
  have hl := lv_entry as (n := mL) hn
  rw [lg_entry_eq]
  exact body p e s m below meth c _ ⟨B.exec, B.bytes, hml, findClass_of_methodNamed B.named, fun w h => hts w (List.mem_cons_of_mem _ h)⟩ B.returns B.notSynchronized ⟨hK, hP, tA_self hD0, va_S.rf⟩ hl
theorem tk_entL {l : Launch} {G : tG} {y : MethodName} {cc : ByteArray} {mL : Nat} {ret : Option FieldType} {rm : Room} {as : List Value} {st st' : tST} {r : Int64} (hy : plainName y.cls = true) (hn : (lg_sl as).length ≤ mL) (body : ∀ (p : Program) (e : Env) (s : State) (m : MethodId) (below : List Frame) (meth : Method) (c : Code) (ls : Array Slot), CallFix p m c cc mL s as.toArray wsL_law y.cls → meth.sig.returnType = ret → meth.locks = false → tIn G (tA G s.heap.size) s st s.heap [] → lv_has ls mL (lv_args 0 as) → W p l e rm s m as.toArray below meth c s.heap [] 0 0 (tZL G below as.toArray s r st') (F0 m 0 ls [])) : tCL l G y cc mL ret rm as st r st' := by
  intro sz
  refine Met.ofW (cc := cc) (maxL := mL) (ret := ret) hy rfl ?_
  intro p e s m args below meth c s₁ B hml hv
  obtain ⟨rfl, hsz, hP, hK, hD0⟩ := hv
  have hts := atoms_spec (ws := Cond.code y cc mL ret :: wsL_law) B.pre
  subst hsz
  have hl := lv_entry as (n := mL) hn
  rw [lg_entry_eq]
  exact body p e s m below meth c _ ⟨B.exec, B.bytes, hml, findClass_of_methodNamed B.named, fun w h => hts w (List.mem_cons_of_mem _ h)⟩ B.returns B.notSynchronized ⟨hK, hP, tA_self hD0, va_S.rf⟩ hl
theorem tk_entV {l : Launch} {G : tG} {y : MethodName} {cc : ByteArray} {mL : Nat} {ret : Option FieldType} {rm : Room} {as : List Value} {st st' : tST} (hy : plainName y.cls = true) (hn : (lg_sl as).length ≤ mL) (body : ∀ (p : Program) (e : Env) (s : State) (m : MethodId) (below : List Frame) (meth : Method) (c : Code) (ls : Array Slot), CallFix p m c cc mL s as.toArray wsL_law y.cls → meth.sig.returnType = ret → meth.locks = false → tIn G (tA G s.heap.size) s st s.heap [] → lv_has ls mL (lv_args 0 as) → W p l e rm s m as.toArray below meth c s.heap [] 0 0 (tZV G below as.toArray s st') (F0 m 0 ls [])) : tCV l G y cc mL ret rm as st st' := by
  intro sz
  refine Met.ofW (cc := cc) (maxL := mL) (ret := ret) hy rfl ?_
  intro p e s m args below meth c s₁ B hml hv
  obtain ⟨rfl, hsz, hP, hK, hD0⟩ := hv
  have hts := atoms_spec (ws := Cond.code y cc mL ret :: wsL_law) B.pre
  subst hsz
  have hl := lv_entry as (n := mL) hn
  rw [lg_entry_eq]
  exact body p e s m below meth c _ ⟨B.exec, B.bytes, hml, findClass_of_methodNamed B.named, fun w h => hts w (List.mem_cons_of_mem _ h)⟩ B.returns B.notSynchronized ⟨hK, hP, tA_self hD0, va_S.rf⟩ hl
theorem tk_gV {own C : String} {idx mL : Nat} {y : MethodName} {cc : ByteArray} {ret : Option FieldType} (h1 : Cond.methodLink own idx y ∈ wsL_law) (h2 : Cond.instanceMethod y ∈ wsL_law) (h3 : Cond.selects C y y ∈ wsL_law) (h4 : Cond.initialized C ∈ wsL_law) (h5 : Cond.code y cc mL ret ∈ wsL_law) : GoodIn wsL_law (wsV own idx C y (Cond.code y cc mL ret :: wsL_law)) := by
  intro w hw
  unfold wsV at hw
  simp only [List.cons_append, List.nil_append, List.mem_cons] at hw
  rcases hw with rfl | rfl | rfl | rfl | rfl | hw
  · exact tk_goodL _ h1
  · exact tk_goodL _ h2
  · exact tk_goodL _ h3
  · exact tk_goodL _ h4
  · exact tk_goodL _ h5
  · exact tk_goodL _ hw
theorem tk_gS {own : String} {idx mL : Nat} {y : MethodName} {cc : ByteArray} {ret : Option FieldType} (h1 : Cond.methodLink own idx y ∈ wsL_law) (h2 : Cond.static y ∈ wsL_law) (h4 : Cond.initialized y.cls ∈ wsL_law) (h5 : Cond.code y cc mL ret ∈ wsL_law) : GoodIn wsL_law (va_wsS own idx y (Cond.code y cc mL ret :: wsL_law)) := by
  intro w hw
  unfold va_wsS at hw
  simp only [List.cons_append, List.nil_append, List.mem_cons] at hw
  rcases hw with rfl | rfl | rfl | rfl | hw
  · exact tk_goodL _ h1
  · exact tk_goodL _ h2
  · exact tk_goodL _ h4
  · exact tk_goodL _ h5
  · exact tk_goodL _ hw
section TK
variable {p : Program} {l : Launch} {e : Env} {R : Room} {s : State} {m : MethodId} {args : Array Value} {below : List Frame} {meth : Method} {c : Code} {H : Heap} {locs : List Loc} {cells slots : Nat} {Q : State → Prop} {cc : ByteArray} {nL pc index : Nat} {ls : Array Slot} {rest : List Value} {own : String} {G : tG} {A : Nat → Prop} {st : tST}
variable {β : Type} {z : β}
theorem tk_if_eq (hx : p.tables.exec = Jvm.exec) (hb : c.code = cc) {x : Int32} {off : Int} {tgt : Nat} {a b : Option β} (hf : (if x = 0 then a else b) = some z) (hd : decode cc pc = .ok (.ifCond .eq off, 3)) (ht : (pc : Int) + off = (tgt : Int)) (kt : a = some z → W p l e R s m args below meth c H locs cells slots Q (F0 m tgt ls rest)) (kf : b = some z → W p l e R s m args below meth c H locs cells slots Q (F0 m (pc + 3) ls rest)) : W p l e R s m args below meth c H locs cells slots Q (F0 m pc ls (.int x :: rest)) :=
  lv_if_eq hx hb hd ht (fun h => kt (by rw [if_pos h] at hf; exact hf)) (fun h => kf (by rw [if_neg h] at hf; exact hf))
theorem tk_if_ne (hx : p.tables.exec = Jvm.exec) (hb : c.code = cc) {x : Int32} {off : Int} {tgt : Nat} {a b : Option β} (hf : (if x = 0 then a else b) = some z) (hd : decode cc pc = .ok (.ifCond .ne off, 3)) (ht : (pc : Int) + off = (tgt : Int)) (kt : b = some z → W p l e R s m args below meth c H locs cells slots Q (F0 m tgt ls rest)) (kf : a = some z → W p l e R s m args below meth c H locs cells slots Q (F0 m (pc + 3) ls rest)) : W p l e R s m args below meth c H locs cells slots Q (F0 m pc ls (.int x :: rest)) :=
  lv_if_ne hx hb hd ht (fun h => kt (by rw [if_neg h] at hf; exact hf)) (fun h => kf (by rw [if_pos h] at hf; exact hf))
theorem tk_if_lt (hx : p.tables.exec = Jvm.exec) (hb : c.code = cc) {x : Int32} {off : Int} {tgt : Nat} {a b : Option β} (hf : (if x < 0 then a else b) = some z) (hd : decode cc pc = .ok (.ifCond .lt off, 3)) (ht : (pc : Int) + off = (tgt : Int)) (kt : a = some z → W p l e R s m args below meth c H locs cells slots Q (F0 m tgt ls rest)) (kf : b = some z → W p l e R s m args below meth c H locs cells slots Q (F0 m (pc + 3) ls rest)) : W p l e R s m args below meth c H locs cells slots Q (F0 m pc ls (.int x :: rest)) :=
  lv_if_lt hx hb hd ht (fun h => kt (by rw [if_pos h] at hf; exact hf)) (fun h => kf (by rw [if_neg h] at hf; exact hf))
theorem tk_if_ge (hx : p.tables.exec = Jvm.exec) (hb : c.code = cc) {x : Int32} {off : Int} {tgt : Nat} {a b : Option β} (hf : (if 0 ≤ x then a else b) = some z) (hd : decode cc pc = .ok (.ifCond .ge off, 3)) (ht : (pc : Int) + off = (tgt : Int)) (kt : a = some z → W p l e R s m args below meth c H locs cells slots Q (F0 m tgt ls rest)) (kf : b = some z → W p l e R s m args below meth c H locs cells slots Q (F0 m (pc + 3) ls rest)) : W p l e R s m args below meth c H locs cells slots Q (F0 m pc ls (.int x :: rest)) :=
  lv_if_ge hx hb hd ht (fun h => kt (by rw [if_pos h] at hf; exact hf)) (fun h => kf (by rw [if_neg h] at hf; exact hf))
theorem tk_if_gt (hx : p.tables.exec = Jvm.exec) (hb : c.code = cc) {x : Int32} {off : Int} {tgt : Nat} {a b : Option β} (hf : (if 0 < x then a else b) = some z) (hd : decode cc pc = .ok (.ifCond .gt off, 3)) (ht : (pc : Int) + off = (tgt : Int)) (kt : a = some z → W p l e R s m args below meth c H locs cells slots Q (F0 m tgt ls rest)) (kf : b = some z → W p l e R s m args below meth c H locs cells slots Q (F0 m (pc + 3) ls rest)) : W p l e R s m args below meth c H locs cells slots Q (F0 m pc ls (.int x :: rest)) :=
  lv_if_gt hx hb hd ht (fun h => kt (by rw [if_pos h] at hf; exact hf)) (fun h => kf (by rw [if_neg h] at hf; exact hf))
theorem tk_if_le (hx : p.tables.exec = Jvm.exec) (hb : c.code = cc) {x : Int32} {off : Int} {tgt : Nat} {a b : Option β} (hf : (if x ≤ 0 then a else b) = some z) (hd : decode cc pc = .ok (.ifCond .le off, 3)) (ht : (pc : Int) + off = (tgt : Int)) (kt : a = some z → W p l e R s m args below meth c H locs cells slots Q (F0 m tgt ls rest)) (kf : b = some z → W p l e R s m args below meth c H locs cells slots Q (F0 m (pc + 3) ls rest)) : W p l e R s m args below meth c H locs cells slots Q (F0 m pc ls (.int x :: rest)) :=
  lv_if_le hx hb hd ht (fun h => kt (by rw [if_pos h] at hf; exact hf)) (fun h => kf (by rw [if_neg h] at hf; exact hf))
theorem tk_icmp_eq (hx : p.tables.exec = Jvm.exec) (hb : c.code = cc) {x y : Int32} {off : Int} {tgt : Nat} {a b : Option β} (hf : (if x = y then a else b) = some z) (hd : decode cc pc = .ok (.if_icmp .eq off, 3)) (ht : (pc : Int) + off = (tgt : Int)) (kt : a = some z → W p l e R s m args below meth c H locs cells slots Q (F0 m tgt ls rest)) (kf : b = some z → W p l e R s m args below meth c H locs cells slots Q (F0 m (pc + 3) ls rest)) : W p l e R s m args below meth c H locs cells slots Q (F0 m pc ls (.int y :: .int x :: rest)) :=
  lv_icmp_eq hx hb hd ht (fun h => kt (by rw [if_pos h] at hf; exact hf)) (fun h => kf (by rw [if_neg h] at hf; exact hf))
theorem tk_icmp_ne (hx : p.tables.exec = Jvm.exec) (hb : c.code = cc) {x y : Int32} {off : Int} {tgt : Nat} {a b : Option β} (hf : (if x = y then a else b) = some z) (hd : decode cc pc = .ok (.if_icmp .ne off, 3)) (ht : (pc : Int) + off = (tgt : Int)) (kt : b = some z → W p l e R s m args below meth c H locs cells slots Q (F0 m tgt ls rest)) (kf : a = some z → W p l e R s m args below meth c H locs cells slots Q (F0 m (pc + 3) ls rest)) : W p l e R s m args below meth c H locs cells slots Q (F0 m pc ls (.int y :: .int x :: rest)) :=
  lv_icmp_ne hx hb hd ht (fun h => kt (by rw [if_neg h] at hf; exact hf)) (fun h => kf (by rw [if_pos h] at hf; exact hf))
theorem tk_icmp_lt (hx : p.tables.exec = Jvm.exec) (hb : c.code = cc) {x y : Int32} {off : Int} {tgt : Nat} {a b : Option β} (hf : (if x < y then a else b) = some z) (hd : decode cc pc = .ok (.if_icmp .lt off, 3)) (ht : (pc : Int) + off = (tgt : Int)) (kt : a = some z → W p l e R s m args below meth c H locs cells slots Q (F0 m tgt ls rest)) (kf : b = some z → W p l e R s m args below meth c H locs cells slots Q (F0 m (pc + 3) ls rest)) : W p l e R s m args below meth c H locs cells slots Q (F0 m pc ls (.int y :: .int x :: rest)) :=
  lv_icmp_lt hx hb hd ht (fun h => kt (by rw [if_pos h] at hf; exact hf)) (fun h => kf (by rw [if_neg h] at hf; exact hf))
theorem tk_icmp_ge (hx : p.tables.exec = Jvm.exec) (hb : c.code = cc) {x y : Int32} {off : Int} {tgt : Nat} {a b : Option β} (hf : (if y ≤ x then a else b) = some z) (hd : decode cc pc = .ok (.if_icmp .ge off, 3)) (ht : (pc : Int) + off = (tgt : Int)) (kt : a = some z → W p l e R s m args below meth c H locs cells slots Q (F0 m tgt ls rest)) (kf : b = some z → W p l e R s m args below meth c H locs cells slots Q (F0 m (pc + 3) ls rest)) : W p l e R s m args below meth c H locs cells slots Q (F0 m pc ls (.int y :: .int x :: rest)) :=
  lv_icmp_ge hx hb hd ht (fun h => kt (by rw [if_pos h] at hf; exact hf)) (fun h => kf (by rw [if_neg h] at hf; exact hf))
theorem tk_icmp_gt (hx : p.tables.exec = Jvm.exec) (hb : c.code = cc) {x y : Int32} {off : Int} {tgt : Nat} {a b : Option β} (hf : (if y < x then a else b) = some z) (hd : decode cc pc = .ok (.if_icmp .gt off, 3)) (ht : (pc : Int) + off = (tgt : Int)) (kt : a = some z → W p l e R s m args below meth c H locs cells slots Q (F0 m tgt ls rest)) (kf : b = some z → W p l e R s m args below meth c H locs cells slots Q (F0 m (pc + 3) ls rest)) : W p l e R s m args below meth c H locs cells slots Q (F0 m pc ls (.int y :: .int x :: rest)) :=
  lv_icmp_gt hx hb hd ht (fun h => kt (by rw [if_pos h] at hf; exact hf)) (fun h => kf (by rw [if_neg h] at hf; exact hf))
theorem tk_icmp_le (hx : p.tables.exec = Jvm.exec) (hb : c.code = cc) {x y : Int32} {off : Int} {tgt : Nat} {a b : Option β} (hf : (if x ≤ y then a else b) = some z) (hd : decode cc pc = .ok (.if_icmp .le off, 3)) (ht : (pc : Int) + off = (tgt : Int)) (kt : a = some z → W p l e R s m args below meth c H locs cells slots Q (F0 m tgt ls rest)) (kf : b = some z → W p l e R s m args below meth c H locs cells slots Q (F0 m (pc + 3) ls rest)) : W p l e R s m args below meth c H locs cells slots Q (F0 m pc ls (.int y :: .int x :: rest)) :=
  lv_icmp_le hx hb hd ht (fun h => kt (by rw [if_pos h] at hf; exact hf)) (fun h => kf (by rw [if_neg h] at hf; exact hf))
theorem tk_topi {x : Int32} {k : Int32 → Option β} (hf : tlet x k = some z) (kk : ∀ y : Int32, k y = some z → W p l e R s m args below meth c H locs cells slots Q (F0 m pc ls (.int y :: rest))) : W p l e R s m args below meth c H locs cells slots Q (F0 m pc ls (.int x :: rest)) := kk x hf
theorem tk_topl {x : Int64} {k : Int64 → Option β} (hf : tlet x k = some z) (kk : ∀ y : Int64, k y = some z → W p l e R s m args below meth c H locs cells slots Q (F0 m pc ls (.long y :: rest))) : W p l e R s m args below meth c H locs cells slots Q (F0 m pc ls (.long x :: rest)) := kk x hf
theorem tk_iald (S : CallFix p m c cc nL s args wsL_law own) (hI : tIn G A s st H locs) {k n : Nat} (ha : (tw G st)[k]? = some (tad G k, .inl (G.2.1, n, .inl (tg_A st k)))) {i : Int32} {kk : Int32 → Option β} (hf : tal n (tg_A st k) i kk = some z) (hd : decode cc pc = .ok (.iaload, 1)) (kn : ∀ v : Int32, kk v = some z → W p l e R s m args below meth c H locs cells slots Q (F0 m (pc + 1) ls (.int v :: rest))) : W p l e R s m args below meth c H locs cells slots Q (F0 m pc ls (.int i :: .ref (tad G k) :: rest)) := by
  unfold tal at hf
  split at hf
  · cases hf
  · next h => exact va_iald S.1 S.2.1 hI.1 hI.2.1 k 0 ha rfl h hd (kn _ hf)
theorem tk_zald (S : CallFix p m c cc nL s args wsL_law own) (hI : tIn G A s st H locs) {k n : Nat} (ha : (tw G st)[k]? = some (tad G k, .inl (G.2.2.2.1, n, .inl (tg_A st k)))) {i : Int32} {kk : Int32 → Option β} (hf : tal n (tg_A st k) i kk = some z) (hd : decode cc pc = .ok (.baload, 1)) (kn : ∀ v : Int32, kk v = some z → W p l e R s m args below meth c H locs cells slots Q (F0 m (pc + 1) ls (.int v :: rest))) : W p l e R s m args below meth c H locs cells slots Q (F0 m pc ls (.int i :: .ref (tad G k) :: rest)) := by
  unfold tal at hf
  split at hf
  · cases hf
  · next h => exact va_zald S.1 S.2.1 hI.1 hI.2.1 k 2 ha rfl h hd (kn _ hf)
theorem tk_lald (S : CallFix p m c cc nL s args wsL_law own) (hI : tIn G A s st H locs) {k n : Nat} (ha : (tw G st)[k]? = some (tad G k, .inl (G.2.2.1, n, .inr (.inl (tg_B st k))))) {i : Int32} {kk : Int64 → Option β} (hf : tal n (tg_B st k) i kk = some z) (hd : decode cc pc = .ok (.laload, 1)) (kn : ∀ v : Int64, kk v = some z → W p l e R s m args below meth c H locs cells slots Q (F0 m (pc + 1) ls (.long v :: rest))) : W p l e R s m args below meth c H locs cells slots Q (F0 m pc ls (.int i :: .ref (tad G k) :: rest)) := by
  unfold tal at hf
  split at hf
  · cases hf
  · next h => exact va_lald S.1 S.2.1 hI.1 hI.2.1 k 1 ha rfl h hd (kn _ hf)
theorem tk_iast (S : CallFix p m c cc nL s args wsL_law own) (hI : tIn G A s st H locs) {k n : Nat} (ha : (tw G st)[k]? = some (tad G k, .inl (G.2.1, n, .inl (tg_A st k)))) (hs : ∀ (j : Nat) (y : Int32), (tw G st).set k (tad G k, .inl (G.2.1, n, .inl (upd (tg_A st k) j y))) = tw G (tp_A st k j y)) {i : Int32} {x : Int32} {kk : tST → Option β} (hf : tas n i (tp_A st k i.toNatClampNeg x) kk = some z) (hd : decode cc pc = .ok (.iastore, 1)) (kn : ∀ (st1 : tST) (H1 : Heap) (locs1 : List Loc), tIn G A s st1 H1 locs1 → kk st1 = some z → W p l e R s m args below meth c H1 locs1 cells slots Q (F0 m (pc + 1) ls rest)) : W p l e R s m args below meth c H locs cells slots Q (F0 m pc ls (.int x :: .int i :: .ref (tad G k) :: rest)) := by
  unfold tas at hf
  split at hf
  · cases hf
  · next h => exact va_iast S.1 S.2.1 hI.1 hI.2.1 hI.2.2.1 hI.2.2.2 k 0 ha rfl h hd (fun H1 locs1 hP hD hS => kn _ H1 locs1 ⟨hI.1, by rw [← hs]; exact hP, by rw [← hs]; exact hD, hS⟩ hf)
theorem tk_zast (S : CallFix p m c cc nL s args wsL_law own) (hI : tIn G A s st H locs) {k n : Nat} (ha : (tw G st)[k]? = some (tad G k, .inl (G.2.2.2.1, n, .inl (tg_A st k)))) (hs : ∀ (j : Nat) (y : Int32), (tw G st).set k (tad G k, .inl (G.2.2.2.1, n, .inl (upd (tg_A st k) j y))) = tw G (tp_A st k j y)) {i : Int32} {x : Int32} {kk : tST → Option β} (hf : tas n i (tp_A st k i.toNatClampNeg (vp_nar .boolean x)) kk = some z) (hd : decode cc pc = .ok (.bastore, 1)) (kn : ∀ (st1 : tST) (H1 : Heap) (locs1 : List Loc), tIn G A s st1 H1 locs1 → kk st1 = some z → W p l e R s m args below meth c H1 locs1 cells slots Q (F0 m (pc + 1) ls rest)) : W p l e R s m args below meth c H locs cells slots Q (F0 m pc ls (.int x :: .int i :: .ref (tad G k) :: rest)) := by
  unfold tas at hf
  split at hf
  · cases hf
  · next h => exact va_zast S.1 S.2.1 hI.1 hI.2.1 hI.2.2.1 hI.2.2.2 k 2 ha rfl h hd (fun H1 locs1 hP hD hS => kn _ H1 locs1 ⟨hI.1, by rw [← hs]; exact hP, by rw [← hs]; exact hD, hS⟩ hf)
theorem tk_last (S : CallFix p m c cc nL s args wsL_law own) (hI : tIn G A s st H locs) {k n : Nat} (ha : (tw G st)[k]? = some (tad G k, .inl (G.2.2.1, n, .inr (.inl (tg_B st k))))) (hs : ∀ (j : Nat) (y : Int64), (tw G st).set k (tad G k, .inl (G.2.2.1, n, .inr (.inl (vp_updL (tg_B st k) j y)))) = tw G (tp_B st k j y)) {i : Int32} {x : Int64} {kk : tST → Option β} (hf : tas n i (tp_B st k i.toNatClampNeg x) kk = some z) (hd : decode cc pc = .ok (.lastore, 1)) (kn : ∀ (st1 : tST) (H1 : Heap) (locs1 : List Loc), tIn G A s st1 H1 locs1 → kk st1 = some z → W p l e R s m args below meth c H1 locs1 cells slots Q (F0 m (pc + 1) ls rest)) : W p l e R s m args below meth c H locs cells slots Q (F0 m pc ls (.long x :: .int i :: .ref (tad G k) :: rest)) := by
  unfold tas at hf
  split at hf
  · cases hf
  · next h => exact va_last S.1 S.2.1 hI.1 hI.2.1 hI.2.2.1 hI.2.2.2 k 1 ha rfl h hd (fun H1 locs1 hP hD hS => kn _ H1 locs1 ⟨hI.1, by rw [← hs]; exact hP, by rw [← hs]; exact hD, hS⟩ hf)
theorem tg_X0_0 (S : CallFix p m c cc nL s args wsL_law own) (hI : tIn G A s st H locs) (hm : Cond.fieldLink own index "TrackedLetters$Changes" "kindOf" "[I" ∈ wsL_law) (hd : decode cc pc = .ok (.getfield index, 3)) (kk : W p l e R s m args below meth c H locs cells slots Q (F0 m (pc + 3) ls (.ref (tad G 9) :: rest))) : W p l e R s m args below meth c H locs cells slots Q (F0 m pc ls (.ref (tad G 8) :: rest)) :=
  va_get (D := G.1) (ci := 0) (C := RX0) (T := TX0) (N := 6) S.1 S.2.1 S.2.2.2.2 inlX0 S.2.2.2.1 hI.1 hI.2.1 8 rfl rfl 0 (by decide) (S.2.2.2.2 _ hm) (fun _ h => h) rfl hd kk
theorem tg_X0_1 (S : CallFix p m c cc nL s args wsL_law own) (hI : tIn G A s st H locs) (hm : Cond.fieldLink own index "TrackedLetters$Changes" "authorOf" "[I" ∈ wsL_law) (hd : decode cc pc = .ok (.getfield index, 3)) (kk : W p l e R s m args below meth c H locs cells slots Q (F0 m (pc + 3) ls (.ref (tad G 10) :: rest))) : W p l e R s m args below meth c H locs cells slots Q (F0 m pc ls (.ref (tad G 8) :: rest)) :=
  va_get (D := G.1) (ci := 0) (C := RX0) (T := TX0) (N := 6) S.1 S.2.1 S.2.2.2.2 inlX0 S.2.2.2.1 hI.1 hI.2.1 8 rfl rfl 1 (by decide) (S.2.2.2.2 _ hm) (fun _ h => h) rfl hd kk
theorem tg_X0_2 (S : CallFix p m c cc nL s args wsL_law own) (hI : tIn G A s st H locs) (hm : Cond.fieldLink own index "TrackedLetters$Changes" "statusOf" "[I" ∈ wsL_law) (hd : decode cc pc = .ok (.getfield index, 3)) (kk : W p l e R s m args below meth c H locs cells slots Q (F0 m (pc + 3) ls (.ref (tad G 11) :: rest))) : W p l e R s m args below meth c H locs cells slots Q (F0 m pc ls (.ref (tad G 8) :: rest)) :=
  va_get (D := G.1) (ci := 0) (C := RX0) (T := TX0) (N := 6) S.1 S.2.1 S.2.2.2.2 inlX0 S.2.2.2.1 hI.1 hI.2.1 8 rfl rfl 2 (by decide) (S.2.2.2.2 _ hm) (fun _ h => h) rfl hd kk
theorem tg_X0_3 (S : CallFix p m c cc nL s args wsL_law own) (hI : tIn G A s st H locs) (hm : Cond.fieldLink own index "TrackedLetters$Changes" "shownOf" "[I" ∈ wsL_law) (hd : decode cc pc = .ok (.getfield index, 3)) (kk : W p l e R s m args below meth c H locs cells slots Q (F0 m (pc + 3) ls (.ref (tad G 12) :: rest))) : W p l e R s m args below meth c H locs cells slots Q (F0 m pc ls (.ref (tad G 8) :: rest)) :=
  va_get (D := G.1) (ci := 0) (C := RX0) (T := TX0) (N := 6) S.1 S.2.1 S.2.2.2.2 inlX0 S.2.2.2.1 hI.1 hI.2.1 8 rfl rfl 3 (by decide) (S.2.2.2.2 _ hm) (fun _ h => h) rfl hd kk
theorem tg_X0_4 (S : CallFix p m c cc nL s args wsL_law own) (hI : tIn G A s st H locs) (hm : Cond.fieldLink own index "TrackedLetters$Changes" "touchedBy" "[J" ∈ wsL_law) (hd : decode cc pc = .ok (.getfield index, 3)) (kk : W p l e R s m args below meth c H locs cells slots Q (F0 m (pc + 3) ls (.ref (tad G 13) :: rest))) : W p l e R s m args below meth c H locs cells slots Q (F0 m pc ls (.ref (tad G 8) :: rest)) :=
  va_get (D := G.1) (ci := 0) (C := RX0) (T := TX0) (N := 6) S.1 S.2.1 S.2.2.2.2 inlX0 S.2.2.2.1 hI.1 hI.2.1 8 rfl rfl 4 (by decide) (S.2.2.2.2 _ hm) (fun _ h => h) rfl hd kk
theorem tg_X0_5 (S : CallFix p m c cc nL s args wsL_law own) (hI : tIn G A s st H locs) (hm : Cond.fieldLink own index "TrackedLetters$Changes" "size" "I" ∈ wsL_law) (hd : decode cc pc = .ok (.getfield index, 3)) (kk : W p l e R s m args below meth c H locs cells slots Q (F0 m (pc + 3) ls (.int (tg_I st 7) :: rest))) : W p l e R s m args below meth c H locs cells slots Q (F0 m pc ls (.ref (tad G 8) :: rest)) :=
  va_get (D := G.1) (ci := 0) (C := RX0) (T := TX0) (N := 6) S.1 S.2.1 S.2.2.2.2 inlX0 S.2.2.2.1 hI.1 hI.2.1 8 rfl rfl 5 (by decide) (S.2.2.2.2 _ hm) (fun _ h => h) rfl hd kk
theorem tp_X0_5 (S : CallFix p m c cc nL s args wsL_law own) (hI : tIn G A s st H locs) (hm : Cond.fieldLink own index "TrackedLetters$Changes" "size" "I" ∈ wsL_law) {v : Int32} {kk : tST → Option β} (hf : tlet (tp_I st 7 v) kk = some z) (hd : decode cc pc = .ok (.putfield index, 3)) (kn : ∀ (st1 : tST) (H1 : Heap) (locs1 : List Loc), tIn G A s st1 H1 locs1 → kk st1 = some z → W p l e R s m args below meth c H1 locs1 cells slots Q (F0 m (pc + 3) ls rest)) : W p l e R s m args below meth c H locs cells slots Q (F0 m pc ls (.int v :: .ref (tad G 8) :: rest)) :=
  va_put (D := G.1) (ci := 0) (v := .int v) (ty := .int) (C := RX0) (T := TX0) (N := 6) S.1 S.2.1 S.2.2.2.2 inlX0 tyX0 tyX0_ok nmX0 S.2.2.2.1 hI.1 hI.2.1 hI.2.2.1 hI.2.2.2 8 rfl rfl 5 (by decide) (S.2.2.2.2 _ hm) (fun _ h => h) rfl (by decide +kernel) rfl rfl (Nat.le_of_ble_eq_true rfl) hd (fun H1 locs1 hP hD hS => kn (tp_I st 7 v) H1 locs1 ⟨hI.1, hP, hD, hS⟩ hf)
theorem tg_X1_0 (S : CallFix p m c cc nL s args wsL_law own) (hI : tIn G A s st H locs) (hm : Cond.fieldLink own index "TrackedLetters$Line" "letterOf" "[I" ∈ wsL_law) (hd : decode cc pc = .ok (.getfield index, 3)) (kk : W p l e R s m args below meth c H locs cells slots Q (F0 m (pc + 3) ls (.ref (tad G 4) :: rest))) : W p l e R s m args below meth c H locs cells slots Q (F0 m pc ls (.ref (tad G 3) :: rest)) :=
  va_get (D := G.1) (ci := 1) (C := RX1) (T := TX1) (N := 5) S.1 S.2.1 S.2.2.2.2 inlX1 S.2.2.2.1 hI.1 hI.2.1 3 rfl rfl 0 (by decide) (S.2.2.2.2 _ hm) (fun _ h => h) rfl hd kk
theorem tg_X1_1 (S : CallFix p m c cc nL s args wsL_law own) (hI : tIn G A s st H locs) (hm : Cond.fieldLink own index "TrackedLetters$Line" "fromOf" "[I" ∈ wsL_law) (hd : decode cc pc = .ok (.getfield index, 3)) (kk : W p l e R s m args below meth c H locs cells slots Q (F0 m (pc + 3) ls (.ref (tad G 5) :: rest))) : W p l e R s m args below meth c H locs cells slots Q (F0 m pc ls (.ref (tad G 3) :: rest)) :=
  va_get (D := G.1) (ci := 1) (C := RX1) (T := TX1) (N := 5) S.1 S.2.1 S.2.2.2.2 inlX1 S.2.2.2.1 hI.1 hI.2.1 3 rfl rfl 1 (by decide) (S.2.2.2.2 _ hm) (fun _ h => h) rfl hd kk
theorem tg_X1_2 (S : CallFix p m c cc nL s args wsL_law own) (hI : tIn G A s st H locs) (hm : Cond.fieldLink own index "TrackedLetters$Line" "byOf" "[I" ∈ wsL_law) (hd : decode cc pc = .ok (.getfield index, 3)) (kk : W p l e R s m args below meth c H locs cells slots Q (F0 m (pc + 3) ls (.ref (tad G 6) :: rest))) : W p l e R s m args below meth c H locs cells slots Q (F0 m pc ls (.ref (tad G 3) :: rest)) :=
  va_get (D := G.1) (ci := 1) (C := RX1) (T := TX1) (N := 5) S.1 S.2.1 S.2.2.2.2 inlX1 S.2.2.2.1 hI.1 hI.2.1 3 rfl rfl 2 (by decide) (S.2.2.2.2 _ hm) (fun _ h => h) rfl hd kk
theorem tg_X1_3 (S : CallFix p m c cc nL s args wsL_law own) (hI : tIn G A s st H locs) (hm : Cond.fieldLink own index "TrackedLetters$Line" "onwardOf" "[I" ∈ wsL_law) (hd : decode cc pc = .ok (.getfield index, 3)) (kk : W p l e R s m args below meth c H locs cells slots Q (F0 m (pc + 3) ls (.ref (tad G 7) :: rest))) : W p l e R s m args below meth c H locs cells slots Q (F0 m pc ls (.ref (tad G 3) :: rest)) :=
  va_get (D := G.1) (ci := 1) (C := RX1) (T := TX1) (N := 5) S.1 S.2.1 S.2.2.2.2 inlX1 S.2.2.2.1 hI.1 hI.2.1 3 rfl rfl 3 (by decide) (S.2.2.2.2 _ hm) (fun _ h => h) rfl hd kk
theorem tg_X1_4 (S : CallFix p m c cc nL s args wsL_law own) (hI : tIn G A s st H locs) (hm : Cond.fieldLink own index "TrackedLetters$Line" "size" "I" ∈ wsL_law) (hd : decode cc pc = .ok (.getfield index, 3)) (kk : W p l e R s m args below meth c H locs cells slots Q (F0 m (pc + 3) ls (.int (tg_I st 6) :: rest))) : W p l e R s m args below meth c H locs cells slots Q (F0 m pc ls (.ref (tad G 3) :: rest)) :=
  va_get (D := G.1) (ci := 1) (C := RX1) (T := TX1) (N := 5) S.1 S.2.1 S.2.2.2.2 inlX1 S.2.2.2.1 hI.1 hI.2.1 3 rfl rfl 4 (by decide) (S.2.2.2.2 _ hm) (fun _ h => h) rfl hd kk
theorem tp_X1_4 (S : CallFix p m c cc nL s args wsL_law own) (hI : tIn G A s st H locs) (hm : Cond.fieldLink own index "TrackedLetters$Line" "size" "I" ∈ wsL_law) {v : Int32} {kk : tST → Option β} (hf : tlet (tp_I st 6 v) kk = some z) (hd : decode cc pc = .ok (.putfield index, 3)) (kn : ∀ (st1 : tST) (H1 : Heap) (locs1 : List Loc), tIn G A s st1 H1 locs1 → kk st1 = some z → W p l e R s m args below meth c H1 locs1 cells slots Q (F0 m (pc + 3) ls rest)) : W p l e R s m args below meth c H locs cells slots Q (F0 m pc ls (.int v :: .ref (tad G 3) :: rest)) :=
  va_put (D := G.1) (ci := 1) (v := .int v) (ty := .int) (C := RX1) (T := TX1) (N := 5) S.1 S.2.1 S.2.2.2.2 inlX1 tyX1 tyX1_ok nmX1 S.2.2.2.1 hI.1 hI.2.1 hI.2.2.1 hI.2.2.2 3 rfl rfl 4 (by decide) (S.2.2.2.2 _ hm) (fun _ h => h) rfl (by decide +kernel) rfl rfl (Nat.le_of_ble_eq_true rfl) hd (fun H1 locs1 hP hD hS => kn (tp_I st 6 v) H1 locs1 ⟨hI.1, hP, hD, hS⟩ hf)
theorem tg_X2_0 (S : CallFix p m c cc nL s args wsL_law own) (hI : tIn G A s st H locs) (hm : Cond.fieldLink own index "TrackedLetters$Spans" "markOf" "[I" ∈ wsL_law) (hd : decode cc pc = .ok (.getfield index, 3)) (kk : W p l e R s m args below meth c H locs cells slots Q (F0 m (pc + 3) ls (.ref (tad G 15) :: rest))) : W p l e R s m args below meth c H locs cells slots Q (F0 m pc ls (.ref (tad G 14) :: rest)) :=
  va_get (D := G.1) (ci := 2) (C := RX2) (T := TX2) (N := 4) S.1 S.2.1 S.2.2.2.2 inlX2 S.2.2.2.1 hI.1 hI.2.1 14 rfl rfl 0 (by decide) (S.2.2.2.2 _ hm) (fun _ h => h) rfl hd kk
theorem tg_X2_1 (S : CallFix p m c cc nL s args wsL_law own) (hI : tIn G A s st H locs) (hm : Cond.fieldLink own index "TrackedLetters$Spans" "placesOf" "[I" ∈ wsL_law) (hd : decode cc pc = .ok (.getfield index, 3)) (kk : W p l e R s m args below meth c H locs cells slots Q (F0 m (pc + 3) ls (.ref (tad G 16) :: rest))) : W p l e R s m args below meth c H locs cells slots Q (F0 m pc ls (.ref (tad G 14) :: rest)) :=
  va_get (D := G.1) (ci := 2) (C := RX2) (T := TX2) (N := 4) S.1 S.2.1 S.2.2.2.2 inlX2 S.2.2.2.1 hI.1 hI.2.1 14 rfl rfl 1 (by decide) (S.2.2.2.2 _ hm) (fun _ h => h) rfl hd kk
theorem tg_X2_2 (S : CallFix p m c cc nL s args wsL_law own) (hI : tIn G A s st H locs) (hm : Cond.fieldLink own index "TrackedLetters$Spans" "startOf" "[I" ∈ wsL_law) (hd : decode cc pc = .ok (.getfield index, 3)) (kk : W p l e R s m args below meth c H locs cells slots Q (F0 m (pc + 3) ls (.ref (tad G 17) :: rest))) : W p l e R s m args below meth c H locs cells slots Q (F0 m pc ls (.ref (tad G 14) :: rest)) :=
  va_get (D := G.1) (ci := 2) (C := RX2) (T := TX2) (N := 4) S.1 S.2.1 S.2.2.2.2 inlX2 S.2.2.2.1 hI.1 hI.2.1 14 rfl rfl 2 (by decide) (S.2.2.2.2 _ hm) (fun _ h => h) rfl hd kk
theorem tg_X2_3 (S : CallFix p m c cc nL s args wsL_law own) (hI : tIn G A s st H locs) (hm : Cond.fieldLink own index "TrackedLetters$Spans" "size" "I" ∈ wsL_law) (hd : decode cc pc = .ok (.getfield index, 3)) (kk : W p l e R s m args below meth c H locs cells slots Q (F0 m (pc + 3) ls (.int (tg_I st 8) :: rest))) : W p l e R s m args below meth c H locs cells slots Q (F0 m pc ls (.ref (tad G 14) :: rest)) :=
  va_get (D := G.1) (ci := 2) (C := RX2) (T := TX2) (N := 4) S.1 S.2.1 S.2.2.2.2 inlX2 S.2.2.2.1 hI.1 hI.2.1 14 rfl rfl 3 (by decide) (S.2.2.2.2 _ hm) (fun _ h => h) rfl hd kk
theorem tp_X2_3 (S : CallFix p m c cc nL s args wsL_law own) (hI : tIn G A s st H locs) (hm : Cond.fieldLink own index "TrackedLetters$Spans" "size" "I" ∈ wsL_law) {v : Int32} {kk : tST → Option β} (hf : tlet (tp_I st 8 v) kk = some z) (hd : decode cc pc = .ok (.putfield index, 3)) (kn : ∀ (st1 : tST) (H1 : Heap) (locs1 : List Loc), tIn G A s st1 H1 locs1 → kk st1 = some z → W p l e R s m args below meth c H1 locs1 cells slots Q (F0 m (pc + 3) ls rest)) : W p l e R s m args below meth c H locs cells slots Q (F0 m pc ls (.int v :: .ref (tad G 14) :: rest)) :=
  va_put (D := G.1) (ci := 2) (v := .int v) (ty := .int) (C := RX2) (T := TX2) (N := 4) S.1 S.2.1 S.2.2.2.2 inlX2 tyX2 tyX2_ok nmX2 S.2.2.2.1 hI.1 hI.2.1 hI.2.2.1 hI.2.2.2 14 rfl rfl 3 (by decide) (S.2.2.2.2 _ hm) (fun _ h => h) rfl (by decide +kernel) rfl rfl (Nat.le_of_ble_eq_true rfl) hd (fun H1 locs1 hP hD hS => kn (tp_I st 8 v) H1 locs1 ⟨hI.1, hP, hD, hS⟩ hf)
theorem tg_X3_0 (S : CallFix p m c cc nL s args wsL_law own) (hI : tIn G A s st H locs) (hm : Cond.fieldLink own index "TrackedLetters" "page" "[I" ∈ wsL_law) (hd : decode cc pc = .ok (.getfield index, 3)) (kk : W p l e R s m args below meth c H locs cells slots Q (F0 m (pc + 3) ls (.ref (tad G 1) :: rest))) : W p l e R s m args below meth c H locs cells slots Q (F0 m pc ls (.ref (tad G 0) :: rest)) :=
  va_get (D := G.1) (ci := 3) (C := RX3) (T := TX3) (N := 13) S.1 S.2.1 S.2.2.2.2 inlX3 S.2.2.2.1 hI.1 hI.2.1 0 rfl rfl 0 (by decide) (S.2.2.2.2 _ hm) (fun _ h => h) rfl hd kk
theorem tg_X3_1 (S : CallFix p m c cc nL s args wsL_law own) (hI : tIn G A s st H locs) (hm : Cond.fieldLink own index "TrackedLetters" "pageSize" "I" ∈ wsL_law) (hd : decode cc pc = .ok (.getfield index, 3)) (kk : W p l e R s m args below meth c H locs cells slots Q (F0 m (pc + 3) ls (.int (tg_I st 0) :: rest))) : W p l e R s m args below meth c H locs cells slots Q (F0 m pc ls (.ref (tad G 0) :: rest)) :=
  va_get (D := G.1) (ci := 3) (C := RX3) (T := TX3) (N := 13) S.1 S.2.1 S.2.2.2.2 inlX3 S.2.2.2.1 hI.1 hI.2.1 0 rfl rfl 1 (by decide) (S.2.2.2.2 _ hm) (fun _ h => h) rfl hd kk
theorem tp_X3_1 (S : CallFix p m c cc nL s args wsL_law own) (hI : tIn G A s st H locs) (hm : Cond.fieldLink own index "TrackedLetters" "pageSize" "I" ∈ wsL_law) {v : Int32} {kk : tST → Option β} (hf : tlet (tp_I st 0 v) kk = some z) (hd : decode cc pc = .ok (.putfield index, 3)) (kn : ∀ (st1 : tST) (H1 : Heap) (locs1 : List Loc), tIn G A s st1 H1 locs1 → kk st1 = some z → W p l e R s m args below meth c H1 locs1 cells slots Q (F0 m (pc + 3) ls rest)) : W p l e R s m args below meth c H locs cells slots Q (F0 m pc ls (.int v :: .ref (tad G 0) :: rest)) :=
  va_put (D := G.1) (ci := 3) (v := .int v) (ty := .int) (C := RX3) (T := TX3) (N := 13) S.1 S.2.1 S.2.2.2.2 inlX3 tyX3 tyX3_ok nmX3 S.2.2.2.1 hI.1 hI.2.1 hI.2.2.1 hI.2.2.2 0 rfl rfl 1 (by decide) (S.2.2.2.2 _ hm) (fun _ h => h) rfl (by decide +kernel) rfl rfl (Nat.le_of_ble_eq_true rfl) hd (fun H1 locs1 hP hD hS => kn (tp_I st 0 v) H1 locs1 ⟨hI.1, hP, hD, hS⟩ hf)
theorem tg_X3_2 (S : CallFix p m c cc nL s args wsL_law own) (hI : tIn G A s st H locs) (hm : Cond.fieldLink own index "TrackedLetters" "codeOf" "[I" ∈ wsL_law) (hd : decode cc pc = .ok (.getfield index, 3)) (kk : W p l e R s m args below meth c H locs cells slots Q (F0 m (pc + 3) ls (.ref (tad G 2) :: rest))) : W p l e R s m args below meth c H locs cells slots Q (F0 m pc ls (.ref (tad G 0) :: rest)) :=
  va_get (D := G.1) (ci := 3) (C := RX3) (T := TX3) (N := 13) S.1 S.2.1 S.2.2.2.2 inlX3 S.2.2.2.1 hI.1 hI.2.1 0 rfl rfl 2 (by decide) (S.2.2.2.2 _ hm) (fun _ h => h) rfl hd kk
theorem tg_X3_3 (S : CallFix p m c cc nL s args wsL_law own) (hI : tIn G A s st H locs) (hm : Cond.fieldLink own index "TrackedLetters" "letters" "I" ∈ wsL_law) (hd : decode cc pc = .ok (.getfield index, 3)) (kk : W p l e R s m args below meth c H locs cells slots Q (F0 m (pc + 3) ls (.int (tg_I st 1) :: rest))) : W p l e R s m args below meth c H locs cells slots Q (F0 m pc ls (.ref (tad G 0) :: rest)) :=
  va_get (D := G.1) (ci := 3) (C := RX3) (T := TX3) (N := 13) S.1 S.2.1 S.2.2.2.2 inlX3 S.2.2.2.1 hI.1 hI.2.1 0 rfl rfl 3 (by decide) (S.2.2.2.2 _ hm) (fun _ h => h) rfl hd kk
theorem tp_X3_3 (S : CallFix p m c cc nL s args wsL_law own) (hI : tIn G A s st H locs) (hm : Cond.fieldLink own index "TrackedLetters" "letters" "I" ∈ wsL_law) {v : Int32} {kk : tST → Option β} (hf : tlet (tp_I st 1 v) kk = some z) (hd : decode cc pc = .ok (.putfield index, 3)) (kn : ∀ (st1 : tST) (H1 : Heap) (locs1 : List Loc), tIn G A s st1 H1 locs1 → kk st1 = some z → W p l e R s m args below meth c H1 locs1 cells slots Q (F0 m (pc + 3) ls rest)) : W p l e R s m args below meth c H locs cells slots Q (F0 m pc ls (.int v :: .ref (tad G 0) :: rest)) :=
  va_put (D := G.1) (ci := 3) (v := .int v) (ty := .int) (C := RX3) (T := TX3) (N := 13) S.1 S.2.1 S.2.2.2.2 inlX3 tyX3 tyX3_ok nmX3 S.2.2.2.1 hI.1 hI.2.1 hI.2.2.1 hI.2.2.2 0 rfl rfl 3 (by decide) (S.2.2.2.2 _ hm) (fun _ h => h) rfl (by decide +kernel) rfl rfl (Nat.le_of_ble_eq_true rfl) hd (fun H1 locs1 hP hD hS => kn (tp_I st 1 v) H1 locs1 ⟨hI.1, hP, hD, hS⟩ hf)
theorem tg_X3_4 (S : CallFix p m c cc nL s args wsL_law own) (hI : tIn G A s st H locs) (hm : Cond.fieldLink own index "TrackedLetters" "firstText" "J" ∈ wsL_law) (hd : decode cc pc = .ok (.getfield index, 3)) (kk : W p l e R s m args below meth c H locs cells slots Q (F0 m (pc + 3) ls (.long (tg_L st 0) :: rest))) : W p l e R s m args below meth c H locs cells slots Q (F0 m pc ls (.ref (tad G 0) :: rest)) :=
  va_get (D := G.1) (ci := 3) (C := RX3) (T := TX3) (N := 13) S.1 S.2.1 S.2.2.2.2 inlX3 S.2.2.2.1 hI.1 hI.2.1 0 rfl rfl 4 (by decide) (S.2.2.2.2 _ hm) (fun _ h => h) rfl hd kk
theorem tp_X3_4 (S : CallFix p m c cc nL s args wsL_law own) (hI : tIn G A s st H locs) (hm : Cond.fieldLink own index "TrackedLetters" "firstText" "J" ∈ wsL_law) {v : Int64} {kk : tST → Option β} (hf : tlet (tp_L st 0 v) kk = some z) (hd : decode cc pc = .ok (.putfield index, 3)) (kn : ∀ (st1 : tST) (H1 : Heap) (locs1 : List Loc), tIn G A s st1 H1 locs1 → kk st1 = some z → W p l e R s m args below meth c H1 locs1 cells slots Q (F0 m (pc + 3) ls rest)) : W p l e R s m args below meth c H locs cells slots Q (F0 m pc ls (.long v :: .ref (tad G 0) :: rest)) :=
  va_put (D := G.1) (ci := 3) (v := .long v) (ty := .long) (C := RX3) (T := TX3) (N := 13) S.1 S.2.1 S.2.2.2.2 inlX3 tyX3 tyX3_ok nmX3 S.2.2.2.1 hI.1 hI.2.1 hI.2.2.1 hI.2.2.2 0 rfl rfl 4 (by decide) (S.2.2.2.2 _ hm) (fun _ h => h) rfl (by decide +kernel) rfl rfl (Nat.le_of_ble_eq_true rfl) hd (fun H1 locs1 hP hD hS => kn (tp_L st 0 v) H1 locs1 ⟨hI.1, hP, hD, hS⟩ hf)
theorem tg_X3_5 (S : CallFix p m c cc nL s args wsL_law own) (hI : tIn G A s st H locs) (hm : Cond.fieldLink own index "TrackedLetters" "line" "LTrackedLetters$Line;" ∈ wsL_law) (hd : decode cc pc = .ok (.getfield index, 3)) (kk : W p l e R s m args below meth c H locs cells slots Q (F0 m (pc + 3) ls (.ref (tad G 3) :: rest))) : W p l e R s m args below meth c H locs cells slots Q (F0 m pc ls (.ref (tad G 0) :: rest)) :=
  va_get (D := G.1) (ci := 3) (C := RX3) (T := TX3) (N := 13) S.1 S.2.1 S.2.2.2.2 inlX3 S.2.2.2.1 hI.1 hI.2.1 0 rfl rfl 5 (by decide) (S.2.2.2.2 _ hm) (fun _ h => h) rfl hd kk
theorem tg_X3_6 (S : CallFix p m c cc nL s args wsL_law own) (hI : tIn G A s st H locs) (hm : Cond.fieldLink own index "TrackedLetters" "changes" "LTrackedLetters$Changes;" ∈ wsL_law) (hd : decode cc pc = .ok (.getfield index, 3)) (kk : W p l e R s m args below meth c H locs cells slots Q (F0 m (pc + 3) ls (.ref (tad G 8) :: rest))) : W p l e R s m args below meth c H locs cells slots Q (F0 m pc ls (.ref (tad G 0) :: rest)) :=
  va_get (D := G.1) (ci := 3) (C := RX3) (T := TX3) (N := 13) S.1 S.2.1 S.2.2.2.2 inlX3 S.2.2.2.1 hI.1 hI.2.1 0 rfl rfl 6 (by decide) (S.2.2.2.2 _ hm) (fun _ h => h) rfl hd kk
theorem tg_X3_7 (S : CallFix p m c cc nL s args wsL_law own) (hI : tIn G A s st H locs) (hm : Cond.fieldLink own index "TrackedLetters" "spans" "LTrackedLetters$Spans;" ∈ wsL_law) (hd : decode cc pc = .ok (.getfield index, 3)) (kk : W p l e R s m args below meth c H locs cells slots Q (F0 m (pc + 3) ls (.ref (tad G 14) :: rest))) : W p l e R s m args below meth c H locs cells slots Q (F0 m pc ls (.ref (tad G 0) :: rest)) :=
  va_get (D := G.1) (ci := 3) (C := RX3) (T := TX3) (N := 13) S.1 S.2.1 S.2.2.2.2 inlX3 S.2.2.2.1 hI.1 hI.2.1 0 rfl rfl 7 (by decide) (S.2.2.2.2 _ hm) (fun _ h => h) rfl hd kk
theorem tg_X3_8 (S : CallFix p m c cc nL s args wsL_law own) (hI : tIn G A s st H locs) (hm : Cond.fieldLink own index "TrackedLetters" "row" "[I" ∈ wsL_law) (hd : decode cc pc = .ok (.getfield index, 3)) (kk : W p l e R s m args below meth c H locs cells slots Q (F0 m (pc + 3) ls (.ref (tad G 18) :: rest))) : W p l e R s m args below meth c H locs cells slots Q (F0 m pc ls (.ref (tad G 0) :: rest)) :=
  va_get (D := G.1) (ci := 3) (C := RX3) (T := TX3) (N := 13) S.1 S.2.1 S.2.2.2.2 inlX3 S.2.2.2.1 hI.1 hI.2.1 0 rfl rfl 8 (by decide) (S.2.2.2.2 _ hm) (fun _ h => h) rfl hd kk
theorem tg_X3_9 (S : CallFix p m c cc nL s args wsL_law own) (hI : tIn G A s st H locs) (hm : Cond.fieldLink own index "TrackedLetters" "foundSets" "I" ∈ wsL_law) (hd : decode cc pc = .ok (.getfield index, 3)) (kk : W p l e R s m args below meth c H locs cells slots Q (F0 m (pc + 3) ls (.int (tg_I st 2) :: rest))) : W p l e R s m args below meth c H locs cells slots Q (F0 m pc ls (.ref (tad G 0) :: rest)) :=
  va_get (D := G.1) (ci := 3) (C := RX3) (T := TX3) (N := 13) S.1 S.2.1 S.2.2.2.2 inlX3 S.2.2.2.1 hI.1 hI.2.1 0 rfl rfl 9 (by decide) (S.2.2.2.2 _ hm) (fun _ h => h) rfl hd kk
theorem tp_X3_9 (S : CallFix p m c cc nL s args wsL_law own) (hI : tIn G A s st H locs) (hm : Cond.fieldLink own index "TrackedLetters" "foundSets" "I" ∈ wsL_law) {v : Int32} {kk : tST → Option β} (hf : tlet (tp_I st 2 v) kk = some z) (hd : decode cc pc = .ok (.putfield index, 3)) (kn : ∀ (st1 : tST) (H1 : Heap) (locs1 : List Loc), tIn G A s st1 H1 locs1 → kk st1 = some z → W p l e R s m args below meth c H1 locs1 cells slots Q (F0 m (pc + 3) ls rest)) : W p l e R s m args below meth c H locs cells slots Q (F0 m pc ls (.int v :: .ref (tad G 0) :: rest)) :=
  va_put (D := G.1) (ci := 3) (v := .int v) (ty := .int) (C := RX3) (T := TX3) (N := 13) S.1 S.2.1 S.2.2.2.2 inlX3 tyX3 tyX3_ok nmX3 S.2.2.2.1 hI.1 hI.2.1 hI.2.2.1 hI.2.2.2 0 rfl rfl 9 (by decide) (S.2.2.2.2 _ hm) (fun _ h => h) rfl (by decide +kernel) rfl rfl (Nat.le_of_ble_eq_true rfl) hd (fun H1 locs1 hP hD hS => kn (tp_I st 2 v) H1 locs1 ⟨hI.1, hP, hD, hS⟩ hf)
theorem tg_X3_10 (S : CallFix p m c cc nL s args wsL_law own) (hI : tIn G A s st H locs) (hm : Cond.fieldLink own index "TrackedLetters" "foundLeast" "I" ∈ wsL_law) (hd : decode cc pc = .ok (.getfield index, 3)) (kk : W p l e R s m args below meth c H locs cells slots Q (F0 m (pc + 3) ls (.int (tg_I st 3) :: rest))) : W p l e R s m args below meth c H locs cells slots Q (F0 m pc ls (.ref (tad G 0) :: rest)) :=
  va_get (D := G.1) (ci := 3) (C := RX3) (T := TX3) (N := 13) S.1 S.2.1 S.2.2.2.2 inlX3 S.2.2.2.1 hI.1 hI.2.1 0 rfl rfl 10 (by decide) (S.2.2.2.2 _ hm) (fun _ h => h) rfl hd kk
theorem tp_X3_10 (S : CallFix p m c cc nL s args wsL_law own) (hI : tIn G A s st H locs) (hm : Cond.fieldLink own index "TrackedLetters" "foundLeast" "I" ∈ wsL_law) {v : Int32} {kk : tST → Option β} (hf : tlet (tp_I st 3 v) kk = some z) (hd : decode cc pc = .ok (.putfield index, 3)) (kn : ∀ (st1 : tST) (H1 : Heap) (locs1 : List Loc), tIn G A s st1 H1 locs1 → kk st1 = some z → W p l e R s m args below meth c H1 locs1 cells slots Q (F0 m (pc + 3) ls rest)) : W p l e R s m args below meth c H locs cells slots Q (F0 m pc ls (.int v :: .ref (tad G 0) :: rest)) :=
  va_put (D := G.1) (ci := 3) (v := .int v) (ty := .int) (C := RX3) (T := TX3) (N := 13) S.1 S.2.1 S.2.2.2.2 inlX3 tyX3 tyX3_ok nmX3 S.2.2.2.1 hI.1 hI.2.1 hI.2.2.1 hI.2.2.2 0 rfl rfl 10 (by decide) (S.2.2.2.2 _ hm) (fun _ h => h) rfl (by decide +kernel) rfl rfl (Nat.le_of_ble_eq_true rfl) hd (fun H1 locs1 hP hD hS => kn (tp_I st 3 v) H1 locs1 ⟨hI.1, hP, hD, hS⟩ hf)
theorem tg_X3_11 (S : CallFix p m c cc nL s args wsL_law own) (hI : tIn G A s st H locs) (hm : Cond.fieldLink own index "TrackedLetters" "begun" "I" ∈ wsL_law) (hd : decode cc pc = .ok (.getfield index, 3)) (kk : W p l e R s m args below meth c H locs cells slots Q (F0 m (pc + 3) ls (.int (tg_I st 4) :: rest))) : W p l e R s m args below meth c H locs cells slots Q (F0 m pc ls (.ref (tad G 0) :: rest)) :=
  va_get (D := G.1) (ci := 3) (C := RX3) (T := TX3) (N := 13) S.1 S.2.1 S.2.2.2.2 inlX3 S.2.2.2.1 hI.1 hI.2.1 0 rfl rfl 11 (by decide) (S.2.2.2.2 _ hm) (fun _ h => h) rfl hd kk
theorem tp_X3_11 (S : CallFix p m c cc nL s args wsL_law own) (hI : tIn G A s st H locs) (hm : Cond.fieldLink own index "TrackedLetters" "begun" "I" ∈ wsL_law) {v : Int32} {kk : tST → Option β} (hf : tlet (tp_I st 4 v) kk = some z) (hd : decode cc pc = .ok (.putfield index, 3)) (kn : ∀ (st1 : tST) (H1 : Heap) (locs1 : List Loc), tIn G A s st1 H1 locs1 → kk st1 = some z → W p l e R s m args below meth c H1 locs1 cells slots Q (F0 m (pc + 3) ls rest)) : W p l e R s m args below meth c H locs cells slots Q (F0 m pc ls (.int v :: .ref (tad G 0) :: rest)) :=
  va_put (D := G.1) (ci := 3) (v := .int v) (ty := .int) (C := RX3) (T := TX3) (N := 13) S.1 S.2.1 S.2.2.2.2 inlX3 tyX3 tyX3_ok nmX3 S.2.2.2.1 hI.1 hI.2.1 hI.2.2.1 hI.2.2.2 0 rfl rfl 11 (by decide) (S.2.2.2.2 _ hm) (fun _ h => h) rfl (by decide +kernel) rfl rfl (Nat.le_of_ble_eq_true rfl) hd (fun H1 locs1 hP hD hS => kn (tp_I st 4 v) H1 locs1 ⟨hI.1, hP, hD, hS⟩ hf)
theorem tg_X3_12 (S : CallFix p m c cc nL s args wsL_law own) (hI : tIn G A s st H locs) (hm : Cond.fieldLink own index "TrackedLetters" "settled" "I" ∈ wsL_law) (hd : decode cc pc = .ok (.getfield index, 3)) (kk : W p l e R s m args below meth c H locs cells slots Q (F0 m (pc + 3) ls (.int (tg_I st 5) :: rest))) : W p l e R s m args below meth c H locs cells slots Q (F0 m pc ls (.ref (tad G 0) :: rest)) :=
  va_get (D := G.1) (ci := 3) (C := RX3) (T := TX3) (N := 13) S.1 S.2.1 S.2.2.2.2 inlX3 S.2.2.2.1 hI.1 hI.2.1 0 rfl rfl 12 (by decide) (S.2.2.2.2 _ hm) (fun _ h => h) rfl hd kk
theorem tp_X3_12 (S : CallFix p m c cc nL s args wsL_law own) (hI : tIn G A s st H locs) (hm : Cond.fieldLink own index "TrackedLetters" "settled" "I" ∈ wsL_law) {v : Int32} {kk : tST → Option β} (hf : tlet (tp_I st 5 v) kk = some z) (hd : decode cc pc = .ok (.putfield index, 3)) (kn : ∀ (st1 : tST) (H1 : Heap) (locs1 : List Loc), tIn G A s st1 H1 locs1 → kk st1 = some z → W p l e R s m args below meth c H1 locs1 cells slots Q (F0 m (pc + 3) ls rest)) : W p l e R s m args below meth c H locs cells slots Q (F0 m pc ls (.int v :: .ref (tad G 0) :: rest)) :=
  va_put (D := G.1) (ci := 3) (v := .int v) (ty := .int) (C := RX3) (T := TX3) (N := 13) S.1 S.2.1 S.2.2.2.2 inlX3 tyX3 tyX3_ok nmX3 S.2.2.2.1 hI.1 hI.2.1 hI.2.2.1 hI.2.2.2 0 rfl rfl 12 (by decide) (S.2.2.2.2 _ hm) (fun _ h => h) rfl (by decide +kernel) rfl rfl (Nat.le_of_ble_eq_true rfl) hd (fun H1 locs1 hP hD hS => kn (tp_I st 5 v) H1 locs1 ⟨hI.1, hP, hD, hS⟩ hf)
theorem tg_X4_0 (S : CallFix p m c cc nL s args wsL_law own) (hI : tIn G A s st H locs) (hm : Cond.fieldLink own index "TrackedLettersModel" "pageLength" "I" ∈ wsL_law) (hd : decode cc pc = .ok (.getfield index, 3)) (kk : W p l e R s m args below meth c H locs cells slots Q (F0 m (pc + 3) ls (.int (tg_I st 100) :: rest))) : W p l e R s m args below meth c H locs cells slots Q (F0 m pc ls (.ref (tad G 19) :: rest)) :=
  va_get (D := G.1) (ci := 4) (C := RX4) (T := TX4) (N := 32) S.1 S.2.1 S.2.2.2.2 inlX4 S.2.2.2.1 hI.1 hI.2.1 19 rfl rfl 0 (by decide) (S.2.2.2.2 _ hm) (fun _ h => h) rfl hd kk
theorem tp_X4_0 (S : CallFix p m c cc nL s args wsL_law own) (hI : tIn G A s st H locs) (hm : Cond.fieldLink own index "TrackedLettersModel" "pageLength" "I" ∈ wsL_law) {v : Int32} {kk : tST → Option β} (hf : tlet (tp_I st 100 v) kk = some z) (hd : decode cc pc = .ok (.putfield index, 3)) (kn : ∀ (st1 : tST) (H1 : Heap) (locs1 : List Loc), tIn G A s st1 H1 locs1 → kk st1 = some z → W p l e R s m args below meth c H1 locs1 cells slots Q (F0 m (pc + 3) ls rest)) : W p l e R s m args below meth c H locs cells slots Q (F0 m pc ls (.int v :: .ref (tad G 19) :: rest)) :=
  va_put (D := G.1) (ci := 4) (v := .int v) (ty := .int) (C := RX4) (T := TX4) (N := 32) S.1 S.2.1 S.2.2.2.2 inlX4 tyX4 tyX4_ok nmX4 S.2.2.2.1 hI.1 hI.2.1 hI.2.2.1 hI.2.2.2 19 rfl rfl 0 (by decide) (S.2.2.2.2 _ hm) (fun _ h => h) rfl (by decide +kernel) rfl rfl (Nat.le_of_ble_eq_true rfl) hd (fun H1 locs1 hP hD hS => kn (tp_I st 100 v) H1 locs1 ⟨hI.1, hP, hD, hS⟩ hf)
theorem tg_X4_1 (S : CallFix p m c cc nL s args wsL_law own) (hI : tIn G A s st H locs) (hm : Cond.fieldLink own index "TrackedLettersModel" "page" "[I" ∈ wsL_law) (hd : decode cc pc = .ok (.getfield index, 3)) (kk : W p l e R s m args below meth c H locs cells slots Q (F0 m (pc + 3) ls (.ref (tad G 20) :: rest))) : W p l e R s m args below meth c H locs cells slots Q (F0 m pc ls (.ref (tad G 19) :: rest)) :=
  va_get (D := G.1) (ci := 4) (C := RX4) (T := TX4) (N := 32) S.1 S.2.1 S.2.2.2.2 inlX4 S.2.2.2.1 hI.1 hI.2.1 19 rfl rfl 1 (by decide) (S.2.2.2.2 _ hm) (fun _ h => h) rfl hd kk
theorem tg_X4_2 (S : CallFix p m c cc nL s args wsL_law own) (hI : tIn G A s st H locs) (hm : Cond.fieldLink own index "TrackedLettersModel" "letters" "I" ∈ wsL_law) (hd : decode cc pc = .ok (.getfield index, 3)) (kk : W p l e R s m args below meth c H locs cells slots Q (F0 m (pc + 3) ls (.int (tg_I st 102) :: rest))) : W p l e R s m args below meth c H locs cells slots Q (F0 m pc ls (.ref (tad G 19) :: rest)) :=
  va_get (D := G.1) (ci := 4) (C := RX4) (T := TX4) (N := 32) S.1 S.2.1 S.2.2.2.2 inlX4 S.2.2.2.1 hI.1 hI.2.1 19 rfl rfl 2 (by decide) (S.2.2.2.2 _ hm) (fun _ h => h) rfl hd kk
theorem tp_X4_2 (S : CallFix p m c cc nL s args wsL_law own) (hI : tIn G A s st H locs) (hm : Cond.fieldLink own index "TrackedLettersModel" "letters" "I" ∈ wsL_law) {v : Int32} {kk : tST → Option β} (hf : tlet (tp_I st 102 v) kk = some z) (hd : decode cc pc = .ok (.putfield index, 3)) (kn : ∀ (st1 : tST) (H1 : Heap) (locs1 : List Loc), tIn G A s st1 H1 locs1 → kk st1 = some z → W p l e R s m args below meth c H1 locs1 cells slots Q (F0 m (pc + 3) ls rest)) : W p l e R s m args below meth c H locs cells slots Q (F0 m pc ls (.int v :: .ref (tad G 19) :: rest)) :=
  va_put (D := G.1) (ci := 4) (v := .int v) (ty := .int) (C := RX4) (T := TX4) (N := 32) S.1 S.2.1 S.2.2.2.2 inlX4 tyX4 tyX4_ok nmX4 S.2.2.2.1 hI.1 hI.2.1 hI.2.2.1 hI.2.2.2 19 rfl rfl 2 (by decide) (S.2.2.2.2 _ hm) (fun _ h => h) rfl (by decide +kernel) rfl rfl (Nat.le_of_ble_eq_true rfl) hd (fun H1 locs1 hP hD hS => kn (tp_I st 102 v) H1 locs1 ⟨hI.1, hP, hD, hS⟩ hf)
theorem tg_X4_3 (S : CallFix p m c cc nL s args wsL_law own) (hI : tIn G A s st H locs) (hm : Cond.fieldLink own index "TrackedLettersModel" "sign" "[I" ∈ wsL_law) (hd : decode cc pc = .ok (.getfield index, 3)) (kk : W p l e R s m args below meth c H locs cells slots Q (F0 m (pc + 3) ls (.ref (tad G 21) :: rest))) : W p l e R s m args below meth c H locs cells slots Q (F0 m pc ls (.ref (tad G 19) :: rest)) :=
  va_get (D := G.1) (ci := 4) (C := RX4) (T := TX4) (N := 32) S.1 S.2.1 S.2.2.2.2 inlX4 S.2.2.2.1 hI.1 hI.2.1 19 rfl rfl 3 (by decide) (S.2.2.2.2 _ hm) (fun _ h => h) rfl hd kk
theorem tg_X4_4 (S : CallFix p m c cc nL s args wsL_law own) (hI : tIn G A s st H locs) (hm : Cond.fieldLink own index "TrackedLettersModel" "insertOf" "[I" ∈ wsL_law) (hd : decode cc pc = .ok (.getfield index, 3)) (kk : W p l e R s m args below meth c H locs cells slots Q (F0 m (pc + 3) ls (.ref (tad G 22) :: rest))) : W p l e R s m args below meth c H locs cells slots Q (F0 m pc ls (.ref (tad G 19) :: rest)) :=
  va_get (D := G.1) (ci := 4) (C := RX4) (T := TX4) (N := 32) S.1 S.2.1 S.2.2.2.2 inlX4 S.2.2.2.1 hI.1 hI.2.1 19 rfl rfl 4 (by decide) (S.2.2.2.2 _ hm) (fun _ h => h) rfl hd kk
theorem tg_X4_5 (S : CallFix p m c cc nL s args wsL_law own) (hI : tIn G A s st H locs) (hm : Cond.fieldLink own index "TrackedLettersModel" "homeOf" "[I" ∈ wsL_law) (hd : decode cc pc = .ok (.getfield index, 3)) (kk : W p l e R s m args below meth c H locs cells slots Q (F0 m (pc + 3) ls (.ref (tad G 23) :: rest))) : W p l e R s m args below meth c H locs cells slots Q (F0 m pc ls (.ref (tad G 19) :: rest)) :=
  va_get (D := G.1) (ci := 4) (C := RX4) (T := TX4) (N := 32) S.1 S.2.1 S.2.2.2.2 inlX4 S.2.2.2.1 hI.1 hI.2.1 19 rfl rfl 5 (by decide) (S.2.2.2.2 _ hm) (fun _ h => h) rfl hd kk
theorem tg_X4_6 (S : CallFix p m c cc nL s args wsL_law own) (hI : tIn G A s st H locs) (hm : Cond.fieldLink own index "TrackedLettersModel" "deletedBy" "[I" ∈ wsL_law) (hd : decode cc pc = .ok (.getfield index, 3)) (kk : W p l e R s m args below meth c H locs cells slots Q (F0 m (pc + 3) ls (.ref (tad G 24) :: rest))) : W p l e R s m args below meth c H locs cells slots Q (F0 m pc ls (.ref (tad G 19) :: rest)) :=
  va_get (D := G.1) (ci := 4) (C := RX4) (T := TX4) (N := 32) S.1 S.2.1 S.2.2.2.2 inlX4 S.2.2.2.1 hI.1 hI.2.1 19 rfl rfl 6 (by decide) (S.2.2.2.2 _ hm) (fun _ h => h) rfl hd kk
theorem tg_X4_7 (S : CallFix p m c cc nL s args wsL_law own) (hI : tIn G A s st H locs) (hm : Cond.fieldLink own index "TrackedLettersModel" "changes" "I" ∈ wsL_law) (hd : decode cc pc = .ok (.getfield index, 3)) (kk : W p l e R s m args below meth c H locs cells slots Q (F0 m (pc + 3) ls (.int (tg_I st 107) :: rest))) : W p l e R s m args below meth c H locs cells slots Q (F0 m pc ls (.ref (tad G 19) :: rest)) :=
  va_get (D := G.1) (ci := 4) (C := RX4) (T := TX4) (N := 32) S.1 S.2.1 S.2.2.2.2 inlX4 S.2.2.2.1 hI.1 hI.2.1 19 rfl rfl 7 (by decide) (S.2.2.2.2 _ hm) (fun _ h => h) rfl hd kk
theorem tp_X4_7 (S : CallFix p m c cc nL s args wsL_law own) (hI : tIn G A s st H locs) (hm : Cond.fieldLink own index "TrackedLettersModel" "changes" "I" ∈ wsL_law) {v : Int32} {kk : tST → Option β} (hf : tlet (tp_I st 107 v) kk = some z) (hd : decode cc pc = .ok (.putfield index, 3)) (kn : ∀ (st1 : tST) (H1 : Heap) (locs1 : List Loc), tIn G A s st1 H1 locs1 → kk st1 = some z → W p l e R s m args below meth c H1 locs1 cells slots Q (F0 m (pc + 3) ls rest)) : W p l e R s m args below meth c H locs cells slots Q (F0 m pc ls (.int v :: .ref (tad G 19) :: rest)) :=
  va_put (D := G.1) (ci := 4) (v := .int v) (ty := .int) (C := RX4) (T := TX4) (N := 32) S.1 S.2.1 S.2.2.2.2 inlX4 tyX4 tyX4_ok nmX4 S.2.2.2.1 hI.1 hI.2.1 hI.2.2.1 hI.2.2.2 19 rfl rfl 7 (by decide) (S.2.2.2.2 _ hm) (fun _ h => h) rfl (by decide +kernel) rfl rfl (Nat.le_of_ble_eq_true rfl) hd (fun H1 locs1 hP hD hS => kn (tp_I st 107 v) H1 locs1 ⟨hI.1, hP, hD, hS⟩ hf)
theorem tg_X4_8 (S : CallFix p m c cc nL s args wsL_law own) (hI : tIn G A s st H locs) (hm : Cond.fieldLink own index "TrackedLettersModel" "kindOf" "[I" ∈ wsL_law) (hd : decode cc pc = .ok (.getfield index, 3)) (kk : W p l e R s m args below meth c H locs cells slots Q (F0 m (pc + 3) ls (.ref (tad G 25) :: rest))) : W p l e R s m args below meth c H locs cells slots Q (F0 m pc ls (.ref (tad G 19) :: rest)) :=
  va_get (D := G.1) (ci := 4) (C := RX4) (T := TX4) (N := 32) S.1 S.2.1 S.2.2.2.2 inlX4 S.2.2.2.1 hI.1 hI.2.1 19 rfl rfl 8 (by decide) (S.2.2.2.2 _ hm) (fun _ h => h) rfl hd kk
theorem tg_X4_9 (S : CallFix p m c cc nL s args wsL_law own) (hI : tIn G A s st H locs) (hm : Cond.fieldLink own index "TrackedLettersModel" "authorOf" "[I" ∈ wsL_law) (hd : decode cc pc = .ok (.getfield index, 3)) (kk : W p l e R s m args below meth c H locs cells slots Q (F0 m (pc + 3) ls (.ref (tad G 26) :: rest))) : W p l e R s m args below meth c H locs cells slots Q (F0 m pc ls (.ref (tad G 19) :: rest)) :=
  va_get (D := G.1) (ci := 4) (C := RX4) (T := TX4) (N := 32) S.1 S.2.1 S.2.2.2.2 inlX4 S.2.2.2.1 hI.1 hI.2.1 19 rfl rfl 9 (by decide) (S.2.2.2.2 _ hm) (fun _ h => h) rfl hd kk
theorem tg_X4_10 (S : CallFix p m c cc nL s args wsL_law own) (hI : tIn G A s st H locs) (hm : Cond.fieldLink own index "TrackedLettersModel" "stateOf" "[I" ∈ wsL_law) (hd : decode cc pc = .ok (.getfield index, 3)) (kk : W p l e R s m args below meth c H locs cells slots Q (F0 m (pc + 3) ls (.ref (tad G 27) :: rest))) : W p l e R s m args below meth c H locs cells slots Q (F0 m pc ls (.ref (tad G 19) :: rest)) :=
  va_get (D := G.1) (ci := 4) (C := RX4) (T := TX4) (N := 32) S.1 S.2.1 S.2.2.2.2 inlX4 S.2.2.2.1 hI.1 hI.2.1 19 rfl rfl 10 (by decide) (S.2.2.2.2 _ hm) (fun _ h => h) rfl hd kk
theorem tg_X4_11 (S : CallFix p m c cc nL s args wsL_law own) (hI : tIn G A s st H locs) (hm : Cond.fieldLink own index "TrackedLettersModel" "isShown" "[Z" ∈ wsL_law) (hd : decode cc pc = .ok (.getfield index, 3)) (kk : W p l e R s m args below meth c H locs cells slots Q (F0 m (pc + 3) ls (.ref (tad G 28) :: rest))) : W p l e R s m args below meth c H locs cells slots Q (F0 m pc ls (.ref (tad G 19) :: rest)) :=
  va_get (D := G.1) (ci := 4) (C := RX4) (T := TX4) (N := 32) S.1 S.2.1 S.2.2.2.2 inlX4 S.2.2.2.1 hI.1 hI.2.1 19 rfl rfl 11 (by decide) (S.2.2.2.2 _ hm) (fun _ h => h) rfl hd kk
theorem tg_X4_12 (S : CallFix p m c cc nL s args wsL_law own) (hI : tIn G A s st H locs) (hm : Cond.fieldLink own index "TrackedLettersModel" "places" "I" ∈ wsL_law) (hd : decode cc pc = .ok (.getfield index, 3)) (kk : W p l e R s m args below meth c H locs cells slots Q (F0 m (pc + 3) ls (.int (tg_I st 112) :: rest))) : W p l e R s m args below meth c H locs cells slots Q (F0 m pc ls (.ref (tad G 19) :: rest)) :=
  va_get (D := G.1) (ci := 4) (C := RX4) (T := TX4) (N := 32) S.1 S.2.1 S.2.2.2.2 inlX4 S.2.2.2.1 hI.1 hI.2.1 19 rfl rfl 12 (by decide) (S.2.2.2.2 _ hm) (fun _ h => h) rfl hd kk
theorem tp_X4_12 (S : CallFix p m c cc nL s args wsL_law own) (hI : tIn G A s st H locs) (hm : Cond.fieldLink own index "TrackedLettersModel" "places" "I" ∈ wsL_law) {v : Int32} {kk : tST → Option β} (hf : tlet (tp_I st 112 v) kk = some z) (hd : decode cc pc = .ok (.putfield index, 3)) (kn : ∀ (st1 : tST) (H1 : Heap) (locs1 : List Loc), tIn G A s st1 H1 locs1 → kk st1 = some z → W p l e R s m args below meth c H1 locs1 cells slots Q (F0 m (pc + 3) ls rest)) : W p l e R s m args below meth c H locs cells slots Q (F0 m pc ls (.int v :: .ref (tad G 19) :: rest)) :=
  va_put (D := G.1) (ci := 4) (v := .int v) (ty := .int) (C := RX4) (T := TX4) (N := 32) S.1 S.2.1 S.2.2.2.2 inlX4 tyX4 tyX4_ok nmX4 S.2.2.2.1 hI.1 hI.2.1 hI.2.2.1 hI.2.2.2 19 rfl rfl 12 (by decide) (S.2.2.2.2 _ hm) (fun _ h => h) rfl (by decide +kernel) rfl rfl (Nat.le_of_ble_eq_true rfl) hd (fun H1 locs1 hP hD hS => kn (tp_I st 112 v) H1 locs1 ⟨hI.1, hP, hD, hS⟩ hf)
theorem tg_X4_13 (S : CallFix p m c cc nL s args wsL_law own) (hI : tIn G A s st H locs) (hm : Cond.fieldLink own index "TrackedLettersModel" "letterOf" "[I" ∈ wsL_law) (hd : decode cc pc = .ok (.getfield index, 3)) (kk : W p l e R s m args below meth c H locs cells slots Q (F0 m (pc + 3) ls (.ref (tad G 29) :: rest))) : W p l e R s m args below meth c H locs cells slots Q (F0 m pc ls (.ref (tad G 19) :: rest)) :=
  va_get (D := G.1) (ci := 4) (C := RX4) (T := TX4) (N := 32) S.1 S.2.1 S.2.2.2.2 inlX4 S.2.2.2.1 hI.1 hI.2.1 19 rfl rfl 13 (by decide) (S.2.2.2.2 _ hm) (fun _ h => h) rfl hd kk
theorem tg_X4_14 (S : CallFix p m c cc nL s args wsL_law own) (hI : tIn G A s st H locs) (hm : Cond.fieldLink own index "TrackedLettersModel" "fromOf" "[I" ∈ wsL_law) (hd : decode cc pc = .ok (.getfield index, 3)) (kk : W p l e R s m args below meth c H locs cells slots Q (F0 m (pc + 3) ls (.ref (tad G 30) :: rest))) : W p l e R s m args below meth c H locs cells slots Q (F0 m pc ls (.ref (tad G 19) :: rest)) :=
  va_get (D := G.1) (ci := 4) (C := RX4) (T := TX4) (N := 32) S.1 S.2.1 S.2.2.2.2 inlX4 S.2.2.2.1 hI.1 hI.2.1 19 rfl rfl 14 (by decide) (S.2.2.2.2 _ hm) (fun _ h => h) rfl hd kk
theorem tg_X4_15 (S : CallFix p m c cc nL s args wsL_law own) (hI : tIn G A s st H locs) (hm : Cond.fieldLink own index "TrackedLettersModel" "byOf" "[I" ∈ wsL_law) (hd : decode cc pc = .ok (.getfield index, 3)) (kk : W p l e R s m args below meth c H locs cells slots Q (F0 m (pc + 3) ls (.ref (tad G 31) :: rest))) : W p l e R s m args below meth c H locs cells slots Q (F0 m pc ls (.ref (tad G 19) :: rest)) :=
  va_get (D := G.1) (ci := 4) (C := RX4) (T := TX4) (N := 32) S.1 S.2.1 S.2.2.2.2 inlX4 S.2.2.2.1 hI.1 hI.2.1 19 rfl rfl 15 (by decide) (S.2.2.2.2 _ hm) (fun _ h => h) rfl hd kk
theorem tg_X4_16 (S : CallFix p m c cc nL s args wsL_law own) (hI : tIn G A s st H locs) (hm : Cond.fieldLink own index "TrackedLettersModel" "line" "[I" ∈ wsL_law) (hd : decode cc pc = .ok (.getfield index, 3)) (kk : W p l e R s m args below meth c H locs cells slots Q (F0 m (pc + 3) ls (.ref (tad G 32) :: rest))) : W p l e R s m args below meth c H locs cells slots Q (F0 m pc ls (.ref (tad G 19) :: rest)) :=
  va_get (D := G.1) (ci := 4) (C := RX4) (T := TX4) (N := 32) S.1 S.2.1 S.2.2.2.2 inlX4 S.2.2.2.1 hI.1 hI.2.1 19 rfl rfl 16 (by decide) (S.2.2.2.2 _ hm) (fun _ h => h) rfl hd kk
theorem tg_X4_17 (S : CallFix p m c cc nL s args wsL_law own) (hI : tIn G A s st H locs) (hm : Cond.fieldLink own index "TrackedLettersModel" "firstOn" "[I" ∈ wsL_law) (hd : decode cc pc = .ok (.getfield index, 3)) (kk : W p l e R s m args below meth c H locs cells slots Q (F0 m (pc + 3) ls (.ref (tad G 33) :: rest))) : W p l e R s m args below meth c H locs cells slots Q (F0 m pc ls (.ref (tad G 19) :: rest)) :=
  va_get (D := G.1) (ci := 4) (C := RX4) (T := TX4) (N := 32) S.1 S.2.1 S.2.2.2.2 inlX4 S.2.2.2.1 hI.1 hI.2.1 19 rfl rfl 17 (by decide) (S.2.2.2.2 _ hm) (fun _ h => h) rfl hd kk
theorem tg_X4_18 (S : CallFix p m c cc nL s args wsL_law own) (hI : tIn G A s st H locs) (hm : Cond.fieldLink own index "TrackedLettersModel" "nextOn" "[I" ∈ wsL_law) (hd : decode cc pc = .ok (.getfield index, 3)) (kk : W p l e R s m args below meth c H locs cells slots Q (F0 m (pc + 3) ls (.ref (tad G 34) :: rest))) : W p l e R s m args below meth c H locs cells slots Q (F0 m pc ls (.ref (tad G 19) :: rest)) :=
  va_get (D := G.1) (ci := 4) (C := RX4) (T := TX4) (N := 32) S.1 S.2.1 S.2.2.2.2 inlX4 S.2.2.2.1 hI.1 hI.2.1 19 rfl rfl 18 (by decide) (S.2.2.2.2 _ hm) (fun _ h => h) rfl hd kk
theorem tg_X4_19 (S : CallFix p m c cc nL s args wsL_law own) (hI : tIn G A s st H locs) (hm : Cond.fieldLink own index "TrackedLettersModel" "begun" "I" ∈ wsL_law) (hd : decode cc pc = .ok (.getfield index, 3)) (kk : W p l e R s m args below meth c H locs cells slots Q (F0 m (pc + 3) ls (.int (tg_I st 119) :: rest))) : W p l e R s m args below meth c H locs cells slots Q (F0 m pc ls (.ref (tad G 19) :: rest)) :=
  va_get (D := G.1) (ci := 4) (C := RX4) (T := TX4) (N := 32) S.1 S.2.1 S.2.2.2.2 inlX4 S.2.2.2.1 hI.1 hI.2.1 19 rfl rfl 19 (by decide) (S.2.2.2.2 _ hm) (fun _ h => h) rfl hd kk
theorem tp_X4_19 (S : CallFix p m c cc nL s args wsL_law own) (hI : tIn G A s st H locs) (hm : Cond.fieldLink own index "TrackedLettersModel" "begun" "I" ∈ wsL_law) {v : Int32} {kk : tST → Option β} (hf : tlet (tp_I st 119 v) kk = some z) (hd : decode cc pc = .ok (.putfield index, 3)) (kn : ∀ (st1 : tST) (H1 : Heap) (locs1 : List Loc), tIn G A s st1 H1 locs1 → kk st1 = some z → W p l e R s m args below meth c H1 locs1 cells slots Q (F0 m (pc + 3) ls rest)) : W p l e R s m args below meth c H locs cells slots Q (F0 m pc ls (.int v :: .ref (tad G 19) :: rest)) :=
  va_put (D := G.1) (ci := 4) (v := .int v) (ty := .int) (C := RX4) (T := TX4) (N := 32) S.1 S.2.1 S.2.2.2.2 inlX4 tyX4 tyX4_ok nmX4 S.2.2.2.1 hI.1 hI.2.1 hI.2.2.1 hI.2.2.2 19 rfl rfl 19 (by decide) (S.2.2.2.2 _ hm) (fun _ h => h) rfl (by decide +kernel) rfl rfl (Nat.le_of_ble_eq_true rfl) hd (fun H1 locs1 hP hD hS => kn (tp_I st 119 v) H1 locs1 ⟨hI.1, hP, hD, hS⟩ hf)
theorem tg_X4_20 (S : CallFix p m c cc nL s args wsL_law own) (hI : tIn G A s st H locs) (hm : Cond.fieldLink own index "TrackedLettersModel" "settled" "I" ∈ wsL_law) (hd : decode cc pc = .ok (.getfield index, 3)) (kk : W p l e R s m args below meth c H locs cells slots Q (F0 m (pc + 3) ls (.int (tg_I st 120) :: rest))) : W p l e R s m args below meth c H locs cells slots Q (F0 m pc ls (.ref (tad G 19) :: rest)) :=
  va_get (D := G.1) (ci := 4) (C := RX4) (T := TX4) (N := 32) S.1 S.2.1 S.2.2.2.2 inlX4 S.2.2.2.1 hI.1 hI.2.1 19 rfl rfl 20 (by decide) (S.2.2.2.2 _ hm) (fun _ h => h) rfl hd kk
theorem tp_X4_20 (S : CallFix p m c cc nL s args wsL_law own) (hI : tIn G A s st H locs) (hm : Cond.fieldLink own index "TrackedLettersModel" "settled" "I" ∈ wsL_law) {v : Int32} {kk : tST → Option β} (hf : tlet (tp_I st 120 v) kk = some z) (hd : decode cc pc = .ok (.putfield index, 3)) (kn : ∀ (st1 : tST) (H1 : Heap) (locs1 : List Loc), tIn G A s st1 H1 locs1 → kk st1 = some z → W p l e R s m args below meth c H1 locs1 cells slots Q (F0 m (pc + 3) ls rest)) : W p l e R s m args below meth c H locs cells slots Q (F0 m pc ls (.int v :: .ref (tad G 19) :: rest)) :=
  va_put (D := G.1) (ci := 4) (v := .int v) (ty := .int) (C := RX4) (T := TX4) (N := 32) S.1 S.2.1 S.2.2.2.2 inlX4 tyX4 tyX4_ok nmX4 S.2.2.2.1 hI.1 hI.2.1 hI.2.2.1 hI.2.2.2 19 rfl rfl 20 (by decide) (S.2.2.2.2 _ hm) (fun _ h => h) rfl (by decide +kernel) rfl rfl (Nat.le_of_ble_eq_true rfl) hd (fun H1 locs1 hP hD hS => kn (tp_I st 120 v) H1 locs1 ⟨hI.1, hP, hD, hS⟩ hf)
theorem tg_X4_21 (S : CallFix p m c cc nL s args wsL_law own) (hI : tIn G A s st H locs) (hm : Cond.fieldLink own index "TrackedLettersModel" "reads" "I" ∈ wsL_law) (hd : decode cc pc = .ok (.getfield index, 3)) (kk : W p l e R s m args below meth c H locs cells slots Q (F0 m (pc + 3) ls (.int (tg_I st 121) :: rest))) : W p l e R s m args below meth c H locs cells slots Q (F0 m pc ls (.ref (tad G 19) :: rest)) :=
  va_get (D := G.1) (ci := 4) (C := RX4) (T := TX4) (N := 32) S.1 S.2.1 S.2.2.2.2 inlX4 S.2.2.2.1 hI.1 hI.2.1 19 rfl rfl 21 (by decide) (S.2.2.2.2 _ hm) (fun _ h => h) rfl hd kk
theorem tp_X4_21 (S : CallFix p m c cc nL s args wsL_law own) (hI : tIn G A s st H locs) (hm : Cond.fieldLink own index "TrackedLettersModel" "reads" "I" ∈ wsL_law) {v : Int32} {kk : tST → Option β} (hf : tlet (tp_I st 121 v) kk = some z) (hd : decode cc pc = .ok (.putfield index, 3)) (kn : ∀ (st1 : tST) (H1 : Heap) (locs1 : List Loc), tIn G A s st1 H1 locs1 → kk st1 = some z → W p l e R s m args below meth c H1 locs1 cells slots Q (F0 m (pc + 3) ls rest)) : W p l e R s m args below meth c H locs cells slots Q (F0 m pc ls (.int v :: .ref (tad G 19) :: rest)) :=
  va_put (D := G.1) (ci := 4) (v := .int v) (ty := .int) (C := RX4) (T := TX4) (N := 32) S.1 S.2.1 S.2.2.2.2 inlX4 tyX4 tyX4_ok nmX4 S.2.2.2.1 hI.1 hI.2.1 hI.2.2.1 hI.2.2.2 19 rfl rfl 21 (by decide) (S.2.2.2.2 _ hm) (fun _ h => h) rfl (by decide +kernel) rfl rfl (Nat.le_of_ble_eq_true rfl) hd (fun H1 locs1 hP hD hS => kn (tp_I st 121 v) H1 locs1 ⟨hI.1, hP, hD, hS⟩ hf)
theorem tg_X4_22 (S : CallFix p m c cc nL s args wsL_law own) (hI : tIn G A s st H locs) (hm : Cond.fieldLink own index "TrackedLettersModel" "readAt" "[I" ∈ wsL_law) (hd : decode cc pc = .ok (.getfield index, 3)) (kk : W p l e R s m args below meth c H locs cells slots Q (F0 m (pc + 3) ls (.ref (tad G 35) :: rest))) : W p l e R s m args below meth c H locs cells slots Q (F0 m pc ls (.ref (tad G 19) :: rest)) :=
  va_get (D := G.1) (ci := 4) (C := RX4) (T := TX4) (N := 32) S.1 S.2.1 S.2.2.2.2 inlX4 S.2.2.2.1 hI.1 hI.2.1 19 rfl rfl 22 (by decide) (S.2.2.2.2 _ hm) (fun _ h => h) rfl hd kk
theorem tg_X4_23 (S : CallFix p m c cc nL s args wsL_law own) (hI : tIn G A s st H locs) (hm : Cond.fieldLink own index "TrackedLettersModel" "isStood" "[Z" ∈ wsL_law) (hd : decode cc pc = .ok (.getfield index, 3)) (kk : W p l e R s m args below meth c H locs cells slots Q (F0 m (pc + 3) ls (.ref (tad G 36) :: rest))) : W p l e R s m args below meth c H locs cells slots Q (F0 m pc ls (.ref (tad G 19) :: rest)) :=
  va_get (D := G.1) (ci := 4) (C := RX4) (T := TX4) (N := 32) S.1 S.2.1 S.2.2.2.2 inlX4 S.2.2.2.1 hI.1 hI.2.1 19 rfl rfl 23 (by decide) (S.2.2.2.2 _ hm) (fun _ h => h) rfl hd kk
theorem tg_X4_24 (S : CallFix p m c cc nL s args wsL_law own) (hI : tIn G A s st H locs) (hm : Cond.fieldLink own index "TrackedLettersModel" "kept" "[I" ∈ wsL_law) (hd : decode cc pc = .ok (.getfield index, 3)) (kk : W p l e R s m args below meth c H locs cells slots Q (F0 m (pc + 3) ls (.ref (tad G 37) :: rest))) : W p l e R s m args below meth c H locs cells slots Q (F0 m pc ls (.ref (tad G 19) :: rest)) :=
  va_get (D := G.1) (ci := 4) (C := RX4) (T := TX4) (N := 32) S.1 S.2.1 S.2.2.2.2 inlX4 S.2.2.2.1 hI.1 hI.2.1 19 rfl rfl 24 (by decide) (S.2.2.2.2 _ hm) (fun _ h => h) rfl hd kk
theorem tg_X4_25 (S : CallFix p m c cc nL s args wsL_law own) (hI : tIn G A s st H locs) (hm : Cond.fieldLink own index "TrackedLettersModel" "spans" "I" ∈ wsL_law) (hd : decode cc pc = .ok (.getfield index, 3)) (kk : W p l e R s m args below meth c H locs cells slots Q (F0 m (pc + 3) ls (.int (tg_I st 125) :: rest))) : W p l e R s m args below meth c H locs cells slots Q (F0 m pc ls (.ref (tad G 19) :: rest)) :=
  va_get (D := G.1) (ci := 4) (C := RX4) (T := TX4) (N := 32) S.1 S.2.1 S.2.2.2.2 inlX4 S.2.2.2.1 hI.1 hI.2.1 19 rfl rfl 25 (by decide) (S.2.2.2.2 _ hm) (fun _ h => h) rfl hd kk
theorem tp_X4_25 (S : CallFix p m c cc nL s args wsL_law own) (hI : tIn G A s st H locs) (hm : Cond.fieldLink own index "TrackedLettersModel" "spans" "I" ∈ wsL_law) {v : Int32} {kk : tST → Option β} (hf : tlet (tp_I st 125 v) kk = some z) (hd : decode cc pc = .ok (.putfield index, 3)) (kn : ∀ (st1 : tST) (H1 : Heap) (locs1 : List Loc), tIn G A s st1 H1 locs1 → kk st1 = some z → W p l e R s m args below meth c H1 locs1 cells slots Q (F0 m (pc + 3) ls rest)) : W p l e R s m args below meth c H locs cells slots Q (F0 m pc ls (.int v :: .ref (tad G 19) :: rest)) :=
  va_put (D := G.1) (ci := 4) (v := .int v) (ty := .int) (C := RX4) (T := TX4) (N := 32) S.1 S.2.1 S.2.2.2.2 inlX4 tyX4 tyX4_ok nmX4 S.2.2.2.1 hI.1 hI.2.1 hI.2.2.1 hI.2.2.2 19 rfl rfl 25 (by decide) (S.2.2.2.2 _ hm) (fun _ h => h) rfl (by decide +kernel) rfl rfl (Nat.le_of_ble_eq_true rfl) hd (fun H1 locs1 hP hD hS => kn (tp_I st 125 v) H1 locs1 ⟨hI.1, hP, hD, hS⟩ hf)
theorem tg_X4_26 (S : CallFix p m c cc nL s args wsL_law own) (hI : tIn G A s st H locs) (hm : Cond.fieldLink own index "TrackedLettersModel" "spanMark" "[I" ∈ wsL_law) (hd : decode cc pc = .ok (.getfield index, 3)) (kk : W p l e R s m args below meth c H locs cells slots Q (F0 m (pc + 3) ls (.ref (tad G 38) :: rest))) : W p l e R s m args below meth c H locs cells slots Q (F0 m pc ls (.ref (tad G 19) :: rest)) :=
  va_get (D := G.1) (ci := 4) (C := RX4) (T := TX4) (N := 32) S.1 S.2.1 S.2.2.2.2 inlX4 S.2.2.2.1 hI.1 hI.2.1 19 rfl rfl 26 (by decide) (S.2.2.2.2 _ hm) (fun _ h => h) rfl hd kk
theorem tg_X4_27 (S : CallFix p m c cc nL s args wsL_law own) (hI : tIn G A s st H locs) (hm : Cond.fieldLink own index "TrackedLettersModel" "spanMany" "[I" ∈ wsL_law) (hd : decode cc pc = .ok (.getfield index, 3)) (kk : W p l e R s m args below meth c H locs cells slots Q (F0 m (pc + 3) ls (.ref (tad G 39) :: rest))) : W p l e R s m args below meth c H locs cells slots Q (F0 m pc ls (.ref (tad G 19) :: rest)) :=
  va_get (D := G.1) (ci := 4) (C := RX4) (T := TX4) (N := 32) S.1 S.2.1 S.2.2.2.2 inlX4 S.2.2.2.1 hI.1 hI.2.1 19 rfl rfl 27 (by decide) (S.2.2.2.2 _ hm) (fun _ h => h) rfl hd kk
theorem tg_X4_28 (S : CallFix p m c cc nL s args wsL_law own) (hI : tIn G A s st H locs) (hm : Cond.fieldLink own index "TrackedLettersModel" "spanFirst" "[I" ∈ wsL_law) (hd : decode cc pc = .ok (.getfield index, 3)) (kk : W p l e R s m args below meth c H locs cells slots Q (F0 m (pc + 3) ls (.ref (tad G 40) :: rest))) : W p l e R s m args below meth c H locs cells slots Q (F0 m pc ls (.ref (tad G 19) :: rest)) :=
  va_get (D := G.1) (ci := 4) (C := RX4) (T := TX4) (N := 32) S.1 S.2.1 S.2.2.2.2 inlX4 S.2.2.2.1 hI.1 hI.2.1 19 rfl rfl 28 (by decide) (S.2.2.2.2 _ hm) (fun _ h => h) rfl hd kk
theorem tg_X4_29 (S : CallFix p m c cc nL s args wsL_law own) (hI : tIn G A s st H locs) (hm : Cond.fieldLink own index "TrackedLettersModel" "sets" "I" ∈ wsL_law) (hd : decode cc pc = .ok (.getfield index, 3)) (kk : W p l e R s m args below meth c H locs cells slots Q (F0 m (pc + 3) ls (.int (tg_I st 129) :: rest))) : W p l e R s m args below meth c H locs cells slots Q (F0 m pc ls (.ref (tad G 19) :: rest)) :=
  va_get (D := G.1) (ci := 4) (C := RX4) (T := TX4) (N := 32) S.1 S.2.1 S.2.2.2.2 inlX4 S.2.2.2.1 hI.1 hI.2.1 19 rfl rfl 29 (by decide) (S.2.2.2.2 _ hm) (fun _ h => h) rfl hd kk
theorem tp_X4_29 (S : CallFix p m c cc nL s args wsL_law own) (hI : tIn G A s st H locs) (hm : Cond.fieldLink own index "TrackedLettersModel" "sets" "I" ∈ wsL_law) {v : Int32} {kk : tST → Option β} (hf : tlet (tp_I st 129 v) kk = some z) (hd : decode cc pc = .ok (.putfield index, 3)) (kn : ∀ (st1 : tST) (H1 : Heap) (locs1 : List Loc), tIn G A s st1 H1 locs1 → kk st1 = some z → W p l e R s m args below meth c H1 locs1 cells slots Q (F0 m (pc + 3) ls rest)) : W p l e R s m args below meth c H locs cells slots Q (F0 m pc ls (.int v :: .ref (tad G 19) :: rest)) :=
  va_put (D := G.1) (ci := 4) (v := .int v) (ty := .int) (C := RX4) (T := TX4) (N := 32) S.1 S.2.1 S.2.2.2.2 inlX4 tyX4 tyX4_ok nmX4 S.2.2.2.1 hI.1 hI.2.1 hI.2.2.1 hI.2.2.2 19 rfl rfl 29 (by decide) (S.2.2.2.2 _ hm) (fun _ h => h) rfl (by decide +kernel) rfl rfl (Nat.le_of_ble_eq_true rfl) hd (fun H1 locs1 hP hD hS => kn (tp_I st 129 v) H1 locs1 ⟨hI.1, hP, hD, hS⟩ hf)
theorem tg_X4_30 (S : CallFix p m c cc nL s args wsL_law own) (hI : tIn G A s st H locs) (hm : Cond.fieldLink own index "TrackedLettersModel" "best" "I" ∈ wsL_law) (hd : decode cc pc = .ok (.getfield index, 3)) (kk : W p l e R s m args below meth c H locs cells slots Q (F0 m (pc + 3) ls (.int (tg_I st 130) :: rest))) : W p l e R s m args below meth c H locs cells slots Q (F0 m pc ls (.ref (tad G 19) :: rest)) :=
  va_get (D := G.1) (ci := 4) (C := RX4) (T := TX4) (N := 32) S.1 S.2.1 S.2.2.2.2 inlX4 S.2.2.2.1 hI.1 hI.2.1 19 rfl rfl 30 (by decide) (S.2.2.2.2 _ hm) (fun _ h => h) rfl hd kk
theorem tp_X4_30 (S : CallFix p m c cc nL s args wsL_law own) (hI : tIn G A s st H locs) (hm : Cond.fieldLink own index "TrackedLettersModel" "best" "I" ∈ wsL_law) {v : Int32} {kk : tST → Option β} (hf : tlet (tp_I st 130 v) kk = some z) (hd : decode cc pc = .ok (.putfield index, 3)) (kn : ∀ (st1 : tST) (H1 : Heap) (locs1 : List Loc), tIn G A s st1 H1 locs1 → kk st1 = some z → W p l e R s m args below meth c H1 locs1 cells slots Q (F0 m (pc + 3) ls rest)) : W p l e R s m args below meth c H locs cells slots Q (F0 m pc ls (.int v :: .ref (tad G 19) :: rest)) :=
  va_put (D := G.1) (ci := 4) (v := .int v) (ty := .int) (C := RX4) (T := TX4) (N := 32) S.1 S.2.1 S.2.2.2.2 inlX4 tyX4 tyX4_ok nmX4 S.2.2.2.1 hI.1 hI.2.1 hI.2.2.1 hI.2.2.2 19 rfl rfl 30 (by decide) (S.2.2.2.2 _ hm) (fun _ h => h) rfl (by decide +kernel) rfl rfl (Nat.le_of_ble_eq_true rfl) hd (fun H1 locs1 hP hD hS => kn (tp_I st 130 v) H1 locs1 ⟨hI.1, hP, hD, hS⟩ hf)
theorem tg_X4_31 (S : CallFix p m c cc nL s args wsL_law own) (hI : tIn G A s st H locs) (hm : Cond.fieldLink own index "TrackedLettersModel" "h" "J" ∈ wsL_law) (hd : decode cc pc = .ok (.getfield index, 3)) (kk : W p l e R s m args below meth c H locs cells slots Q (F0 m (pc + 3) ls (.long (tg_L st 1) :: rest))) : W p l e R s m args below meth c H locs cells slots Q (F0 m pc ls (.ref (tad G 19) :: rest)) :=
  va_get (D := G.1) (ci := 4) (C := RX4) (T := TX4) (N := 32) S.1 S.2.1 S.2.2.2.2 inlX4 S.2.2.2.1 hI.1 hI.2.1 19 rfl rfl 31 (by decide) (S.2.2.2.2 _ hm) (fun _ h => h) rfl hd kk
theorem tp_X4_31 (S : CallFix p m c cc nL s args wsL_law own) (hI : tIn G A s st H locs) (hm : Cond.fieldLink own index "TrackedLettersModel" "h" "J" ∈ wsL_law) {v : Int64} {kk : tST → Option β} (hf : tlet (tp_L st 1 v) kk = some z) (hd : decode cc pc = .ok (.putfield index, 3)) (kn : ∀ (st1 : tST) (H1 : Heap) (locs1 : List Loc), tIn G A s st1 H1 locs1 → kk st1 = some z → W p l e R s m args below meth c H1 locs1 cells slots Q (F0 m (pc + 3) ls rest)) : W p l e R s m args below meth c H locs cells slots Q (F0 m pc ls (.long v :: .ref (tad G 19) :: rest)) :=
  va_put (D := G.1) (ci := 4) (v := .long v) (ty := .long) (C := RX4) (T := TX4) (N := 32) S.1 S.2.1 S.2.2.2.2 inlX4 tyX4 tyX4_ok nmX4 S.2.2.2.1 hI.1 hI.2.1 hI.2.2.1 hI.2.2.2 19 rfl rfl 31 (by decide) (S.2.2.2.2 _ hm) (fun _ h => h) rfl (by decide +kernel) rfl rfl (Nat.le_of_ble_eq_true rfl) hd (fun H1 locs1 hP hD hS => kn (tp_L st 1 v) H1 locs1 ⟨hI.1, hP, hD, hS⟩ hf)
end TK
theorem twa_1 (G : tG) (st : tST) (j : Nat) (y : Int32) : (tw G st).set 1 (tad G 1, .inl (G.2.1, 40, .inl (upd (tg_A st 1) j y))) = tw G (tp_A st 1 j y) := rfl
theorem twa_2 (G : tG) (st : tST) (j : Nat) (y : Int32) : (tw G st).set 2 (tad G 2, .inl (G.2.1, 64, .inl (upd (tg_A st 2) j y))) = tw G (tp_A st 2 j y) := rfl
theorem twa_4 (G : tG) (st : tST) (j : Nat) (y : Int32) : (tw G st).set 4 (tad G 4, .inl (G.2.1, 90, .inl (upd (tg_A st 4) j y))) = tw G (tp_A st 4 j y) := rfl
theorem twa_5 (G : tG) (st : tST) (j : Nat) (y : Int32) : (tw G st).set 5 (tad G 5, .inl (G.2.1, 90, .inl (upd (tg_A st 5) j y))) = tw G (tp_A st 5 j y) := rfl
theorem twa_6 (G : tG) (st : tST) (j : Nat) (y : Int32) : (tw G st).set 6 (tad G 6, .inl (G.2.1, 90, .inl (upd (tg_A st 6) j y))) = tw G (tp_A st 6 j y) := rfl
theorem twa_7 (G : tG) (st : tST) (j : Nat) (y : Int32) : (tw G st).set 7 (tad G 7, .inl (G.2.1, 90, .inl (upd (tg_A st 7) j y))) = tw G (tp_A st 7 j y) := rfl
theorem twa_9 (G : tG) (st : tST) (j : Nat) (y : Int32) : (tw G st).set 9 (tad G 9, .inl (G.2.1, 12, .inl (upd (tg_A st 9) j y))) = tw G (tp_A st 9 j y) := rfl
theorem twa_10 (G : tG) (st : tST) (j : Nat) (y : Int32) : (tw G st).set 10 (tad G 10, .inl (G.2.1, 12, .inl (upd (tg_A st 10) j y))) = tw G (tp_A st 10 j y) := rfl
theorem twa_11 (G : tG) (st : tST) (j : Nat) (y : Int32) : (tw G st).set 11 (tad G 11, .inl (G.2.1, 12, .inl (upd (tg_A st 11) j y))) = tw G (tp_A st 11 j y) := rfl
theorem twa_12 (G : tG) (st : tST) (j : Nat) (y : Int32) : (tw G st).set 12 (tad G 12, .inl (G.2.1, 12, .inl (upd (tg_A st 12) j y))) = tw G (tp_A st 12 j y) := rfl
theorem twa_13 (G : tG) (st : tST) (j : Nat) (y : Int64) : (tw G st).set 13 (tad G 13, .inl (G.2.2.1, 12, .inr (.inl (vp_updL (tg_B st 13) j y)))) = tw G (tp_B st 13 j y) := rfl
theorem twa_15 (G : tG) (st : tST) (j : Nat) (y : Int32) : (tw G st).set 15 (tad G 15, .inl (G.2.1, 90, .inl (upd (tg_A st 15) j y))) = tw G (tp_A st 15 j y) := rfl
theorem twa_16 (G : tG) (st : tST) (j : Nat) (y : Int32) : (tw G st).set 16 (tad G 16, .inl (G.2.1, 90, .inl (upd (tg_A st 16) j y))) = tw G (tp_A st 16 j y) := rfl
theorem twa_17 (G : tG) (st : tST) (j : Nat) (y : Int32) : (tw G st).set 17 (tad G 17, .inl (G.2.1, 90, .inl (upd (tg_A st 17) j y))) = tw G (tp_A st 17 j y) := rfl
theorem twa_18 (G : tG) (st : tST) (j : Nat) (y : Int32) : (tw G st).set 18 (tad G 18, .inl (G.2.1, 90, .inl (upd (tg_A st 18) j y))) = tw G (tp_A st 18 j y) := rfl
theorem twa_20 (G : tG) (st : tST) (j : Nat) (y : Int32) : (tw G st).set 20 (tad G 20, .inl (G.2.1, 40, .inl (upd (tg_A st 20) j y))) = tw G (tp_A st 20 j y) := rfl
theorem twa_21 (G : tG) (st : tST) (j : Nat) (y : Int32) : (tw G st).set 21 (tad G 21, .inl (G.2.1, 64, .inl (upd (tg_A st 21) j y))) = tw G (tp_A st 21 j y) := rfl
theorem twa_22 (G : tG) (st : tST) (j : Nat) (y : Int32) : (tw G st).set 22 (tad G 22, .inl (G.2.1, 64, .inl (upd (tg_A st 22) j y))) = tw G (tp_A st 22 j y) := rfl
theorem twa_23 (G : tG) (st : tST) (j : Nat) (y : Int32) : (tw G st).set 23 (tad G 23, .inl (G.2.1, 64, .inl (upd (tg_A st 23) j y))) = tw G (tp_A st 23 j y) := rfl
theorem twa_24 (G : tG) (st : tST) (j : Nat) (y : Int32) : (tw G st).set 24 (tad G 24, .inl (G.2.1, 64, .inl (upd (tg_A st 24) j y))) = tw G (tp_A st 24 j y) := rfl
theorem twa_25 (G : tG) (st : tST) (j : Nat) (y : Int32) : (tw G st).set 25 (tad G 25, .inl (G.2.1, 12, .inl (upd (tg_A st 25) j y))) = tw G (tp_A st 25 j y) := rfl
theorem twa_26 (G : tG) (st : tST) (j : Nat) (y : Int32) : (tw G st).set 26 (tad G 26, .inl (G.2.1, 12, .inl (upd (tg_A st 26) j y))) = tw G (tp_A st 26 j y) := rfl
theorem twa_27 (G : tG) (st : tST) (j : Nat) (y : Int32) : (tw G st).set 27 (tad G 27, .inl (G.2.1, 12, .inl (upd (tg_A st 27) j y))) = tw G (tp_A st 27 j y) := rfl
theorem twa_28 (G : tG) (st : tST) (j : Nat) (y : Int32) : (tw G st).set 28 (tad G 28, .inl (G.2.2.2.1, 12, .inl (upd (tg_A st 28) j y))) = tw G (tp_A st 28 j y) := rfl
theorem twa_29 (G : tG) (st : tST) (j : Nat) (y : Int32) : (tw G st).set 29 (tad G 29, .inl (G.2.1, 90, .inl (upd (tg_A st 29) j y))) = tw G (tp_A st 29 j y) := rfl
theorem twa_30 (G : tG) (st : tST) (j : Nat) (y : Int32) : (tw G st).set 30 (tad G 30, .inl (G.2.1, 90, .inl (upd (tg_A st 30) j y))) = tw G (tp_A st 30 j y) := rfl
theorem twa_31 (G : tG) (st : tST) (j : Nat) (y : Int32) : (tw G st).set 31 (tad G 31, .inl (G.2.1, 90, .inl (upd (tg_A st 31) j y))) = tw G (tp_A st 31 j y) := rfl
theorem twa_32 (G : tG) (st : tST) (j : Nat) (y : Int32) : (tw G st).set 32 (tad G 32, .inl (G.2.1, 90, .inl (upd (tg_A st 32) j y))) = tw G (tp_A st 32 j y) := rfl
theorem twa_33 (G : tG) (st : tST) (j : Nat) (y : Int32) : (tw G st).set 33 (tad G 33, .inl (G.2.1, 90, .inl (upd (tg_A st 33) j y))) = tw G (tp_A st 33 j y) := rfl
theorem twa_34 (G : tG) (st : tST) (j : Nat) (y : Int32) : (tw G st).set 34 (tad G 34, .inl (G.2.1, 90, .inl (upd (tg_A st 34) j y))) = tw G (tp_A st 34 j y) := rfl
theorem twa_35 (G : tG) (st : tST) (j : Nat) (y : Int32) : (tw G st).set 35 (tad G 35, .inl (G.2.1, 64, .inl (upd (tg_A st 35) j y))) = tw G (tp_A st 35 j y) := rfl
theorem twa_36 (G : tG) (st : tST) (j : Nat) (y : Int32) : (tw G st).set 36 (tad G 36, .inl (G.2.2.2.1, 90, .inl (upd (tg_A st 36) j y))) = tw G (tp_A st 36 j y) := rfl
theorem twa_37 (G : tG) (st : tST) (j : Nat) (y : Int32) : (tw G st).set 37 (tad G 37, .inl (G.2.1, 64, .inl (upd (tg_A st 37) j y))) = tw G (tp_A st 37 j y) := rfl
theorem twa_38 (G : tG) (st : tST) (j : Nat) (y : Int32) : (tw G st).set 38 (tad G 38, .inl (G.2.1, 90, .inl (upd (tg_A st 38) j y))) = tw G (tp_A st 38 j y) := rfl
theorem twa_39 (G : tG) (st : tST) (j : Nat) (y : Int32) : (tw G st).set 39 (tad G 39, .inl (G.2.1, 90, .inl (upd (tg_A st 39) j y))) = tw G (tp_A st 39 j y) := rfl
theorem twa_40 (G : tG) (st : tST) (j : Nat) (y : Int32) : (tw G st).set 40 (tad G 40, .inl (G.2.1, 90, .inl (upd (tg_A st 40) j y))) = tw G (tp_A st 40 j y) := rfl
section TC
variable {p : Program} {l : Launch} {e : Env} {R : Room} {s : State} {m : MethodId} {args : Array Value} {below : List Frame} {meth : Method} {c : Code} {H : Heap} {locs : List Loc} {Q : State → Prop} {st0 : List Value} {a : Array Value} {cc : ByteArray} {nL pc index : Nat} {ls : Array Slot} {rest : List Value} {own : String} {G : tG} {st : tST}
theorem tk_cI (hI : tIn G (tA G s.heap.size) s st H locs) {r : Int32} {st' : tST} (hr : va_Run p l e R s m args below meth c H locs 0 0 0 0 (F0 m pc ls st0) rest (va_Qi (fun r' u => r' = r ∧ u = st') (tBw G (tA G H.size)) (tA G H.size) a) (tA G H.size)) (kk : ∀ (H1 : Heap) (locs1 : List Loc), tIn G (tA G s.heap.size) s st' H1 locs1 → W p l e R s m args below meth c H1 locs1 0 0 Q (F0 m (pc + 3) ls (.int r :: rest))) : W p l e R s m args below meth c H locs 0 0 Q (F0 m pc ls st0) := by
  refine va_calli hr hI.2.2.2 (fun q _ h => tA_sub hI.2.2.2 q h) (fun q h => tA_sub hI.2.2.2 q h) (fun r' u t H1 locs1 ht hvm hp hB hz hk hS => ?_)
  obtain ⟨rfl, rfl⟩ := hp
  obtain ⟨hP, hK, hD⟩ := hB
  exact kk H1 locs1 ⟨hI.1, by rw [← ht]; exact hP, hD.weaken (fun _ q _ h => tA_sub hI.2.2.2 q.1 h), hS⟩
theorem tk_cL (hI : tIn G (tA G s.heap.size) s st H locs) {r : Int64} {st' : tST} (hr : va_Run p l e R s m args below meth c H locs 0 0 0 0 (F0 m pc ls st0) rest (va_Ql (fun r' u => r' = r ∧ u = st') (tBw G (tA G H.size)) (tA G H.size) a) (tA G H.size)) (kk : ∀ (H1 : Heap) (locs1 : List Loc), tIn G (tA G s.heap.size) s st' H1 locs1 → W p l e R s m args below meth c H1 locs1 0 0 Q (F0 m (pc + 3) ls (.long r :: rest))) : W p l e R s m args below meth c H locs 0 0 Q (F0 m pc ls st0) := by
  refine va_calll hr hI.2.2.2 (fun q _ h => tA_sub hI.2.2.2 q h) (fun q h => tA_sub hI.2.2.2 q h) (fun r' u t H1 locs1 ht hvm hp hB hz hk hS => ?_)
  obtain ⟨rfl, rfl⟩ := hp
  obtain ⟨hP, hK, hD⟩ := hB
  exact kk H1 locs1 ⟨hI.1, by rw [← ht]; exact hP, hD.weaken (fun _ q _ h => tA_sub hI.2.2.2 q.1 h), hS⟩
theorem tk_cV (hI : tIn G (tA G s.heap.size) s st H locs) {st' : tST} (hr : va_Run p l e R s m args below meth c H locs 0 0 0 0 (F0 m pc ls st0) rest (va_Qv (fun u => u = st') (tBw G (tA G H.size)) (tA G H.size) a) (tA G H.size)) (kk : ∀ (H1 : Heap) (locs1 : List Loc), tIn G (tA G s.heap.size) s st' H1 locs1 → W p l e R s m args below meth c H1 locs1 0 0 Q (F0 m (pc + 3) ls rest)) : W p l e R s m args below meth c H locs 0 0 Q (F0 m pc ls st0) := by
  refine va_callv hr hI.2.2.2 (fun q _ h => tA_sub hI.2.2.2 q h) (fun q h => tA_sub hI.2.2.2 q h) (fun u t H1 locs1 ht hvm hp hB hz hk hS => ?_)
  obtain rfl := hp
  obtain ⟨hP, hK, hD⟩ := hB
  exact kk H1 locs1 ⟨hI.1, by rw [← ht]; exact hP, hD.weaken (fun _ q _ h => tA_sub hI.2.2.2 q.1 h), hS⟩
theorem tk_vI (S : CallFix p m c cc nL s args wsL_law own) (hI : tIn G (tA G s.heap.size) s st H locs) (hls : ls.size = nL) {y : MethodName} {bytes : ByteArray} {mLc n : Nat} {ret : Option FieldType} {rmc : Room} {C : String} {b : Nat} {As : List Value} {r : Int32} {st' : tST} (hM : tCI l G y bytes mLc ret rmc (.ref b :: As) st r st') (cw : CallW R s args own C index y bytes mLc ret (Cond.code y bytes mLc ret :: wsL_law) rmc 0 0 n) (q0 ci : Nat) {fs : List Value} {qq : vw_C} (hrv : (tw G st)[q0]? = some (b, .inr (ci, fs))) (hcl : vwCl[ci]? = some qq) (hC : qq.1 = C) (hn : As.length = n) (rest : List Value) (hst : st0 = As.reverse ++ .ref b :: rest) (hW : (rest.map fun v => v.category).sum ≤ 8) (hdg : decode cc pc = .ok (.invokevirtual index, 3)) (kk : ∀ (H1 : Heap) (locs1 : List Loc), tIn G (tA G s.heap.size) s st' H1 locs1 → W p l e R s m args below meth c H1 locs1 0 0 Q (F0 m (pc + 3) ls (.int r :: rest))) : W p l e R s m args below meth c H locs 0 0 Q (F0 m pc ls st0) := by
  subst hC
  exact tk_cI hI (va_runV S (hM H.size) cw ⟨tk_blind, va_recv hI.1 hI.2.1 hcl hrv, fun U hU hW => ⟨rfl, by rw [hU], by rw [hU]; exact hI.2.1, va_K.moved hW.alike hI.1, hI.2.2.1.weaken (fun _ _ _ _ => trivial)⟩⟩ rfl hn hls hst (lv_room hW) hdg ⟨Nat.zero_le _, Nat.zero_le _⟩) kk
theorem tk_sI (S : CallFix p m c cc nL s args wsL_law own) (hI : tIn G (tA G s.heap.size) s st H locs) (hls : ls.size = nL) {y : MethodName} {bytes : ByteArray} {mLc n : Nat} {ret : Option FieldType} {rmc : Room} {As : List Value} {r : Int32} {st' : tST} (hM : tCI l G y bytes mLc ret rmc As st r st') (cw : CallB R s args own index y bytes mLc ret (Cond.code y bytes mLc ret :: wsL_law) rmc 0 0 n ∧ (Cond.static y).before args s = true) (hn : As.length = n) (rest : List Value) (hst : st0 = As.reverse ++ rest) (hW : (rest.map fun v => v.category).sum ≤ 8) (hdg : decode cc pc = .ok (.invokestatic index, 3)) (kk : ∀ (H1 : Heap) (locs1 : List Loc), tIn G (tA G s.heap.size) s st' H1 locs1 → W p l e R s m args below meth c H1 locs1 0 0 Q (F0 m (pc + 3) ls (.int r :: rest))) : W p l e R s m args below meth c H locs 0 0 Q (F0 m pc ls st0) :=
  tk_cI hI (va_runS S (hM H.size) cw ⟨tk_blind, fun U hU hW => ⟨rfl, by rw [hU], by rw [hU]; exact hI.2.1, va_K.moved hW.alike hI.1, hI.2.2.1.weaken (fun _ _ _ _ => trivial)⟩⟩ rfl hn hls hst (lv_room hW) hdg ⟨Nat.zero_le _, Nat.zero_le _⟩) kk
theorem tk_vL (S : CallFix p m c cc nL s args wsL_law own) (hI : tIn G (tA G s.heap.size) s st H locs) (hls : ls.size = nL) {y : MethodName} {bytes : ByteArray} {mLc n : Nat} {ret : Option FieldType} {rmc : Room} {C : String} {b : Nat} {As : List Value} {r : Int64} {st' : tST} (hM : tCL l G y bytes mLc ret rmc (.ref b :: As) st r st') (cw : CallW R s args own C index y bytes mLc ret (Cond.code y bytes mLc ret :: wsL_law) rmc 0 0 n) (q0 ci : Nat) {fs : List Value} {qq : vw_C} (hrv : (tw G st)[q0]? = some (b, .inr (ci, fs))) (hcl : vwCl[ci]? = some qq) (hC : qq.1 = C) (hn : As.length = n) (rest : List Value) (hst : st0 = As.reverse ++ .ref b :: rest) (hW : (rest.map fun v => v.category).sum ≤ 8) (hdg : decode cc pc = .ok (.invokevirtual index, 3)) (kk : ∀ (H1 : Heap) (locs1 : List Loc), tIn G (tA G s.heap.size) s st' H1 locs1 → W p l e R s m args below meth c H1 locs1 0 0 Q (F0 m (pc + 3) ls (.long r :: rest))) : W p l e R s m args below meth c H locs 0 0 Q (F0 m pc ls st0) := by
  subst hC
  exact tk_cL hI (va_runV S (hM H.size) cw ⟨tk_blind, va_recv hI.1 hI.2.1 hcl hrv, fun U hU hW => ⟨rfl, by rw [hU], by rw [hU]; exact hI.2.1, va_K.moved hW.alike hI.1, hI.2.2.1.weaken (fun _ _ _ _ => trivial)⟩⟩ rfl hn hls hst (lv_room hW) hdg ⟨Nat.zero_le _, Nat.zero_le _⟩) kk
theorem tk_sL (S : CallFix p m c cc nL s args wsL_law own) (hI : tIn G (tA G s.heap.size) s st H locs) (hls : ls.size = nL) {y : MethodName} {bytes : ByteArray} {mLc n : Nat} {ret : Option FieldType} {rmc : Room} {As : List Value} {r : Int64} {st' : tST} (hM : tCL l G y bytes mLc ret rmc As st r st') (cw : CallB R s args own index y bytes mLc ret (Cond.code y bytes mLc ret :: wsL_law) rmc 0 0 n ∧ (Cond.static y).before args s = true) (hn : As.length = n) (rest : List Value) (hst : st0 = As.reverse ++ rest) (hW : (rest.map fun v => v.category).sum ≤ 8) (hdg : decode cc pc = .ok (.invokestatic index, 3)) (kk : ∀ (H1 : Heap) (locs1 : List Loc), tIn G (tA G s.heap.size) s st' H1 locs1 → W p l e R s m args below meth c H1 locs1 0 0 Q (F0 m (pc + 3) ls (.long r :: rest))) : W p l e R s m args below meth c H locs 0 0 Q (F0 m pc ls st0) :=
  tk_cL hI (va_runS S (hM H.size) cw ⟨tk_blind, fun U hU hW => ⟨rfl, by rw [hU], by rw [hU]; exact hI.2.1, va_K.moved hW.alike hI.1, hI.2.2.1.weaken (fun _ _ _ _ => trivial)⟩⟩ rfl hn hls hst (lv_room hW) hdg ⟨Nat.zero_le _, Nat.zero_le _⟩) kk
theorem tk_vV (S : CallFix p m c cc nL s args wsL_law own) (hI : tIn G (tA G s.heap.size) s st H locs) (hls : ls.size = nL) {y : MethodName} {bytes : ByteArray} {mLc n : Nat} {ret : Option FieldType} {rmc : Room} {C : String} {b : Nat} {As : List Value} {st' : tST} (hM : tCV l G y bytes mLc ret rmc (.ref b :: As) st st') (cw : CallW R s args own C index y bytes mLc ret (Cond.code y bytes mLc ret :: wsL_law) rmc 0 0 n) (q0 ci : Nat) {fs : List Value} {qq : vw_C} (hrv : (tw G st)[q0]? = some (b, .inr (ci, fs))) (hcl : vwCl[ci]? = some qq) (hC : qq.1 = C) (hn : As.length = n) (rest : List Value) (hst : st0 = As.reverse ++ .ref b :: rest) (hW : (rest.map fun v => v.category).sum ≤ 8) (hdg : decode cc pc = .ok (.invokevirtual index, 3)) (kk : ∀ (H1 : Heap) (locs1 : List Loc), tIn G (tA G s.heap.size) s st' H1 locs1 → W p l e R s m args below meth c H1 locs1 0 0 Q (F0 m (pc + 3) ls (rest))) : W p l e R s m args below meth c H locs 0 0 Q (F0 m pc ls st0) := by
  subst hC
  exact tk_cV hI (va_runV S (hM H.size) cw ⟨tk_blind, va_recv hI.1 hI.2.1 hcl hrv, fun U hU hW => ⟨rfl, by rw [hU], by rw [hU]; exact hI.2.1, va_K.moved hW.alike hI.1, hI.2.2.1.weaken (fun _ _ _ _ => trivial)⟩⟩ rfl hn hls hst (lv_room hW) hdg ⟨Nat.zero_le _, Nat.zero_le _⟩) kk
theorem tk_sV (S : CallFix p m c cc nL s args wsL_law own) (hI : tIn G (tA G s.heap.size) s st H locs) (hls : ls.size = nL) {y : MethodName} {bytes : ByteArray} {mLc n : Nat} {ret : Option FieldType} {rmc : Room} {As : List Value} {st' : tST} (hM : tCV l G y bytes mLc ret rmc As st st') (cw : CallB R s args own index y bytes mLc ret (Cond.code y bytes mLc ret :: wsL_law) rmc 0 0 n ∧ (Cond.static y).before args s = true) (hn : As.length = n) (rest : List Value) (hst : st0 = As.reverse ++ rest) (hW : (rest.map fun v => v.category).sum ≤ 8) (hdg : decode cc pc = .ok (.invokestatic index, 3)) (kk : ∀ (H1 : Heap) (locs1 : List Loc), tIn G (tA G s.heap.size) s st' H1 locs1 → W p l e R s m args below meth c H1 locs1 0 0 Q (F0 m (pc + 3) ls (rest))) : W p l e R s m args below meth c H locs 0 0 Q (F0 m pc ls st0) :=
  tk_cV hI (va_runS S (hM H.size) cw ⟨tk_blind, fun U hU hW => ⟨rfl, by rw [hU], by rw [hU]; exact hI.2.1, va_K.moved hW.alike hI.1, hI.2.2.1.weaken (fun _ _ _ _ => trivial)⟩⟩ rfl hn hls hst (lv_room hW) hdg ⟨Nat.zero_le _, Nat.zero_le _⟩) kk
theorem tk_ri (S : CallFix p m c cc nL s args wsL_law own) (hr : meth.sig.returnType = some .int) (hlk : meth.locks = false) (hI : tIn G (tA G s.heap.size) s st H locs) {v : Int32} (hd : decode cc pc = .ok (.ireturn, 1)) : W p l e R s m args below meth c H locs 0 0 (tZI G below args s v st) (F0 m pc ls [.int v]) :=
  W.iret (v := v) S.1 S.2.1 hr (fun t ht hW => ⟨⟨v, st, rfl, ⟨rfl, rfl⟩, by rw [ht]; exact hI.2.1, va_K.moved hW.alike hI.1, hI.2.2.1⟩, hI.2.2.2.F ht⟩) hI.2.2.2.2.2 hd hlk
theorem tk_rz (S : CallFix p m c cc nL s args wsL_law own) (hr : meth.sig.returnType = some .boolean) (hlk : meth.locks = false) (hI : tIn G (tA G s.heap.size) s st H locs) {v : Int32} (hn : narrow .boolean (.int v) = .int v) (hd : decode cc pc = .ok (.ireturn, 1)) : W p l e R s m args below meth c H locs 0 0 (tZI G below args s v st) (F0 m pc ls [.int v]) :=
  W.zret (v := v) S.1 S.2.1 hr hn (fun t ht hW => ⟨⟨v, st, rfl, ⟨rfl, rfl⟩, by rw [ht]; exact hI.2.1, va_K.moved hW.alike hI.1, hI.2.2.1⟩, hI.2.2.2.F ht⟩) hI.2.2.2.2.2 hd hlk
theorem tk_rl (S : CallFix p m c cc nL s args wsL_law own) (hr : meth.sig.returnType = some .long) (hlk : meth.locks = false) (hI : tIn G (tA G s.heap.size) s st H locs) {v : Int64} (hd : decode cc pc = .ok (.lreturn, 1)) : W p l e R s m args below meth c H locs 0 0 (tZL G below args s v st) (F0 m pc ls [.long v]) :=
  W.lret (v := v) S.1 S.2.1 hr (fun t ht hW => ⟨⟨v, st, rfl, ⟨rfl, rfl⟩, by rw [ht]; exact hI.2.1, va_K.moved hW.alike hI.1, hI.2.2.1⟩, hI.2.2.2.F ht⟩) hI.2.2.2.2.2 hd hlk
theorem tk_rv (S : CallFix p m c cc nL s args wsL_law own) (hr : meth.sig.returnType = none) (hlk : meth.locks = false) (hI : tIn G (tA G s.heap.size) s st H locs) (hd : decode cc pc = .ok (.return_, 1)) : W p l e R s m args below meth c H locs 0 0 (tZV G below args s st) (F0 m pc ls []) :=
  W.vret S.1 S.2.1 hr (fun t ht hW => ⟨⟨st, rfl, rfl, by rw [ht]; exact hI.2.1, va_K.moved hW.alike hI.1, hI.2.2.1⟩, hI.2.2.2.F ht⟩) hI.2.2.2.2.2 hd hlk
theorem tk_riR (S : CallFix p m c cc nL s args wsL_law own) (hr : meth.sig.returnType = some .int) (hlk : meth.locks = false) (hI : tIn G (tA G s.heap.size) s st H locs) {v r : Int32} (hf : some v = some r) (hd : decode cc pc = .ok (.ireturn, 1)) : W p l e R s m args below meth c H locs 0 0 (tZI G below args s r st) (F0 m pc ls [.int v]) := by
  cases hf
  exact tk_ri S hr hlk hI hd
theorem tk_riW (S : CallFix p m c cc nL s args wsL_law own) (hr : meth.sig.returnType = some .int) (hlk : meth.locks = false) (hI : tIn G (tA G s.heap.size) s st H locs) {v r : Int32} {st' : tST} (hf : some (v, st) = some (r, st')) (hd : decode cc pc = .ok (.ireturn, 1)) : W p l e R s m args below meth c H locs 0 0 (tZI G below args s r st') (F0 m pc ls [.int v]) := by
  cases hf
  exact tk_ri S hr hlk hI hd
theorem tk_rlR (S : CallFix p m c cc nL s args wsL_law own) (hr : meth.sig.returnType = some .long) (hlk : meth.locks = false) (hI : tIn G (tA G s.heap.size) s st H locs) {v r : Int64} (hf : some v = some r) (hd : decode cc pc = .ok (.lreturn, 1)) : W p l e R s m args below meth c H locs 0 0 (tZL G below args s r st) (F0 m pc ls [.long v]) := by
  cases hf
  exact tk_rl S hr hlk hI hd
theorem tk_rlW (S : CallFix p m c cc nL s args wsL_law own) (hr : meth.sig.returnType = some .long) (hlk : meth.locks = false) (hI : tIn G (tA G s.heap.size) s st H locs) {v r : Int64} {st' : tST} (hf : some (v, st) = some (r, st')) (hd : decode cc pc = .ok (.lreturn, 1)) : W p l e R s m args below meth c H locs 0 0 (tZL G below args s r st') (F0 m pc ls [.long v]) := by
  cases hf
  exact tk_rl S hr hlk hI hd
theorem tk_n0 : narrow .boolean (.int 0) = .int 0 := rfl
theorem tk_n1 : narrow .boolean (.int 1) = .int 1 := rfl
theorem tk_rzR (S : CallFix p m c cc nL s args wsL_law own) (hr : meth.sig.returnType = some .boolean) (hlk : meth.locks = false) (hI : tIn G (tA G s.heap.size) s st H locs) {v r : Int32} (hf : tzr v (some v) = some r) (hd : decode cc pc = .ok (.ireturn, 1)) : W p l e R s m args below meth c H locs 0 0 (tZI G below args s r st) (F0 m pc ls [.int v]) := by
  unfold tzr at hf
  split at hf
  · next h =>
    cases hf
    rcases h with rfl | rfl
    · exact tk_rz S hr hlk hI tk_n0 hd
    · exact tk_rz S hr hlk hI tk_n1 hd
  · cases hf
theorem tk_rzW (S : CallFix p m c cc nL s args wsL_law own) (hr : meth.sig.returnType = some .boolean) (hlk : meth.locks = false) (hI : tIn G (tA G s.heap.size) s st H locs) {v r : Int32} {st' : tST} (hf : tzr v (some (v, st)) = some (r, st')) (hd : decode cc pc = .ok (.ireturn, 1)) : W p l e R s m args below meth c H locs 0 0 (tZI G below args s r st') (F0 m pc ls [.int v]) := by
  unfold tzr at hf
  split at hf
  · next h =>
    cases hf
    rcases h with rfl | rfl
    · exact tk_rz S hr hlk hI tk_n0 hd
    · exact tk_rz S hr hlk hI tk_n1 hd
  · cases hf
theorem tk_rvW (S : CallFix p m c cc nL s args wsL_law own) (hr : meth.sig.returnType = none) (hlk : meth.locks = false) (hI : tIn G (tA G s.heap.size) s st H locs) {st' : tST} (hf : some st = some st') (hd : decode cc pc = .ok (.return_, 1)) : W p l e R s m args below meth c H locs 0 0 (tZV G below args s st') (F0 m pc ls []) := by
  cases hf
  exact tk_rv S hr hlk hI hd
end TC
end
section
/-! X0_names -/
abbrev rm_X0_names : Room := { frames := 0, cells := 0, slots := 0, locals := 0 }
def f_X0_names (x1 : Int32) (st : tST) : Option (Int32) := (if x1 < 0 then tzr (0 : Int32) (some (0 : Int32)) else (if (tg_I st 7) ≤ x1 then tzr (0 : Int32) (some (0 : Int32)) else tzr (1 : Int32) (some (1 : Int32))))
theorem yd_X0_names : yX0_names.cls = RX0 ∧ yX0_names.cls ≠ "java/lang/invoke/MethodHandle" ∧ yX0_names.cls ≠ "java/lang/invoke/VarHandle" ∧ (parseMethodDescriptor yX0_names.desc).map (fun d => d.parameters.length) = some 1 := by decide +kernel
set_option maxHeartbeats 4000000 in
set_option maxRecDepth 100000 in
theorem c_X0_names (l : Launch) (G : tG) (st : tST) (x1 : Int32) {r : Int32} (hf : f_X0_names x1 st = some r) : tCI l G yX0_names cX0_names 2 (some .boolean) rm_X0_names [.ref (tad G 8), .int x1] st r st := by
  refine tk_entI (by decide +kernel) (Nat.le_of_ble_eq_true rfl) (fun p e s m below meth c ls S hr hlk hI hl => ?_)
  have hl : lv_has ls 2 [(0, .ref (tad G 8)), (1, .int x1)] := hl
  have S : CallFix p m c cX0_names 2 s [.ref (tad G 8), .int x1].toArray wsL_law RX0 := S
  have hx := S.1
  have hb := S.2.1
  have hown := S.2.2.2.1
  have hts := S.2.2.2.2
  unfold f_X0_names at hf
  refine lv_iload_n hx hb dX0_names_0 rfl (lv_at hl 1 rfl) ?_
  refine tk_if_lt (tgt := 16) hx hb hf dX0_names_1 (by decide) (fun hf => ?_) (fun hf => ?_)
  · refine lv_iconst (v := 0) hx hb dX0_names_16 (by decide) ?_
    exact tk_rzR S hr hlk hI hf dX0_names_17
  · refine lv_iload_n hx hb dX0_names_4 rfl (lv_at hl 1 rfl) ?_
    refine lv_aload_n hx hb dX0_names_5 rfl (lv_at hl 0 rfl) ?_
    refine tg_X0_5 S hI mw_52 dX0_names_6 ?_
    refine tk_icmp_ge (tgt := 16) hx hb hf dX0_names_9 (by decide) (fun hf => ?_) (fun hf => ?_)
    · refine lv_iconst (v := 0) hx hb dX0_names_16 (by decide) ?_
      exact tk_rzR S hr hlk hI hf dX0_names_17
    · refine lv_iconst (v := 1) hx hb dX0_names_12 (by decide) ?_
      refine lv_goto (tgt := 17) hx hb dX0_names_13 (by decide) ?_
      exact tk_rzR S hr hlk hI hf dX0_names_17
/-! X0_isFull -/
abbrev rm_X0_isFull : Room := { frames := 0, cells := 0, slots := 0, locals := 0 }
def f_X0_isFull (st : tST) : Option (Int32) := (if (tg_I st 7) < (12 : Int32) then tzr (0 : Int32) (some (0 : Int32)) else tzr (1 : Int32) (some (1 : Int32)))
theorem yd_X0_isFull : yX0_isFull.cls = RX0 ∧ yX0_isFull.cls ≠ "java/lang/invoke/MethodHandle" ∧ yX0_isFull.cls ≠ "java/lang/invoke/VarHandle" ∧ (parseMethodDescriptor yX0_isFull.desc).map (fun d => d.parameters.length) = some 0 := by decide +kernel
set_option maxHeartbeats 4000000 in
set_option maxRecDepth 100000 in
theorem c_X0_isFull (l : Launch) (G : tG) (st : tST) {r : Int32} (hf : f_X0_isFull st = some r) : tCI l G yX0_isFull cX0_isFull 1 (some .boolean) rm_X0_isFull [.ref (tad G 8)] st r st := by
  refine tk_entI (by decide +kernel) (Nat.le_of_ble_eq_true rfl) (fun p e s m below meth c ls S hr hlk hI hl => ?_)
  have hl : lv_has ls 1 [(0, .ref (tad G 8))] := hl
  have S : CallFix p m c cX0_isFull 1 s [.ref (tad G 8)].toArray wsL_law RX0 := S
  have hx := S.1
  have hb := S.2.1
  have hown := S.2.2.2.1
  have hts := S.2.2.2.2
  unfold f_X0_isFull at hf
  refine lv_aload_n hx hb dX0_isFull_0 rfl (lv_at hl 0 rfl) ?_
  refine tg_X0_5 S hI mw_52 dX0_isFull_1 ?_
  refine lv_bipush (v := 12) hx hb dX0_isFull_4 (by decide) ?_
  refine tk_icmp_lt (tgt := 13) hx hb hf dX0_isFull_6 (by decide) (fun hf => ?_) (fun hf => ?_)
  · refine lv_iconst (v := 0) hx hb dX0_isFull_13 (by decide) ?_
    exact tk_rzR S hr hlk hI hf dX0_isFull_14
  · refine lv_iconst (v := 1) hx hb dX0_isFull_9 (by decide) ?_
    refine lv_goto (tgt := 14) hx hb dX0_isFull_10 (by decide) ?_
    exact tk_rzR S hr hlk hI hf dX0_isFull_14
/-! X0_add -/
abbrev rm_X0_add : Room := { frames := 0, cells := 0, slots := 0, locals := 0 }
def f_X0_add (x1 : Int32) (x2 : Int32) (st : tST) : Option (Int32 × tST) := tlet (tg_I st 7) (fun i1 => tas 12 i1 (tp_A st 9 (i1).toNatClampNeg x1) (fun s2 => tas 12 i1 (tp_A s2 10 (i1).toNatClampNeg x2) (fun s3 => tas 12 i1 (tp_A s3 11 (i1).toNatClampNeg (0 : Int32)) (fun s4 => tas 12 i1 (tp_A s4 12 (i1).toNatClampNeg (0 : Int32)) (fun s5 => tas 12 i1 (tp_B s5 13 (i1).toNatClampNeg (0 : Int64)) (fun s6 => tlet (tp_I s6 7 ((tg_I s6 7) + (1 : Int32))) (fun s7 => some (i1, s7))))))))
theorem yd_X0_add : yX0_add.cls = RX0 ∧ yX0_add.cls ≠ "java/lang/invoke/MethodHandle" ∧ yX0_add.cls ≠ "java/lang/invoke/VarHandle" ∧ (parseMethodDescriptor yX0_add.desc).map (fun d => d.parameters.length) = some 2 := by decide +kernel
set_option maxHeartbeats 4000000 in
set_option maxRecDepth 100000 in
theorem c_X0_add (l : Launch) (G : tG) (st : tST) (x1 : Int32) (x2 : Int32) {r : Int32} {st' : tST} (hf : f_X0_add x1 x2 st = some (r, st')) : tCI l G yX0_add cX0_add 4 (some .int) rm_X0_add [.ref (tad G 8), .int x1, .int x2] st r st' := by
  refine tk_entI (by decide +kernel) (Nat.le_of_ble_eq_true rfl) (fun p e s m below meth c ls S hr hlk hI hl => ?_)
  have hl : lv_has ls 4 [(0, .ref (tad G 8)), (1, .int x1), (2, .int x2)] := hl
  have S : CallFix p m c cX0_add 4 s [.ref (tad G 8), .int x1, .int x2].toArray wsL_law RX0 := S
  have hx := S.1
  have hb := S.2.1
  have hown := S.2.2.2.1
  have hts := S.2.2.2.2
  unfold f_X0_add at hf
  refine lv_aload_n hx hb dX0_add_0 rfl (lv_at hl 0 rfl) ?_
  refine tg_X0_5 S hI mw_52 dX0_add_1 ?_
  refine tk_topi hf (fun i1 hf => ?_)
  refine lv_istore_n (lv' := [(3, .int i1), (0, .ref (tad G 8)), (1, .int x1), (2, .int x2)]) hx hb dX0_add_4 rfl hl (by decide) rfl (fun ls hl => ?_)
  refine lv_aload_n hx hb dX0_add_5 rfl (lv_at hl 1 rfl) ?_
  refine tg_X0_0 S hI mw_46 dX0_add_6 ?_
  refine lv_iload_n hx hb dX0_add_9 rfl (lv_at hl 0 rfl) ?_
  refine lv_iload_n hx hb dX0_add_10 rfl (lv_at hl 2 rfl) ?_
  refine tk_iast S hI (k := 9) (n := 12) rfl (twa_9 G _) hf dX0_add_11 (fun s2 H locs hI hf => ?_)
  refine lv_aload_n hx hb dX0_add_12 rfl (lv_at hl 1 rfl) ?_
  refine tg_X0_1 S hI mw_47 dX0_add_13 ?_
  refine lv_iload_n hx hb dX0_add_16 rfl (lv_at hl 0 rfl) ?_
  refine lv_iload_n hx hb dX0_add_17 rfl (lv_at hl 3 rfl) ?_
  refine tk_iast S hI (k := 10) (n := 12) rfl (twa_10 G _) hf dX0_add_18 (fun s3 H locs hI hf => ?_)
  refine lv_aload_n hx hb dX0_add_19 rfl (lv_at hl 1 rfl) ?_
  refine tg_X0_2 S hI mw_48 dX0_add_20 ?_
  refine lv_iload_n hx hb dX0_add_23 rfl (lv_at hl 0 rfl) ?_
  refine lv_iconst (v := 0) hx hb dX0_add_24 (by decide) ?_
  refine tk_iast S hI (k := 11) (n := 12) rfl (twa_11 G _) hf dX0_add_25 (fun s4 H locs hI hf => ?_)
  refine lv_aload_n hx hb dX0_add_26 rfl (lv_at hl 1 rfl) ?_
  refine tg_X0_3 S hI mw_49 dX0_add_27 ?_
  refine lv_iload_n hx hb dX0_add_30 rfl (lv_at hl 0 rfl) ?_
  refine lv_iconst (v := 0) hx hb dX0_add_31 (by decide) ?_
  refine tk_iast S hI (k := 12) (n := 12) rfl (twa_12 G _) hf dX0_add_32 (fun s5 H locs hI hf => ?_)
  refine lv_aload_n hx hb dX0_add_33 rfl (lv_at hl 1 rfl) ?_
  refine tg_X0_4 S hI mw_51 dX0_add_34 ?_
  refine lv_iload_n hx hb dX0_add_37 rfl (lv_at hl 0 rfl) ?_
  refine lv_lconst (v := 0) hx hb dX0_add_38 (by decide) ?_
  refine tk_last S hI (k := 13) (n := 12) rfl (twa_13 G _) hf dX0_add_39 (fun s6 H locs hI hf => ?_)
  refine lv_aload_n hx hb dX0_add_40 rfl (lv_at hl 1 rfl) ?_
  refine lv_dup hx hb dX0_add_41 rfl ?_
  refine tg_X0_5 S hI mw_52 dX0_add_42 ?_
  refine lv_iconst (v := 1) hx hb dX0_add_45 (by decide) ?_
  refine lv_iadd hx hb dX0_add_46 ?_
  refine tp_X0_5 S hI mw_52 hf dX0_add_47 (fun s7 H locs hI hf => ?_)
  refine lv_iload_n hx hb dX0_add_50 rfl (lv_at hl 0 rfl) ?_
  exact tk_riW S hr hlk hI hf dX0_add_51
/-! X0_touch -/
abbrev rm_X0_touch : Room := { frames := 0, cells := 0, slots := 0, locals := 0 }
def f_X0_touch (x1 : Int32) (x2 : Int32) (st : tST) : Option (tST) := tal 12 (tg_B st 13) x1 (fun u1 => tas 12 x1 (tp_B st 13 (x1).toNatClampNeg (u1 ||| ((1 : Int64) <<< (x2.toInt64 &&& (63 : Int64))))) (fun s2 => some s2))
theorem yd_X0_touch : yX0_touch.cls = RX0 ∧ yX0_touch.cls ≠ "java/lang/invoke/MethodHandle" ∧ yX0_touch.cls ≠ "java/lang/invoke/VarHandle" ∧ (parseMethodDescriptor yX0_touch.desc).map (fun d => d.parameters.length) = some 2 := by decide +kernel
set_option maxHeartbeats 4000000 in
set_option maxRecDepth 100000 in
theorem c_X0_touch (l : Launch) (G : tG) (st : tST) (x1 : Int32) (x2 : Int32) {st' : tST} (hf : f_X0_touch x1 x2 st = some st') : tCV l G yX0_touch cX0_touch 3 none rm_X0_touch [.ref (tad G 8), .int x1, .int x2] st st' := by
  refine tk_entV (by decide +kernel) (Nat.le_of_ble_eq_true rfl) (fun p e s m below meth c ls S hr hlk hI hl => ?_)
  have hl : lv_has ls 3 [(0, .ref (tad G 8)), (1, .int x1), (2, .int x2)] := hl
  have S : CallFix p m c cX0_touch 3 s [.ref (tad G 8), .int x1, .int x2].toArray wsL_law RX0 := S
  have hx := S.1
  have hb := S.2.1
  have hown := S.2.2.2.1
  have hts := S.2.2.2.2
  unfold f_X0_touch at hf
  refine lv_aload_n hx hb dX0_touch_0 rfl (lv_at hl 0 rfl) ?_
  refine tg_X0_4 S hI mw_51 dX0_touch_1 ?_
  refine lv_iload_n hx hb dX0_touch_4 rfl (lv_at hl 1 rfl) ?_
  refine lv_dup2_11 hx hb dX0_touch_5 rfl rfl ?_
  refine tk_lald S hI (k := 13) (n := 12) rfl hf dX0_touch_6 (fun u1 hf => ?_)
  refine lv_lconst (v := 1) hx hb dX0_touch_7 (by decide) ?_
  refine lv_iload_n hx hb dX0_touch_8 rfl (lv_at hl 2 rfl) ?_
  refine lv_lshl hx hb dX0_touch_9 rfl ?_
  refine lv_lor hx hb dX0_touch_10 ?_
  refine tk_last S hI (k := 13) (n := 12) rfl (twa_13 G _) hf dX0_touch_11 (fun s2 H locs hI hf => ?_)
  exact tk_rvW S hr hlk hI hf dX0_touch_12
/-! X0_inStatus -/
abbrev rm_X0_inStatus : Room := { frames := 0, cells := 0, slots := 0, locals := 0 }
def f_X0_inStatus_4 (st : tST)  : Nat → Int32 → Int32 → Int32 → Option (Int32)
  | 0, _, _, _ => none
  | n + 1, x1, x2, x3 => (if (tg_I st 7) ≤ x3 then some x2 else tal 12 (tg_A st 11) x3 (fun v1 => (if v1 = x1 then tlet (x2 ||| ((1 : Int32) <<< (x3 &&& (31 : Int32)))) (fun i3 => tlet (x3 + (1 : Int32)) (fun i4 => f_X0_inStatus_4 st n x1 i3 i4)) else tlet (x3 + (1 : Int32)) (fun i2 => f_X0_inStatus_4 st n x1 x2 i2))))
def f_X0_inStatus (x1 : Int32) (st : tST) : Option (Int32) := f_X0_inStatus_4 st tfu x1 (0 : Int32) (0 : Int32)
theorem yd_X0_inStatus : yX0_inStatus.cls = RX0 ∧ yX0_inStatus.cls ≠ "java/lang/invoke/MethodHandle" ∧ yX0_inStatus.cls ≠ "java/lang/invoke/VarHandle" ∧ (parseMethodDescriptor yX0_inStatus.desc).map (fun d => d.parameters.length) = some 1 := by decide +kernel
set_option maxHeartbeats 4000000 in
set_option maxRecDepth 100000 in
theorem k_X0_inStatus_4 {l : Launch} {G : tG} {p : Program} {e : Env} {s : State} {m : MethodId} {below : List Frame} {meth : Method} {c : Code} {args : Array Value} {r : Int32} {st : tST} (S : CallFix p m c cX0_inStatus 4 s args wsL_law RX0) (hr : meth.sig.returnType = (some .int)) (hlk : meth.locks = false) : ∀ (n : Nat) (x1 : Int32) (x2 : Int32) (x3 : Int32) (H : Heap) (locs : List Loc) (ls : Array Slot), tIn G (tA G s.heap.size) s st H locs → lv_has ls 4 [(0, .ref (tad G 8)), (1, .int x1), (2, .int x2), (3, .int x3)] → f_X0_inStatus_4 st n x1 x2 x3 = some r → W p l e rm_X0_inStatus s m args below meth c H locs 0 0 (tZI G below args s r st) (F0 m 4 ls []) := by
  have hx := S.1
  have hb := S.2.1
  have hown := S.2.2.2.1
  have hts := S.2.2.2.2
  intro n
  induction n with
  | zero => intro x1 x2 x3 H locs ls hI hl hf; exact nomatch (show (none : Option (Int32)) = some _ from hf)
  | succ n ih =>
    intro x1 x2 x3 H locs ls hI hl hf
    rw [f_X0_inStatus_4] at hf
    refine lv_iload_n hx hb dX0_inStatus_4 rfl (lv_at hl 3 rfl) ?_
    refine lv_aload_n hx hb dX0_inStatus_5 rfl (lv_at hl 0 rfl) ?_
    refine tg_X0_5 S hI mw_52 dX0_inStatus_6 ?_
    refine tk_icmp_ge (tgt := 34) hx hb hf dX0_inStatus_9 (by decide) (fun hf => ?_) (fun hf => ?_)
    · refine lv_iload_n hx hb dX0_inStatus_34 rfl (lv_at hl 2 rfl) ?_
      exact tk_riR S hr hlk hI hf dX0_inStatus_35
    · refine lv_aload_n hx hb dX0_inStatus_12 rfl (lv_at hl 0 rfl) ?_
      refine tg_X0_2 S hI mw_48 dX0_inStatus_13 ?_
      refine lv_iload_n hx hb dX0_inStatus_16 rfl (lv_at hl 3 rfl) ?_
      refine tk_iald S hI (k := 11) (n := 12) rfl hf dX0_inStatus_17 (fun v1 hf => ?_)
      refine lv_iload_n hx hb dX0_inStatus_18 rfl (lv_at hl 1 rfl) ?_
      refine tk_icmp_ne (tgt := 28) hx hb hf dX0_inStatus_19 (by decide) (fun hf => ?_) (fun hf => ?_)
      · refine tk_let hf (fun i2 ei2 hf => ?_)
        refine lv_iinc (v := i2) (lv' := [(3, .int i2), (0, .ref (tad G 8)), (1, .int x1), (2, .int x2)]) hx hb dX0_inStatus_28 hl (k := 3) rfl (by rw [ei2]; rfl) (by decide) rfl (fun ls hl => ?_)
        refine lv_goto (tgt := 4) hx hb dX0_inStatus_31 (by decide) ?_
        exact ih x1 x2 i2 _ _ _ hI (lv_sub hl [1, 2, 3, 0] rfl) hf
      · refine lv_iload_n hx hb dX0_inStatus_22 rfl (lv_at hl 2 rfl) ?_
        refine lv_iconst (v := 1) hx hb dX0_inStatus_23 (by decide) ?_
        refine lv_iload_n hx hb dX0_inStatus_24 rfl (lv_at hl 3 rfl) ?_
        refine lv_ishl hx hb dX0_inStatus_25 ?_
        refine lv_ior hx hb dX0_inStatus_26 ?_
        refine tk_topi hf (fun i3 hf => ?_)
        refine lv_istore_n (lv' := [(2, .int i3), (0, .ref (tad G 8)), (1, .int x1), (3, .int x3)]) hx hb dX0_inStatus_27 rfl hl (by decide) rfl (fun ls hl => ?_)
        refine tk_let hf (fun i4 ei4 hf => ?_)
        refine lv_iinc (v := i4) (lv' := [(3, .int i4), (2, .int i3), (0, .ref (tad G 8)), (1, .int x1)]) hx hb dX0_inStatus_28 hl (k := 3) rfl (by rw [ei4]; rfl) (by decide) rfl (fun ls hl => ?_)
        refine lv_goto (tgt := 4) hx hb dX0_inStatus_31 (by decide) ?_
        exact ih x1 i3 i4 _ _ _ hI (lv_sub hl [2, 3, 1, 0] rfl) hf
set_option maxHeartbeats 4000000 in
set_option maxRecDepth 100000 in
theorem c_X0_inStatus (l : Launch) (G : tG) (st : tST) (x1 : Int32) {r : Int32} (hf : f_X0_inStatus x1 st = some r) : tCI l G yX0_inStatus cX0_inStatus 4 (some .int) rm_X0_inStatus [.ref (tad G 8), .int x1] st r st := by
  refine tk_entI (by decide +kernel) (Nat.le_of_ble_eq_true rfl) (fun p e s m below meth c ls S hr hlk hI hl => ?_)
  have hl : lv_has ls 4 [(0, .ref (tad G 8)), (1, .int x1)] := hl
  have S : CallFix p m c cX0_inStatus 4 s [.ref (tad G 8), .int x1].toArray wsL_law RX0 := S
  have hx := S.1
  have hb := S.2.1
  have hown := S.2.2.2.1
  have hts := S.2.2.2.2
  unfold f_X0_inStatus at hf
  refine lv_iconst (v := 0) hx hb dX0_inStatus_0 (by decide) ?_
  refine lv_istore_n (lv' := [(2, .int (0 : Int32)), (0, .ref (tad G 8)), (1, .int x1)]) hx hb dX0_inStatus_1 rfl hl (by decide) rfl (fun ls hl => ?_)
  refine lv_iconst (v := 0) hx hb dX0_inStatus_2 (by decide) ?_
  refine lv_istore_n (lv' := [(3, .int (0 : Int32)), (2, .int (0 : Int32)), (0, .ref (tad G 8)), (1, .int x1)]) hx hb dX0_inStatus_3 rfl hl (by decide) rfl (fun ls hl => ?_)
  exact k_X0_inStatus_4 S hr hlk tfu x1 (0 : Int32) (0 : Int32) _ _ _ hI (lv_sub hl [2, 3, 1, 0] rfl) hf
/-! X1_leadsTo -/
abbrev rm_X1_leadsTo : Room := { frames := 0, cells := 0, slots := 0, locals := 0 }
def f_X1_leadsTo_5 (st : tST)  : Nat → Int32 → Int32 → Int32 → Option (Int32)
  | 0, _, _, _ => none
  | n + 1, x2, x3, x4 => (if (90 : Int32) ≤ x4 then tzr (1 : Int32) (some (1 : Int32)) else tal 90 (tg_A st 5) x3 (fun v1 => (if v1 = (-1 : Int32) then tzr (1 : Int32) (some (1 : Int32)) else tal 90 (tg_A st 5) x3 (fun v2 => tal 90 (tg_A st 7) v2 (fun v3 => tlet (v3 &&& x2) (fun i4 => tal 90 (tg_A st 6) x3 (fun v5 => (if (i4 &&& (-i4)) = ((1 : Int32) <<< (v5 &&& (31 : Int32))) then tal 90 (tg_A st 5) x3 (fun v6 => tlet (x4 + (1 : Int32)) (fun i7 => f_X1_leadsTo_5 st n x2 v6 i7)) else tzr (0 : Int32) (some (0 : Int32))))))))))
def f_X1_leadsTo (x1 : Int32) (x2 : Int32) (st : tST) : Option (Int32) := f_X1_leadsTo_5 st tfu x2 x1 (0 : Int32)
theorem yd_X1_leadsTo : yX1_leadsTo.cls = RX1 ∧ yX1_leadsTo.cls ≠ "java/lang/invoke/MethodHandle" ∧ yX1_leadsTo.cls ≠ "java/lang/invoke/VarHandle" ∧ (parseMethodDescriptor yX1_leadsTo.desc).map (fun d => d.parameters.length) = some 2 := by decide +kernel
set_option maxHeartbeats 4000000 in
set_option maxRecDepth 100000 in
theorem k_X1_leadsTo_5 {l : Launch} {G : tG} {p : Program} {e : Env} {s : State} {m : MethodId} {below : List Frame} {meth : Method} {c : Code} {args : Array Value} {r : Int32} {st : tST} (S : CallFix p m c cX1_leadsTo 6 s args wsL_law RX1) (hr : meth.sig.returnType = (some .boolean)) (hlk : meth.locks = false) : ∀ (n : Nat) (x2 : Int32) (x3 : Int32) (x4 : Int32) (H : Heap) (locs : List Loc) (ls : Array Slot), tIn G (tA G s.heap.size) s st H locs → lv_has ls 6 [(0, .ref (tad G 3)), (2, .int x2), (3, .int x3), (4, .int x4)] → f_X1_leadsTo_5 st n x2 x3 x4 = some r → W p l e rm_X1_leadsTo s m args below meth c H locs 0 0 (tZI G below args s r st) (F0 m 5 ls []) := by
  have hx := S.1
  have hb := S.2.1
  have hown := S.2.2.2.1
  have hts := S.2.2.2.2
  intro n
  induction n with
  | zero => intro x2 x3 x4 H locs ls hI hl hf; exact nomatch (show (none : Option (Int32)) = some _ from hf)
  | succ n ih =>
    intro x2 x3 x4 H locs ls hI hl hf
    rw [f_X1_leadsTo_5] at hf
    refine lv_iload hx hb dX1_leadsTo_5 (lv_at hl 3 rfl) ?_
    refine lv_bipush (v := 90) hx hb dX1_leadsTo_7 (by decide) ?_
    refine tk_icmp_ge (tgt := 69) hx hb hf dX1_leadsTo_9 (by decide) (fun hf => ?_) (fun hf => ?_)
    · refine lv_iconst (v := 1) hx hb dX1_leadsTo_69 (by decide) ?_
      exact tk_rzR S hr hlk hI hf dX1_leadsTo_70
    · refine lv_aload_n hx hb dX1_leadsTo_12 rfl (lv_at hl 0 rfl) ?_
      refine tg_X1_1 S hI mw_39 dX1_leadsTo_13 ?_
      refine lv_iload_n hx hb dX1_leadsTo_16 rfl (lv_at hl 2 rfl) ?_
      refine tk_iald S hI (k := 5) (n := 90) rfl hf dX1_leadsTo_17 (fun v1 hf => ?_)
      refine lv_iconst (v := -1) hx hb dX1_leadsTo_18 (by decide) ?_
      refine tk_icmp_eq (tgt := 69) hx hb hf dX1_leadsTo_19 (by decide) (fun hf => ?_) (fun hf => ?_)
      · refine lv_iconst (v := 1) hx hb dX1_leadsTo_69 (by decide) ?_
        exact tk_rzR S hr hlk hI hf dX1_leadsTo_70
      · refine lv_aload_n hx hb dX1_leadsTo_22 rfl (lv_at hl 0 rfl) ?_
        refine tg_X1_3 S hI mw_41 dX1_leadsTo_23 ?_
        refine lv_aload_n hx hb dX1_leadsTo_26 rfl (lv_at hl 0 rfl) ?_
        refine tg_X1_1 S hI mw_39 dX1_leadsTo_27 ?_
        refine lv_iload_n hx hb dX1_leadsTo_30 rfl (lv_at hl 2 rfl) ?_
        refine tk_iald S hI (k := 5) (n := 90) rfl hf dX1_leadsTo_31 (fun v2 hf => ?_)
        refine tk_iald S hI (k := 7) (n := 90) rfl hf dX1_leadsTo_32 (fun v3 hf => ?_)
        refine lv_iload_n hx hb dX1_leadsTo_33 rfl (lv_at hl 1 rfl) ?_
        refine lv_iand hx hb dX1_leadsTo_34 ?_
        refine tk_topi hf (fun i4 hf => ?_)
        refine lv_istore (lv' := [(5, .int i4), (0, .ref (tad G 3)), (2, .int x2), (3, .int x3), (4, .int x4)]) hx hb dX1_leadsTo_35 hl (by decide) rfl (fun ls hl => ?_)
        refine lv_iload hx hb dX1_leadsTo_37 (lv_at hl 0 rfl) ?_
        refine lv_iload hx hb dX1_leadsTo_39 (lv_at hl 0 rfl) ?_
        refine lv_ineg hx hb dX1_leadsTo_41 ?_
        refine lv_iand hx hb dX1_leadsTo_42 ?_
        refine lv_iconst (v := 1) hx hb dX1_leadsTo_43 (by decide) ?_
        refine lv_aload_n hx hb dX1_leadsTo_44 rfl (lv_at hl 1 rfl) ?_
        refine tg_X1_2 S hI mw_40 dX1_leadsTo_45 ?_
        refine lv_iload_n hx hb dX1_leadsTo_48 rfl (lv_at hl 3 rfl) ?_
        refine tk_iald S hI (k := 6) (n := 90) rfl hf dX1_leadsTo_49 (fun v5 hf => ?_)
        refine lv_ishl hx hb dX1_leadsTo_50 ?_
        refine tk_icmp_eq (tgt := 56) hx hb hf dX1_leadsTo_51 (by decide) (fun hf => ?_) (fun hf => ?_)
        · refine lv_aload_n hx hb dX1_leadsTo_56 rfl (lv_at hl 1 rfl) ?_
          refine tg_X1_1 S hI mw_39 dX1_leadsTo_57 ?_
          refine lv_iload_n hx hb dX1_leadsTo_60 rfl (lv_at hl 3 rfl) ?_
          refine tk_iald S hI (k := 5) (n := 90) rfl hf dX1_leadsTo_61 (fun v6 hf => ?_)
          refine lv_istore_n (lv' := [(3, .int v6), (5, .int i4), (0, .ref (tad G 3)), (2, .int x2), (4, .int x4)]) hx hb dX1_leadsTo_62 rfl hl (by decide) rfl (fun ls hl => ?_)
          refine tk_let hf (fun i7 ei7 hf => ?_)
          refine lv_iinc (v := i7) (lv' := [(4, .int i7), (3, .int v6), (5, .int i4), (0, .ref (tad G 3)), (2, .int x2)]) hx hb dX1_leadsTo_63 hl (k := 4) rfl (by rw [ei7]; rfl) (by decide) rfl (fun ls hl => ?_)
          refine lv_goto (tgt := 5) hx hb dX1_leadsTo_66 (by decide) ?_
          exact ih x2 v6 i7 _ _ _ hI (lv_sub hl [3, 4, 1, 0] rfl) hf
        · refine lv_iconst (v := 0) hx hb dX1_leadsTo_54 (by decide) ?_
          exact tk_rzR S hr hlk hI hf dX1_leadsTo_55
set_option maxHeartbeats 4000000 in
set_option maxRecDepth 100000 in
theorem c_X1_leadsTo (l : Launch) (G : tG) (st : tST) (x1 : Int32) (x2 : Int32) {r : Int32} (hf : f_X1_leadsTo x1 x2 st = some r) : tCI l G yX1_leadsTo cX1_leadsTo 6 (some .boolean) rm_X1_leadsTo [.ref (tad G 3), .int x1, .int x2] st r st := by
  refine tk_entI (by decide +kernel) (Nat.le_of_ble_eq_true rfl) (fun p e s m below meth c ls S hr hlk hI hl => ?_)
  have hl : lv_has ls 6 [(0, .ref (tad G 3)), (1, .int x1), (2, .int x2)] := hl
  have S : CallFix p m c cX1_leadsTo 6 s [.ref (tad G 3), .int x1, .int x2].toArray wsL_law RX1 := S
  have hx := S.1
  have hb := S.2.1
  have hown := S.2.2.2.1
  have hts := S.2.2.2.2
  unfold f_X1_leadsTo at hf
  refine lv_iload_n hx hb dX1_leadsTo_0 rfl (lv_at hl 1 rfl) ?_
  refine lv_istore_n (lv' := [(3, .int x1), (0, .ref (tad G 3)), (1, .int x1), (2, .int x2)]) hx hb dX1_leadsTo_1 rfl hl (by decide) rfl (fun ls hl => ?_)
  refine lv_iconst (v := 0) hx hb dX1_leadsTo_2 (by decide) ?_
  refine lv_istore (lv' := [(4, .int (0 : Int32)), (3, .int x1), (0, .ref (tad G 3)), (1, .int x1), (2, .int x2)]) hx hb dX1_leadsTo_3 hl (by decide) rfl (fun ls hl => ?_)
  exact k_X1_leadsTo_5 S hr hlk tfu x2 x1 (0 : Int32) _ _ _ hI (lv_sub hl [2, 4, 1, 0] rfl) hf
/-! X1_holds -/
abbrev rm_X1_holds : Room := { frames := 1, cells := 0, slots := 0, locals := 25 }
def f_X1_holds (x1 : Int32) (x2 : Int64) (x4 : Int32) (st : tST) : Option (Int32) := tal 90 (tg_A st 4) x1 (fun v1 => (if (lg_cmp (((x2.toUInt64 >>> (v1.toInt64.toUInt64 &&& Int64.toUInt64 63)).toInt64) &&& (1 : Int64)) (0 : Int64)) = 0 then tzr (0 : Int32) (some (0 : Int32)) else tal 90 (tg_A st 7) x1 (fun v2 => (if (v2 &&& x4) = 0 then (f_X1_leadsTo x1 x4 st).bind (fun r3 => (if r3 = 0 then tzr (0 : Int32) (some (0 : Int32)) else tzr (1 : Int32) (some (1 : Int32)))) else tzr (0 : Int32) (some (0 : Int32))))))
theorem yd_X1_holds : yX1_holds.cls = RX1 ∧ yX1_holds.cls ≠ "java/lang/invoke/MethodHandle" ∧ yX1_holds.cls ≠ "java/lang/invoke/VarHandle" ∧ (parseMethodDescriptor yX1_holds.desc).map (fun d => d.parameters.length) = some 3 := by decide +kernel
set_option maxHeartbeats 4000000 in
set_option maxRecDepth 100000 in
theorem c_X1_holds (l : Launch) (G : tG) (st : tST) (x1 : Int32) (x2 : Int64) (x4 : Int32) {r : Int32} (hf : f_X1_holds x1 x2 x4 st = some r) : tCI l G yX1_holds cX1_holds 5 (some .boolean) rm_X1_holds [.ref (tad G 3), .int x1, .long x2, .int x4] st r st := by
  refine tk_entI (by decide +kernel) (Nat.le_of_ble_eq_true rfl) (fun p e s m below meth c ls S hr hlk hI hl => ?_)
  have hl : lv_has ls 5 [(0, .ref (tad G 3)), (1, .int x1), (2, .long x2), (4, .int x4)] := hl
  have S : CallFix p m c cX1_holds 5 s [.ref (tad G 3), .int x1, .long x2, .int x4].toArray wsL_law RX1 := S
  have hx := S.1
  have hb := S.2.1
  have hown := S.2.2.2.1
  have hts := S.2.2.2.2
  unfold f_X1_holds at hf
  refine lv_lload_n hx hb dX1_holds_0 rfl (lv_at hl 2 rfl) ?_
  refine lv_aload_n hx hb dX1_holds_1 rfl (lv_at hl 0 rfl) ?_
  refine tg_X1_0 S hI mw_38 dX1_holds_2 ?_
  refine lv_iload_n hx hb dX1_holds_5 rfl (lv_at hl 1 rfl) ?_
  refine tk_iald S hI (k := 4) (n := 90) rfl hf dX1_holds_6 (fun v1 hf => ?_)
  refine lv_lushr hx hb dX1_holds_7 rfl ?_
  refine lv_lconst (v := 1) hx hb dX1_holds_8 (by decide) ?_
  refine lv_land hx hb dX1_holds_9 ?_
  refine lv_lconst (v := 0) hx hb dX1_holds_10 (by decide) ?_
  refine W.lcmp hx hb dX1_holds_11 ?_
  refine tk_if_eq (tgt := 41) hx hb hf dX1_holds_12 (by decide) (fun hf => ?_) (fun hf => ?_)
  · refine lv_iconst (v := 0) hx hb dX1_holds_41 (by decide) ?_
    exact tk_rzR S hr hlk hI hf dX1_holds_42
  · refine lv_aload_n hx hb dX1_holds_15 rfl (lv_at hl 0 rfl) ?_
    refine tg_X1_3 S hI mw_41 dX1_holds_16 ?_
    refine lv_iload_n hx hb dX1_holds_19 rfl (lv_at hl 1 rfl) ?_
    refine tk_iald S hI (k := 7) (n := 90) rfl hf dX1_holds_20 (fun v2 hf => ?_)
    refine lv_iload hx hb dX1_holds_21 (lv_at hl 3 rfl) ?_
    refine lv_iand hx hb dX1_holds_23 ?_
    refine tk_if_ne (tgt := 41) hx hb hf dX1_holds_24 (by decide) (fun hf => ?_) (fun hf => ?_)
    · refine lv_iconst (v := 0) hx hb dX1_holds_41 (by decide) ?_
      exact tk_rzR S hr hlk hI hf dX1_holds_42
    · refine lv_aload_n hx hb dX1_holds_27 rfl (lv_at hl 0 rfl) ?_
      refine lv_iload_n hx hb dX1_holds_28 rfl (lv_at hl 1 rfl) ?_
      refine lv_iload hx hb dX1_holds_29 (lv_at hl 3 rfl) ?_
      refine tk_bd hf (fun r3 hq hf => ?_)
      refine tk_vI S hI hl.1 (c_X1_leadsTo l G st x1 x4 hq) (cwV 2 hts (tk_gV mw_185 mw_186 mw_187 mw_20 mw_188) rfl rfl rfl yd_X1_leadsTo ⟨Nat.le_of_ble_eq_true rfl, Nat.le_of_ble_eq_true rfl⟩) 3 1 rfl rfl rfl rfl [] rfl (Nat.le_of_ble_eq_true rfl) dX1_holds_31 (fun H locs hI => ?_)
      refine tk_if_eq (tgt := 41) hx hb hf dX1_holds_34 (by decide) (fun hf => ?_) (fun hf => ?_)
      · refine lv_iconst (v := 0) hx hb dX1_holds_41 (by decide) ?_
        exact tk_rzR S hr hlk hI hf dX1_holds_42
      · refine lv_iconst (v := 1) hx hb dX1_holds_37 (by decide) ?_
        refine lv_goto (tgt := 42) hx hb dX1_holds_38 (by decide) ?_
        exact tk_rzR S hr hlk hI hf dX1_holds_42
/-! X3_letter -/
abbrev rm_X3_letter : Room := { frames := 0, cells := 0, slots := 0, locals := 0 }
def f_X3_letter (x1 : Int32) (st : tST) : Option (Int32 × tST) := (if x1 < (32 : Int32) then some ((-1002 : Int32), st) else (if x1 ≤ (126 : Int32) then (if (tg_I st 0) < (40 : Int32) then tas 40 (tg_I st 0) (tp_A st 1 ((tg_I st 0)).toNatClampNeg x1) (fun s1 => tlet (tp_I s1 0 ((tg_I s1 0) + (1 : Int32))) (fun s2 => some ((tg_I s2 0), s2))) else some ((-1004 : Int32), st)) else some ((-1002 : Int32), st)))
theorem yd_X3_letter : yX3_letter.cls = RX3 ∧ yX3_letter.cls ≠ "java/lang/invoke/MethodHandle" ∧ yX3_letter.cls ≠ "java/lang/invoke/VarHandle" ∧ (parseMethodDescriptor yX3_letter.desc).map (fun d => d.parameters.length) = some 1 := by decide +kernel
set_option maxHeartbeats 4000000 in
set_option maxRecDepth 100000 in
theorem c_X3_letter (l : Launch) (G : tG) (st : tST) (x1 : Int32) {r : Int32} {st' : tST} (hf : f_X3_letter x1 st = some (r, st')) : tCI l G yX3_letter cX3_letter 2 (some .int) rm_X3_letter [.ref (tad G 0), .int x1] st r st' := by
  refine tk_entI (by decide +kernel) (Nat.le_of_ble_eq_true rfl) (fun p e s m below meth c ls S hr hlk hI hl => ?_)
  have hl : lv_has ls 2 [(0, .ref (tad G 0)), (1, .int x1)] := hl
  have S : CallFix p m c cX3_letter 2 s [.ref (tad G 0), .int x1].toArray wsL_law RX3 := S
  have hx := S.1
  have hb := S.2.1
  have hown := S.2.2.2.1
  have hts := S.2.2.2.2
  unfold f_X3_letter at hf
  refine lv_iload_n hx hb dX3_letter_0 rfl (lv_at hl 1 rfl) ?_
  refine lv_bipush (v := 32) hx hb dX3_letter_1 (by decide) ?_
  refine tk_icmp_lt (tgt := 12) hx hb hf dX3_letter_3 (by decide) (fun hf => ?_) (fun hf => ?_)
  · refine lv_sipush (v := -1002) hx hb dX3_letter_12 (by decide) ?_
    exact tk_riW S hr hlk hI hf dX3_letter_15
  · refine lv_iload_n hx hb dX3_letter_6 rfl (lv_at hl 1 rfl) ?_
    refine lv_bipush (v := 126) hx hb dX3_letter_7 (by decide) ?_
    refine tk_icmp_le (tgt := 16) hx hb hf dX3_letter_9 (by decide) (fun hf => ?_) (fun hf => ?_)
    · refine lv_aload_n hx hb dX3_letter_16 rfl (lv_at hl 0 rfl) ?_
      refine tg_X3_1 S hI mw_14 dX3_letter_17 ?_
      refine lv_bipush (v := 40) hx hb dX3_letter_20 (by decide) ?_
      refine tk_icmp_lt (tgt := 29) hx hb hf dX3_letter_22 (by decide) (fun hf => ?_) (fun hf => ?_)
      · refine lv_aload_n hx hb dX3_letter_29 rfl (lv_at hl 0 rfl) ?_
        refine tg_X3_0 S hI mw_13 dX3_letter_30 ?_
        refine lv_aload_n hx hb dX3_letter_33 rfl (lv_at hl 0 rfl) ?_
        refine tg_X3_1 S hI mw_14 dX3_letter_34 ?_
        refine lv_iload_n hx hb dX3_letter_37 rfl (lv_at hl 1 rfl) ?_
        refine tk_iast S hI (k := 1) (n := 40) rfl (twa_1 G _) hf dX3_letter_38 (fun s1 H locs hI hf => ?_)
        refine lv_aload_n hx hb dX3_letter_39 rfl (lv_at hl 0 rfl) ?_
        refine lv_dup hx hb dX3_letter_40 rfl ?_
        refine tg_X3_1 S hI mw_14 dX3_letter_41 ?_
        refine lv_iconst (v := 1) hx hb dX3_letter_44 (by decide) ?_
        refine lv_iadd hx hb dX3_letter_45 ?_
        refine tp_X3_1 S hI mw_14 hf dX3_letter_46 (fun s2 H locs hI hf => ?_)
        refine lv_aload_n hx hb dX3_letter_49 rfl (lv_at hl 0 rfl) ?_
        refine tg_X3_1 S hI mw_14 dX3_letter_50 ?_
        exact tk_riW S hr hlk hI hf dX3_letter_53
      · refine lv_sipush (v := -1004) hx hb dX3_letter_25 (by decide) ?_
        exact tk_riW S hr hlk hI hf dX3_letter_28
    · refine lv_sipush (v := -1002) hx hb dX3_letter_12 (by decide) ?_
      exact tk_riW S hr hlk hI hf dX3_letter_15
/-! X4_within -/
abbrev rm_X4_within : Room := { frames := 0, cells := 0, slots := 0, locals := 0 }
def f_X4_within (x0 : Int32) (x1 : Int32) (x2 : Int32) : Option (Int32) := (if x0 < x1 then tzr (0 : Int32) (some (0 : Int32)) else (if x2 < x0 then tzr (0 : Int32) (some (0 : Int32)) else tzr (1 : Int32) (some (1 : Int32))))
theorem yd_X4_within : yX4_within.cls ≠ "java/lang/invoke/MethodHandle" ∧ yX4_within.cls ≠ "java/lang/invoke/VarHandle" ∧ (parseMethodDescriptor yX4_within.desc).map (fun d => d.parameters.length) = some 3 := by decide +kernel
set_option maxHeartbeats 4000000 in
set_option maxRecDepth 100000 in
theorem c_X4_within (l : Launch) (G : tG) (st : tST) (x0 : Int32) (x1 : Int32) (x2 : Int32) {r : Int32} (hf : f_X4_within x0 x1 x2 = some r) : tCI l G yX4_within cX4_within 3 (some .boolean) rm_X4_within [.int x0, .int x1, .int x2] st r st := by
  refine tk_entI (by decide +kernel) (Nat.le_of_ble_eq_true rfl) (fun p e s m below meth c ls S hr hlk hI hl => ?_)
  have hl : lv_has ls 3 [(0, .int x0), (1, .int x1), (2, .int x2)] := hl
  have S : CallFix p m c cX4_within 3 s [.int x0, .int x1, .int x2].toArray wsL_law RX4 := S
  have hx := S.1
  have hb := S.2.1
  have hown := S.2.2.2.1
  have hts := S.2.2.2.2
  unfold f_X4_within at hf
  refine lv_iload_n hx hb dX4_within_0 rfl (lv_at hl 0 rfl) ?_
  refine lv_iload_n hx hb dX4_within_1 rfl (lv_at hl 1 rfl) ?_
  refine tk_icmp_lt (tgt := 14) hx hb hf dX4_within_2 (by decide) (fun hf => ?_) (fun hf => ?_)
  · refine lv_iconst (v := 0) hx hb dX4_within_14 (by decide) ?_
    exact tk_rzR S hr hlk hI hf dX4_within_15
  · refine lv_iload_n hx hb dX4_within_5 rfl (lv_at hl 0 rfl) ?_
    refine lv_iload_n hx hb dX4_within_6 rfl (lv_at hl 2 rfl) ?_
    refine tk_icmp_gt (tgt := 14) hx hb hf dX4_within_7 (by decide) (fun hf => ?_) (fun hf => ?_)
    · refine lv_iconst (v := 0) hx hb dX4_within_14 (by decide) ?_
      exact tk_rzR S hr hlk hI hf dX4_within_15
    · refine lv_iconst (v := 1) hx hb dX4_within_10 (by decide) ?_
      refine lv_goto (tgt := 15) hx hb dX4_within_11 (by decide) ?_
      exact tk_rzR S hr hlk hI hf dX4_within_15
/-! X4_isAuthor -/
abbrev rm_X4_isAuthor : Room := { frames := 1, cells := 0, slots := 0, locals := 22 }
def f_X4_isAuthor (x0 : Int32) : Option (Int32) := (f_X4_within x0 (0 : Int32) (3 : Int32)).bind (fun r1 => tzr r1 (some r1))
theorem yd_X4_isAuthor : yX4_isAuthor.cls ≠ "java/lang/invoke/MethodHandle" ∧ yX4_isAuthor.cls ≠ "java/lang/invoke/VarHandle" ∧ (parseMethodDescriptor yX4_isAuthor.desc).map (fun d => d.parameters.length) = some 1 := by decide +kernel
set_option maxHeartbeats 4000000 in
set_option maxRecDepth 100000 in
theorem c_X4_isAuthor (l : Launch) (G : tG) (st : tST) (x0 : Int32) {r : Int32} (hf : f_X4_isAuthor x0 = some r) : tCI l G yX4_isAuthor cX4_isAuthor 1 (some .boolean) rm_X4_isAuthor [.int x0] st r st := by
  refine tk_entI (by decide +kernel) (Nat.le_of_ble_eq_true rfl) (fun p e s m below meth c ls S hr hlk hI hl => ?_)
  have hl : lv_has ls 1 [(0, .int x0)] := hl
  have S : CallFix p m c cX4_isAuthor 1 s [.int x0].toArray wsL_law RX4 := S
  have hx := S.1
  have hb := S.2.1
  have hown := S.2.2.2.1
  have hts := S.2.2.2.2
  unfold f_X4_isAuthor at hf
  refine lv_iload_n hx hb dX4_isAuthor_0 rfl (lv_at hl 0 rfl) ?_
  refine lv_iconst (v := 0) hx hb dX4_isAuthor_1 (by decide) ?_
  refine lv_iconst (v := 3) hx hb dX4_isAuthor_2 (by decide) ?_
  refine tk_bd hf (fun r1 hq hf => ?_)
  refine tk_sI S hI hl.1 (c_X4_within l G st x0 (0 : Int32) (3 : Int32) hq) (va_cwS 3 hts (tk_gS mw_95 mw_96 mw_5 mw_97) rfl rfl rfl yd_X4_within ⟨Nat.le_of_ble_eq_true rfl, Nat.le_of_ble_eq_true rfl⟩) rfl [] rfl (Nat.le_of_ble_eq_true rfl) dX4_isAuthor_3 (fun H locs hI => ?_)
  exact tk_rzR S hr hlk hI hf dX4_isAuthor_6
end
