section
-- ===== PART A: goes FIRST, ahead of the names: the tables' words, and 'selects' of the private methods out of them =====
/-- a private method of a class that the tables say can be made, by its rows of tables_1 -/
def lw_okq (q : MethodName × Nat) : Prop := (q.1.cls ≠ "java/lang/invoke/MethodHandle" ∧ q.1.cls ≠ "java/lang/invoke/VarHandle") ∧ Cond.instantiable q.1.cls q.2 ∈ tables_1 ∧ Cond.privateMethod q.1 ∈ tables_1 ∧ Cond.instanceMethod q.1 ∈ tables_1
theorem lw_p0 : lw_okq (⟨"OnceLetters", "failed", "(I)I"⟩, 9) := ⟨⟨by decide +kernel, by decide +kernel⟩, List.mem_of_getElem? (i := 11) (by decide +kernel), List.mem_of_getElem? (i := 209) (by decide +kernel), List.mem_of_getElem? (i := 210) (by decide +kernel)⟩
theorem lw_p1 : lw_okq (⟨"OnceLetters", "keep", "()V"⟩, 9) := ⟨⟨by decide +kernel, by decide +kernel⟩, List.mem_of_getElem? (i := 11) (by decide +kernel), List.mem_of_getElem? (i := 213) (by decide +kernel), List.mem_of_getElem? (i := 214) (by decide +kernel)⟩
theorem lw_p2 : lw_okq (⟨"OnceLetters", "endDeed", "(LOnceLetters$Producer;I)I"⟩, 9) := ⟨⟨by decide +kernel, by decide +kernel⟩, List.mem_of_getElem? (i := 11) (by decide +kernel), List.mem_of_getElem? (i := 237) (by decide +kernel), List.mem_of_getElem? (i := 238) (by decide +kernel)⟩
theorem lw_p3 : lw_okq (⟨"OnceLetters", "finishDeed", "(LOnceLetters$Producer;)V"⟩, 9) := ⟨⟨by decide +kernel, by decide +kernel⟩, List.mem_of_getElem? (i := 11) (by decide +kernel), List.mem_of_getElem? (i := 245) (by decide +kernel), List.mem_of_getElem? (i := 246) (by decide +kernel)⟩
theorem lw_p4 : lw_okq (⟨"OnceLetters", "wrongAge", "(II)Z"⟩, 9) := ⟨⟨by decide +kernel, by decide +kernel⟩, List.mem_of_getElem? (i := 11) (by decide +kernel), List.mem_of_getElem? (i := 261) (by decide +kernel), List.mem_of_getElem? (i := 262) (by decide +kernel)⟩
theorem lw_p5 : lw_okq (⟨"OnceLetters", "producersIn", "(I)I"⟩, 9) := ⟨⟨by decide +kernel, by decide +kernel⟩, List.mem_of_getElem? (i := 11) (by decide +kernel), List.mem_of_getElem? (i := 265) (by decide +kernel), List.mem_of_getElem? (i := 266) (by decide +kernel)⟩
theorem lw_p6 : lw_okq (⟨"OnceLetters$Log", "lastBefore", "(III)I"⟩, 7) := ⟨⟨by decide +kernel, by decide +kernel⟩, List.mem_of_getElem? (i := 140) (by decide +kernel), List.mem_of_getElem? (i := 277) (by decide +kernel), List.mem_of_getElem? (i := 278) (by decide +kernel)⟩
theorem lw_p7 : lw_okq (⟨"OnceLetters", "reserve", "(I)I"⟩, 9) := ⟨⟨by decide +kernel, by decide +kernel⟩, List.mem_of_getElem? (i := 11) (by decide +kernel), List.mem_of_getElem? (i := 289) (by decide +kernel), List.mem_of_getElem? (i := 290) (by decide +kernel)⟩
theorem lw_p8 : lw_okq (⟨"OnceLetters", "writeMarkers", "()I"⟩, 9) := ⟨⟨by decide +kernel, by decide +kernel⟩, List.mem_of_getElem? (i := 11) (by decide +kernel), List.mem_of_getElem? (i := 309) (by decide +kernel), List.mem_of_getElem? (i := 310) (by decide +kernel)⟩
theorem lw_p9 : lw_okq (⟨"OnceLetters", "abortHanging", "()V"⟩, 9) := ⟨⟨by decide +kernel, by decide +kernel⟩, List.mem_of_getElem? (i := 11) (by decide +kernel), List.mem_of_getElem? (i := 326) (by decide +kernel), List.mem_of_getElem? (i := 327) (by decide +kernel)⟩
theorem lw_p10 : lw_okq (⟨"OnceLetters", "stable", "(I)I"⟩, 9) := ⟨⟨by decide +kernel, by decide +kernel⟩, List.mem_of_getElem? (i := 11) (by decide +kernel), List.mem_of_getElem? (i := 351) (by decide +kernel), List.mem_of_getElem? (i := 352) (by decide +kernel)⟩
theorem lw_p11 : lw_okq (⟨"OnceLetters", "holder", "(I)I"⟩, 9) := ⟨⟨by decide +kernel, by decide +kernel⟩, List.mem_of_getElem? (i := 11) (by decide +kernel), List.mem_of_getElem? (i := 355) (by decide +kernel), List.mem_of_getElem? (i := 356) (by decide +kernel)⟩
theorem lw_p12 : lw_okq (⟨"OnceLetters$Log", "startsAborted", "(I)Z"⟩, 7) := ⟨⟨by decide +kernel, by decide +kernel⟩, List.mem_of_getElem? (i := 140) (by decide +kernel), List.mem_of_getElem? (i := 381) (by decide +kernel), List.mem_of_getElem? (i := 382) (by decide +kernel)⟩
theorem lw_p13 : lw_okq (⟨"OnceLetters$Script", "takes", "(I)Z"⟩, 9) := ⟨⟨by decide +kernel, by decide +kernel⟩, List.mem_of_getElem? (i := 102) (by decide +kernel), List.mem_of_getElem? (i := 429) (by decide +kernel), List.mem_of_getElem? (i := 430) (by decide +kernel)⟩
theorem lw_p14 : lw_okq (⟨"OnceLetters$Script", "takesLetter", "(I)Z"⟩, 9) := ⟨⟨by decide +kernel, by decide +kernel⟩, List.mem_of_getElem? (i := 102) (by decide +kernel), List.mem_of_getElem? (i := 433) (by decide +kernel), List.mem_of_getElem? (i := 434) (by decide +kernel)⟩
theorem lw_p15 : lw_okq (⟨"OnceLetters$Script", "takesEnd", "()Z"⟩, 9) := ⟨⟨by decide +kernel, by decide +kernel⟩, List.mem_of_getElem? (i := 102) (by decide +kernel), List.mem_of_getElem? (i := 440) (by decide +kernel), List.mem_of_getElem? (i := 441) (by decide +kernel)⟩
def lw_privs_1 : List (MethodName × Nat) := [(⟨"OnceLetters", "failed", "(I)I"⟩, 9), (⟨"OnceLetters", "keep", "()V"⟩, 9), (⟨"OnceLetters", "endDeed", "(LOnceLetters$Producer;I)I"⟩, 9), (⟨"OnceLetters", "finishDeed", "(LOnceLetters$Producer;)V"⟩, 9), (⟨"OnceLetters", "wrongAge", "(II)Z"⟩, 9), (⟨"OnceLetters", "producersIn", "(I)I"⟩, 9), (⟨"OnceLetters$Log", "lastBefore", "(III)I"⟩, 7), (⟨"OnceLetters", "reserve", "(I)I"⟩, 9), (⟨"OnceLetters", "writeMarkers", "()I"⟩, 9), (⟨"OnceLetters", "abortHanging", "()V"⟩, 9), (⟨"OnceLetters", "stable", "(I)I"⟩, 9), (⟨"OnceLetters", "holder", "(I)I"⟩, 9), (⟨"OnceLetters$Log", "startsAborted", "(I)Z"⟩, 7), (⟨"OnceLetters$Script", "takes", "(I)Z"⟩, 9), (⟨"OnceLetters$Script", "takesLetter", "(I)Z"⟩, 9), (⟨"OnceLetters$Script", "takesEnd", "()Z"⟩, 9)]
theorem lw_r1 : ∀ q ∈ lw_privs_1, lw_okq q := List.forall_mem_cons.mpr ⟨lw_p0, List.forall_mem_cons.mpr ⟨lw_p1, List.forall_mem_cons.mpr ⟨lw_p2, List.forall_mem_cons.mpr ⟨lw_p3, List.forall_mem_cons.mpr ⟨lw_p4, List.forall_mem_cons.mpr ⟨lw_p5, List.forall_mem_cons.mpr ⟨lw_p6, List.forall_mem_cons.mpr ⟨lw_p7, List.forall_mem_cons.mpr ⟨lw_p8, List.forall_mem_cons.mpr ⟨lw_p9, List.forall_mem_cons.mpr ⟨lw_p10, List.forall_mem_cons.mpr ⟨lw_p11, List.forall_mem_cons.mpr ⟨lw_p12, List.forall_mem_cons.mpr ⟨lw_p13, List.forall_mem_cons.mpr ⟨lw_p14, List.forall_mem_cons.mpr ⟨lw_p15, fun _ h => absurd h List.not_mem_nil⟩⟩⟩⟩⟩⟩⟩⟩⟩⟩⟩⟩⟩⟩⟩⟩
theorem lw_p16 : lw_okq (⟨"OnceLetters$Script", "takesDigit", "(I)Z"⟩, 9) := ⟨⟨by decide +kernel, by decide +kernel⟩, List.mem_of_getElem? (i := 102) (by decide +kernel), List.mem_of_getElem? (i := 444) (by decide +kernel), List.mem_of_getElem? (i := 445) (by decide +kernel)⟩
theorem lw_p17 : lw_okq (⟨"OnceLetters", "carryOut", "(I)I"⟩, 9) := ⟨⟨by decide +kernel, by decide +kernel⟩, List.mem_of_getElem? (i := 11) (by decide +kernel), List.mem_of_getElem? (i := 448) (by decide +kernel), List.mem_of_getElem? (i := 449) (by decide +kernel)⟩
theorem lw_p18 : lw_okq (⟨"OnceLetters", "entriesOfAll", "()I"⟩, 9) := ⟨⟨by decide +kernel, by decide +kernel⟩, List.mem_of_getElem? (i := 11) (by decide +kernel), List.mem_of_getElem? (i := 467) (by decide +kernel), List.mem_of_getElem? (i := 468) (by decide +kernel)⟩
theorem lw_p19 : lw_okq (⟨"OnceLetters", "markersOfAll", "()I"⟩, 9) := ⟨⟨by decide +kernel, by decide +kernel⟩, List.mem_of_getElem? (i := 11) (by decide +kernel), List.mem_of_getElem? (i := 471) (by decide +kernel), List.mem_of_getElem? (i := 472) (by decide +kernel)⟩
theorem lw_p20 : lw_okq (⟨"OnceLetters", "visibleOfAll", "()I"⟩, 9) := ⟨⟨by decide +kernel, by decide +kernel⟩, List.mem_of_getElem? (i := 11) (by decide +kernel), List.mem_of_getElem? (i := 479) (by decide +kernel), List.mem_of_getElem? (i := 480) (by decide +kernel)⟩
theorem lw_p21 : lw_okq (⟨"OnceLetters", "dueOfAll", "()I"⟩, 9) := ⟨⟨by decide +kernel, by decide +kernel⟩, List.mem_of_getElem? (i := 11) (by decide +kernel), List.mem_of_getElem? (i := 483) (by decide +kernel), List.mem_of_getElem? (i := 484) (by decide +kernel)⟩
theorem lw_p22 : lw_okq (⟨"OnceLetters", "mixPart", "(JI)J"⟩, 9) := ⟨⟨by decide +kernel, by decide +kernel⟩, List.mem_of_getElem? (i := 11) (by decide +kernel), List.mem_of_getElem? (i := 508) (by decide +kernel), List.mem_of_getElem? (i := 509) (by decide +kernel)⟩
theorem lw_p23 : lw_okq (⟨"OnceLetters", "mixReader", "(JI)J"⟩, 9) := ⟨⟨by decide +kernel, by decide +kernel⟩, List.mem_of_getElem? (i := 11) (by decide +kernel), List.mem_of_getElem? (i := 515) (by decide +kernel), List.mem_of_getElem? (i := 516) (by decide +kernel)⟩
theorem lw_p24 : lw_okq (⟨"OnceLettersModel", "lays", "(III)V"⟩, 14) := ⟨⟨by decide +kernel, by decide +kernel⟩, List.mem_of_getElem? (i := 520) (by decide +kernel), List.mem_of_getElem? (i := 526) (by decide +kernel), List.mem_of_getElem? (i := 527) (by decide +kernel)⟩
theorem lw_p25 : lw_okq (⟨"OnceLettersModel", "bad", "()I"⟩, 14) := ⟨⟨by decide +kernel, by decide +kernel⟩, List.mem_of_getElem? (i := 520) (by decide +kernel), List.mem_of_getElem? (i := 583) (by decide +kernel), List.mem_of_getElem? (i := 584) (by decide +kernel)⟩
theorem lw_p26 : lw_okq (⟨"OnceLettersModel", "refuse", "(II)I"⟩, 14) := ⟨⟨by decide +kernel, by decide +kernel⟩, List.mem_of_getElem? (i := 520) (by decide +kernel), List.mem_of_getElem? (i := 587) (by decide +kernel), List.mem_of_getElem? (i := 588) (by decide +kernel)⟩
theorem lw_p27 : lw_okq (⟨"OnceLettersModel", "of", "(II)I"⟩, 14) := ⟨⟨by decide +kernel, by decide +kernel⟩, List.mem_of_getElem? (i := 520) (by decide +kernel), List.mem_of_getElem? (i := 591) (by decide +kernel), List.mem_of_getElem? (i := 592) (by decide +kernel)⟩
theorem lw_p28 : lw_okq (⟨"OnceLettersModel", "notes", "()V"⟩, 14) := ⟨⟨by decide +kernel, by decide +kernel⟩, List.mem_of_getElem? (i := 520) (by decide +kernel), List.mem_of_getElem? (i := 595) (by decide +kernel), List.mem_of_getElem? (i := 596) (by decide +kernel)⟩
theorem lw_p29 : lw_okq (⟨"OnceLettersModel", "keeps", "([II)V"⟩, 14) := ⟨⟨by decide +kernel, by decide +kernel⟩, List.mem_of_getElem? (i := 520) (by decide +kernel), List.mem_of_getElem? (i := 599) (by decide +kernel), List.mem_of_getElem? (i := 600) (by decide +kernel)⟩
theorem lw_p30 : lw_okq (⟨"OnceLettersModel", "copies", "([II[II)V"⟩, 14) := ⟨⟨by decide +kernel, by decide +kernel⟩, List.mem_of_getElem? (i := 520) (by decide +kernel), List.mem_of_getElem? (i := 603) (by decide +kernel), List.mem_of_getElem? (i := 604) (by decide +kernel)⟩
theorem lw_p31 : lw_okq (⟨"OnceLettersModel", "endDeed", "(II)V"⟩, 14) := ⟨⟨by decide +kernel, by decide +kernel⟩, List.mem_of_getElem? (i := 520) (by decide +kernel), List.mem_of_getElem? (i := 607) (by decide +kernel), List.mem_of_getElem? (i := 608) (by decide +kernel)⟩
def lw_privs_2 : List (MethodName × Nat) := [(⟨"OnceLetters$Script", "takesDigit", "(I)Z"⟩, 9), (⟨"OnceLetters", "carryOut", "(I)I"⟩, 9), (⟨"OnceLetters", "entriesOfAll", "()I"⟩, 9), (⟨"OnceLetters", "markersOfAll", "()I"⟩, 9), (⟨"OnceLetters", "visibleOfAll", "()I"⟩, 9), (⟨"OnceLetters", "dueOfAll", "()I"⟩, 9), (⟨"OnceLetters", "mixPart", "(JI)J"⟩, 9), (⟨"OnceLetters", "mixReader", "(JI)J"⟩, 9), (⟨"OnceLettersModel", "lays", "(III)V"⟩, 14), (⟨"OnceLettersModel", "bad", "()I"⟩, 14), (⟨"OnceLettersModel", "refuse", "(II)I"⟩, 14), (⟨"OnceLettersModel", "of", "(II)I"⟩, 14), (⟨"OnceLettersModel", "notes", "()V"⟩, 14), (⟨"OnceLettersModel", "keeps", "([II)V"⟩, 14), (⟨"OnceLettersModel", "copies", "([II[II)V"⟩, 14), (⟨"OnceLettersModel", "endDeed", "(II)V"⟩, 14)]
theorem lw_r2 : ∀ q ∈ lw_privs_2, lw_okq q := List.forall_mem_cons.mpr ⟨lw_p16, List.forall_mem_cons.mpr ⟨lw_p17, List.forall_mem_cons.mpr ⟨lw_p18, List.forall_mem_cons.mpr ⟨lw_p19, List.forall_mem_cons.mpr ⟨lw_p20, List.forall_mem_cons.mpr ⟨lw_p21, List.forall_mem_cons.mpr ⟨lw_p22, List.forall_mem_cons.mpr ⟨lw_p23, List.forall_mem_cons.mpr ⟨lw_p24, List.forall_mem_cons.mpr ⟨lw_p25, List.forall_mem_cons.mpr ⟨lw_p26, List.forall_mem_cons.mpr ⟨lw_p27, List.forall_mem_cons.mpr ⟨lw_p28, List.forall_mem_cons.mpr ⟨lw_p29, List.forall_mem_cons.mpr ⟨lw_p30, List.forall_mem_cons.mpr ⟨lw_p31, fun _ h => absurd h List.not_mem_nil⟩⟩⟩⟩⟩⟩⟩⟩⟩⟩⟩⟩⟩⟩⟩⟩
theorem lw_p32 : lw_okq (⟨"OnceLettersModel", "isOver", "(I)V"⟩, 14) := ⟨⟨by decide +kernel, by decide +kernel⟩, List.mem_of_getElem? (i := 520) (by decide +kernel), List.mem_of_getElem? (i := 611) (by decide +kernel), List.mem_of_getElem? (i := 612) (by decide +kernel)⟩
theorem lw_p33 : lw_okq (⟨"OnceLettersModel", "isAge", "(II)Z"⟩, 14) := ⟨⟨by decide +kernel, by decide +kernel⟩, List.mem_of_getElem? (i := 520) (by decide +kernel), List.mem_of_getElem? (i := 619) (by decide +kernel), List.mem_of_getElem? (i := 620) (by decide +kernel)⟩
theorem lw_p34 : lw_okq (⟨"OnceLettersModel", "manyAre", "(I)I"⟩, 14) := ⟨⟨by decide +kernel, by decide +kernel⟩, List.mem_of_getElem? (i := 520) (by decide +kernel), List.mem_of_getElem? (i := 623) (by decide +kernel), List.mem_of_getElem? (i := 624) (by decide +kernel)⟩
theorem lw_p35 : lw_okq (⟨"OnceLettersModel", "twinOf", "(III)I"⟩, 14) := ⟨⟨by decide +kernel, by decide +kernel⟩, List.mem_of_getElem? (i := 520) (by decide +kernel), List.mem_of_getElem? (i := 634) (by decide +kernel), List.mem_of_getElem? (i := 635) (by decide +kernel)⟩
theorem lw_p36 : lw_okq (⟨"OnceLettersModel", "sizeOf", "(I)I"⟩, 14) := ⟨⟨by decide +kernel, by decide +kernel⟩, List.mem_of_getElem? (i := 520) (by decide +kernel), List.mem_of_getElem? (i := 638) (by decide +kernel), List.mem_of_getElem? (i := 639) (by decide +kernel)⟩
theorem lw_p37 : lw_okq (⟨"OnceLettersModel", "isRecent", "(III)Z"⟩, 14) := ⟨⟨by decide +kernel, by decide +kernel⟩, List.mem_of_getElem? (i := 520) (by decide +kernel), List.mem_of_getElem? (i := 642) (by decide +kernel), List.mem_of_getElem? (i := 643) (by decide +kernel)⟩
theorem lw_p38 : lw_okq (⟨"OnceLettersModel", "cellOf", "(III)I"⟩, 14) := ⟨⟨by decide +kernel, by decide +kernel⟩, List.mem_of_getElem? (i := 520) (by decide +kernel), List.mem_of_getElem? (i := 646) (by decide +kernel), List.mem_of_getElem? (i := 647) (by decide +kernel)⟩
theorem lw_p39 : lw_okq (⟨"OnceLettersModel", "dueOf", "(II)I"⟩, 14) := ⟨⟨by decide +kernel, by decide +kernel⟩, List.mem_of_getElem? (i := 520) (by decide +kernel), List.mem_of_getElem? (i := 650) (by decide +kernel), List.mem_of_getElem? (i := 651) (by decide +kernel)⟩
theorem lw_p40 : lw_okq (⟨"OnceLettersModel", "owed", "(I)I"⟩, 14) := ⟨⟨by decide +kernel, by decide +kernel⟩, List.mem_of_getElem? (i := 520) (by decide +kernel), List.mem_of_getElem? (i := 654) (by decide +kernel), List.mem_of_getElem? (i := 655) (by decide +kernel)⟩
theorem lw_p41 : lw_okq (⟨"OnceLettersModel", "lacksMark", "(II)Z"⟩, 14) := ⟨⟨by decide +kernel, by decide +kernel⟩, List.mem_of_getElem? (i := 520) (by decide +kernel), List.mem_of_getElem? (i := 658) (by decide +kernel), List.mem_of_getElem? (i := 659) (by decide +kernel)⟩
theorem lw_p42 : lw_okq (⟨"OnceLettersModel", "writes", "(IIII)I"⟩, 14) := ⟨⟨by decide +kernel, by decide +kernel⟩, List.mem_of_getElem? (i := 520) (by decide +kernel), List.mem_of_getElem? (i := 665) (by decide +kernel), List.mem_of_getElem? (i := 666) (by decide +kernel)⟩
theorem lw_p43 : lw_okq (⟨"OnceLettersModel", "put", "(IIII)V"⟩, 14) := ⟨⟨by decide +kernel, by decide +kernel⟩, List.mem_of_getElem? (i := 520) (by decide +kernel), List.mem_of_getElem? (i := 669) (by decide +kernel), List.mem_of_getElem? (i := 670) (by decide +kernel)⟩
theorem lw_p44 : lw_okq (⟨"OnceLettersModel", "tick", "()I"⟩, 14) := ⟨⟨by decide +kernel, by decide +kernel⟩, List.mem_of_getElem? (i := 520) (by decide +kernel), List.mem_of_getElem? (i := 691) (by decide +kernel), List.mem_of_getElem? (i := 692) (by decide +kernel)⟩
theorem lw_p45 : lw_okq (⟨"OnceLettersModel", "isDue", "(II)Z"⟩, 14) := ⟨⟨by decide +kernel, by decide +kernel⟩, List.mem_of_getElem? (i := 520) (by decide +kernel), List.mem_of_getElem? (i := 695) (by decide +kernel), List.mem_of_getElem? (i := 696) (by decide +kernel)⟩
theorem lw_p46 : lw_okq (⟨"OnceLettersModel", "rank", "(II)I"⟩, 14) := ⟨⟨by decide +kernel, by decide +kernel⟩, List.mem_of_getElem? (i := 520) (by decide +kernel), List.mem_of_getElem? (i := 699) (by decide +kernel), List.mem_of_getElem? (i := 700) (by decide +kernel)⟩
theorem lw_p47 : lw_okq (⟨"OnceLettersModel", "writeMark", "(II)V"⟩, 14) := ⟨⟨by decide +kernel, by decide +kernel⟩, List.mem_of_getElem? (i := 520) (by decide +kernel), List.mem_of_getElem? (i := 703) (by decide +kernel), List.mem_of_getElem? (i := 704) (by decide +kernel)⟩
def lw_privs_3 : List (MethodName × Nat) := [(⟨"OnceLettersModel", "isOver", "(I)V"⟩, 14), (⟨"OnceLettersModel", "isAge", "(II)Z"⟩, 14), (⟨"OnceLettersModel", "manyAre", "(I)I"⟩, 14), (⟨"OnceLettersModel", "twinOf", "(III)I"⟩, 14), (⟨"OnceLettersModel", "sizeOf", "(I)I"⟩, 14), (⟨"OnceLettersModel", "isRecent", "(III)Z"⟩, 14), (⟨"OnceLettersModel", "cellOf", "(III)I"⟩, 14), (⟨"OnceLettersModel", "dueOf", "(II)I"⟩, 14), (⟨"OnceLettersModel", "owed", "(I)I"⟩, 14), (⟨"OnceLettersModel", "lacksMark", "(II)Z"⟩, 14), (⟨"OnceLettersModel", "writes", "(IIII)I"⟩, 14), (⟨"OnceLettersModel", "put", "(IIII)V"⟩, 14), (⟨"OnceLettersModel", "tick", "()I"⟩, 14), (⟨"OnceLettersModel", "isDue", "(II)Z"⟩, 14), (⟨"OnceLettersModel", "rank", "(II)I"⟩, 14), (⟨"OnceLettersModel", "writeMark", "(II)V"⟩, 14)]
theorem lw_r3 : ∀ q ∈ lw_privs_3, lw_okq q := List.forall_mem_cons.mpr ⟨lw_p32, List.forall_mem_cons.mpr ⟨lw_p33, List.forall_mem_cons.mpr ⟨lw_p34, List.forall_mem_cons.mpr ⟨lw_p35, List.forall_mem_cons.mpr ⟨lw_p36, List.forall_mem_cons.mpr ⟨lw_p37, List.forall_mem_cons.mpr ⟨lw_p38, List.forall_mem_cons.mpr ⟨lw_p39, List.forall_mem_cons.mpr ⟨lw_p40, List.forall_mem_cons.mpr ⟨lw_p41, List.forall_mem_cons.mpr ⟨lw_p42, List.forall_mem_cons.mpr ⟨lw_p43, List.forall_mem_cons.mpr ⟨lw_p44, List.forall_mem_cons.mpr ⟨lw_p45, List.forall_mem_cons.mpr ⟨lw_p46, List.forall_mem_cons.mpr ⟨lw_p47, fun _ h => absurd h List.not_mem_nil⟩⟩⟩⟩⟩⟩⟩⟩⟩⟩⟩⟩⟩⟩⟩⟩
theorem lw_p48 : lw_okq (⟨"OnceLettersModel", "tellWriter", "(II)I"⟩, 14) := ⟨⟨by decide +kernel, by decide +kernel⟩, List.mem_of_getElem? (i := 520) (by decide +kernel), List.mem_of_getElem? (i := 715) (by decide +kernel), List.mem_of_getElem? (i := 716) (by decide +kernel)⟩
theorem lw_p49 : lw_okq (⟨"OnceLettersModel", "toCome", "(I)I"⟩, 14) := ⟨⟨by decide +kernel, by decide +kernel⟩, List.mem_of_getElem? (i := 520) (by decide +kernel), List.mem_of_getElem? (i := 719) (by decide +kernel), List.mem_of_getElem? (i := 720) (by decide +kernel)⟩
theorem lw_p50 : lw_okq (⟨"OnceLettersModel", "tellEntry", "(III)I"⟩, 14) := ⟨⟨by decide +kernel, by decide +kernel⟩, List.mem_of_getElem? (i := 520) (by decide +kernel), List.mem_of_getElem? (i := 727) (by decide +kernel), List.mem_of_getElem? (i := 728) (by decide +kernel)⟩
theorem lw_p51 : lw_okq (⟨"OnceLettersModel", "stable", "(I)I"⟩, 14) := ⟨⟨by decide +kernel, by decide +kernel⟩, List.mem_of_getElem? (i := 520) (by decide +kernel), List.mem_of_getElem? (i := 731) (by decide +kernel), List.mem_of_getElem? (i := 732) (by decide +kernel)⟩
theorem lw_p52 : lw_okq (⟨"OnceLettersModel", "holder", "(I)I"⟩, 14) := ⟨⟨by decide +kernel, by decide +kernel⟩, List.mem_of_getElem? (i := 520) (by decide +kernel), List.mem_of_getElem? (i := 735) (by decide +kernel), List.mem_of_getElem? (i := 736) (by decide +kernel)⟩
theorem lw_p53 : lw_okq (⟨"OnceLettersModel", "isSeen", "(III)Z"⟩, 14) := ⟨⟨by decide +kernel, by decide +kernel⟩, List.mem_of_getElem? (i := 520) (by decide +kernel), List.mem_of_getElem? (i := 739) (by decide +kernel), List.mem_of_getElem? (i := 740) (by decide +kernel)⟩
theorem lw_p54 : lw_okq (⟨"OnceLettersModel", "tellPart", "(II)I"⟩, 14) := ⟨⟨by decide +kernel, by decide +kernel⟩, List.mem_of_getElem? (i := 520) (by decide +kernel), List.mem_of_getElem? (i := 747) (by decide +kernel), List.mem_of_getElem? (i := 748) (by decide +kernel)⟩
theorem lw_p55 : lw_okq (⟨"OnceLettersModel", "seenFrom", "(II)I"⟩, 14) := ⟨⟨by decide +kernel, by decide +kernel⟩, List.mem_of_getElem? (i := 520) (by decide +kernel), List.mem_of_getElem? (i := 751) (by decide +kernel), List.mem_of_getElem? (i := 752) (by decide +kernel)⟩
theorem lw_p56 : lw_okq (⟨"OnceLettersModel", "marksIn", "(IZ)I"⟩, 14) := ⟨⟨by decide +kernel, by decide +kernel⟩, List.mem_of_getElem? (i := 520) (by decide +kernel), List.mem_of_getElem? (i := 755) (by decide +kernel), List.mem_of_getElem? (i := 756) (by decide +kernel)⟩
theorem lw_p57 : lw_okq (⟨"OnceLettersModel", "isAbort", "(II)Z"⟩, 14) := ⟨⟨by decide +kernel, by decide +kernel⟩, List.mem_of_getElem? (i := 520) (by decide +kernel), List.mem_of_getElem? (i := 759) (by decide +kernel), List.mem_of_getElem? (i := 760) (by decide +kernel)⟩
theorem lw_p58 : lw_okq (⟨"OnceLettersModel", "tellAborted", "(III)I"⟩, 14) := ⟨⟨by decide +kernel, by decide +kernel⟩, List.mem_of_getElem? (i := 520) (by decide +kernel), List.mem_of_getElem? (i := 767) (by decide +kernel), List.mem_of_getElem? (i := 768) (by decide +kernel)⟩
theorem lw_p59 : lw_okq (⟨"OnceLettersModel", "aheadOf", "(II)I"⟩, 14) := ⟨⟨by decide +kernel, by decide +kernel⟩, List.mem_of_getElem? (i := 520) (by decide +kernel), List.mem_of_getElem? (i := 771) (by decide +kernel), List.mem_of_getElem? (i := 772) (by decide +kernel)⟩
theorem lw_p60 : lw_okq (⟨"OnceLettersModel", "firstSeen", "(II)I"⟩, 14) := ⟨⟨by decide +kernel, by decide +kernel⟩, List.mem_of_getElem? (i := 520) (by decide +kernel), List.mem_of_getElem? (i := 779) (by decide +kernel), List.mem_of_getElem? (i := 780) (by decide +kernel)⟩
theorem lw_p61 : lw_okq (⟨"OnceLettersModel", "tellReader", "(III)I"⟩, 14) := ⟨⟨by decide +kernel, by decide +kernel⟩, List.mem_of_getElem? (i := 520) (by decide +kernel), List.mem_of_getElem? (i := 791) (by decide +kernel), List.mem_of_getElem? (i := 792) (by decide +kernel)⟩
theorem lw_p62 : lw_okq (⟨"OnceLettersModel", "parses", "()Z"⟩, 14) := ⟨⟨by decide +kernel, by decide +kernel⟩, List.mem_of_getElem? (i := 520) (by decide +kernel), List.mem_of_getElem? (i := 807) (by decide +kernel), List.mem_of_getElem? (i := 808) (by decide +kernel)⟩
theorem lw_p63 : lw_okq (⟨"OnceLettersModel", "skips", "()V"⟩, 14) := ⟨⟨by decide +kernel, by decide +kernel⟩, List.mem_of_getElem? (i := 520) (by decide +kernel), List.mem_of_getElem? (i := 811) (by decide +kernel), List.mem_of_getElem? (i := 812) (by decide +kernel)⟩
def lw_privs_4 : List (MethodName × Nat) := [(⟨"OnceLettersModel", "tellWriter", "(II)I"⟩, 14), (⟨"OnceLettersModel", "toCome", "(I)I"⟩, 14), (⟨"OnceLettersModel", "tellEntry", "(III)I"⟩, 14), (⟨"OnceLettersModel", "stable", "(I)I"⟩, 14), (⟨"OnceLettersModel", "holder", "(I)I"⟩, 14), (⟨"OnceLettersModel", "isSeen", "(III)Z"⟩, 14), (⟨"OnceLettersModel", "tellPart", "(II)I"⟩, 14), (⟨"OnceLettersModel", "seenFrom", "(II)I"⟩, 14), (⟨"OnceLettersModel", "marksIn", "(IZ)I"⟩, 14), (⟨"OnceLettersModel", "isAbort", "(II)Z"⟩, 14), (⟨"OnceLettersModel", "tellAborted", "(III)I"⟩, 14), (⟨"OnceLettersModel", "aheadOf", "(II)I"⟩, 14), (⟨"OnceLettersModel", "firstSeen", "(II)I"⟩, 14), (⟨"OnceLettersModel", "tellReader", "(III)I"⟩, 14), (⟨"OnceLettersModel", "parses", "()Z"⟩, 14), (⟨"OnceLettersModel", "skips", "()V"⟩, 14)]
theorem lw_r4 : ∀ q ∈ lw_privs_4, lw_okq q := List.forall_mem_cons.mpr ⟨lw_p48, List.forall_mem_cons.mpr ⟨lw_p49, List.forall_mem_cons.mpr ⟨lw_p50, List.forall_mem_cons.mpr ⟨lw_p51, List.forall_mem_cons.mpr ⟨lw_p52, List.forall_mem_cons.mpr ⟨lw_p53, List.forall_mem_cons.mpr ⟨lw_p54, List.forall_mem_cons.mpr ⟨lw_p55, List.forall_mem_cons.mpr ⟨lw_p56, List.forall_mem_cons.mpr ⟨lw_p57, List.forall_mem_cons.mpr ⟨lw_p58, List.forall_mem_cons.mpr ⟨lw_p59, List.forall_mem_cons.mpr ⟨lw_p60, List.forall_mem_cons.mpr ⟨lw_p61, List.forall_mem_cons.mpr ⟨lw_p62, List.forall_mem_cons.mpr ⟨lw_p63, fun _ h => absurd h List.not_mem_nil⟩⟩⟩⟩⟩⟩⟩⟩⟩⟩⟩⟩⟩⟩⟩⟩
theorem lw_p64 : lw_okq (⟨"OnceLettersModel", "here", "()I"⟩, 14) := ⟨⟨by decide +kernel, by decide +kernel⟩, List.mem_of_getElem? (i := 520) (by decide +kernel), List.mem_of_getElem? (i := 815) (by decide +kernel), List.mem_of_getElem? (i := 816) (by decide +kernel)⟩
theorem lw_p65 : lw_okq (⟨"OnceLettersModel", "order", "()Z"⟩, 14) := ⟨⟨by decide +kernel, by decide +kernel⟩, List.mem_of_getElem? (i := 520) (by decide +kernel), List.mem_of_getElem? (i := 819) (by decide +kernel), List.mem_of_getElem? (i := 820) (by decide +kernel)⟩
theorem lw_p66 : lw_okq (⟨"OnceLettersModel", "stopsHere", "()Z"⟩, 14) := ⟨⟨by decide +kernel, by decide +kernel⟩, List.mem_of_getElem? (i := 520) (by decide +kernel), List.mem_of_getElem? (i := 826) (by decide +kernel), List.mem_of_getElem? (i := 827) (by decide +kernel)⟩
theorem lw_p67 : lw_okq (⟨"OnceLettersModel", "number", "(I)Z"⟩, 14) := ⟨⟨by decide +kernel, by decide +kernel⟩, List.mem_of_getElem? (i := 520) (by decide +kernel), List.mem_of_getElem? (i := 830) (by decide +kernel), List.mem_of_getElem? (i := 831) (by decide +kernel)⟩
theorem lw_p68 : lw_okq (⟨"OnceLettersModel", "isFigure", "()Z"⟩, 14) := ⟨⟨by decide +kernel, by decide +kernel⟩, List.mem_of_getElem? (i := 520) (by decide +kernel), List.mem_of_getElem? (i := 834) (by decide +kernel), List.mem_of_getElem? (i := 835) (by decide +kernel)⟩
theorem lw_p69 : lw_okq (⟨"OnceLettersModel", "answers", "(I)I"⟩, 14) := ⟨⟨by decide +kernel, by decide +kernel⟩, List.mem_of_getElem? (i := 520) (by decide +kernel), List.mem_of_getElem? (i := 838) (by decide +kernel), List.mem_of_getElem? (i := 839) (by decide +kernel)⟩
theorem lw_p70 : lw_okq (⟨"OnceLettersModel", "tellAll", "(I)I"⟩, 14) := ⟨⟨by decide +kernel, by decide +kernel⟩, List.mem_of_getElem? (i := 520) (by decide +kernel), List.mem_of_getElem? (i := 857) (by decide +kernel), List.mem_of_getElem? (i := 858) (by decide +kernel)⟩
theorem lw_p71 : lw_okq (⟨"OnceLettersModel", "dues", "()I"⟩, 14) := ⟨⟨by decide +kernel, by decide +kernel⟩, List.mem_of_getElem? (i := 520) (by decide +kernel), List.mem_of_getElem? (i := 861) (by decide +kernel), List.mem_of_getElem? (i := 862) (by decide +kernel)⟩
theorem lw_p72 : lw_okq (⟨"OnceLettersModel", "sumOf", "(I)I"⟩, 14) := ⟨⟨by decide +kernel, by decide +kernel⟩, List.mem_of_getElem? (i := 520) (by decide +kernel), List.mem_of_getElem? (i := 865) (by decide +kernel), List.mem_of_getElem? (i := 866) (by decide +kernel)⟩
theorem lw_p73 : lw_okq (⟨"OnceLettersModel", "tell", "(I)I"⟩, 14) := ⟨⟨by decide +kernel, by decide +kernel⟩, List.mem_of_getElem? (i := 520) (by decide +kernel), List.mem_of_getElem? (i := 877) (by decide +kernel), List.mem_of_getElem? (i := 878) (by decide +kernel)⟩
theorem lw_p74 : lw_okq (⟨"OnceLettersModel", "more", "(I)V"⟩, 14) := ⟨⟨by decide +kernel, by decide +kernel⟩, List.mem_of_getElem? (i := 520) (by decide +kernel), List.mem_of_getElem? (i := 886) (by decide +kernel), List.mem_of_getElem? (i := 887) (by decide +kernel)⟩
theorem lw_p75 : lw_okq (⟨"OnceLettersModel", "morePart", "(I)V"⟩, 14) := ⟨⟨by decide +kernel, by decide +kernel⟩, List.mem_of_getElem? (i := 520) (by decide +kernel), List.mem_of_getElem? (i := 891) (by decide +kernel), List.mem_of_getElem? (i := 892) (by decide +kernel)⟩
def lw_privs_5 : List (MethodName × Nat) := [(⟨"OnceLettersModel", "here", "()I"⟩, 14), (⟨"OnceLettersModel", "order", "()Z"⟩, 14), (⟨"OnceLettersModel", "stopsHere", "()Z"⟩, 14), (⟨"OnceLettersModel", "number", "(I)Z"⟩, 14), (⟨"OnceLettersModel", "isFigure", "()Z"⟩, 14), (⟨"OnceLettersModel", "answers", "(I)I"⟩, 14), (⟨"OnceLettersModel", "tellAll", "(I)I"⟩, 14), (⟨"OnceLettersModel", "dues", "()I"⟩, 14), (⟨"OnceLettersModel", "sumOf", "(I)I"⟩, 14), (⟨"OnceLettersModel", "tell", "(I)I"⟩, 14), (⟨"OnceLettersModel", "more", "(I)V"⟩, 14), (⟨"OnceLettersModel", "morePart", "(I)V"⟩, 14)]
theorem lw_r5 : ∀ q ∈ lw_privs_5, lw_okq q := List.forall_mem_cons.mpr ⟨lw_p64, List.forall_mem_cons.mpr ⟨lw_p65, List.forall_mem_cons.mpr ⟨lw_p66, List.forall_mem_cons.mpr ⟨lw_p67, List.forall_mem_cons.mpr ⟨lw_p68, List.forall_mem_cons.mpr ⟨lw_p69, List.forall_mem_cons.mpr ⟨lw_p70, List.forall_mem_cons.mpr ⟨lw_p71, List.forall_mem_cons.mpr ⟨lw_p72, List.forall_mem_cons.mpr ⟨lw_p73, List.forall_mem_cons.mpr ⟨lw_p74, List.forall_mem_cons.mpr ⟨lw_p75, fun _ h => absurd h List.not_mem_nil⟩⟩⟩⟩⟩⟩⟩⟩⟩⟩⟩⟩
def lw_privs : List (MethodName × Nat) := lw_privs_1 ++ (lw_privs_2 ++ (lw_privs_3 ++ (lw_privs_4 ++ (lw_privs_5))))
def lw_tbl : List Cond := k2_sels lw_privs ++ tables_1
theorem lw_privs_ok : ∀ q ∈ lw_privs, lw_okq q := by
  show ∀ q ∈ lw_privs_1 ++ (lw_privs_2 ++ (lw_privs_3 ++ (lw_privs_4 ++ (lw_privs_5)))), lw_okq q
  exact List.forall_mem_append.mpr ⟨lw_r1, List.forall_mem_append.mpr ⟨lw_r2, List.forall_mem_append.mpr ⟨lw_r3, List.forall_mem_append.mpr ⟨lw_r4, lw_r5⟩⟩⟩⟩
end
section
def RX0 : String := "OnceLetters$Consumer"
def TX0 : u_T := fun k => match k with
  | 0 => ("OnceLetters$Consumer", "place", "[I", true)
  | _ => ("OnceLetters$Consumer", "saved", "[I", true)
def tyX0 : Nat → FieldType := fun k => match k with
  | 0 => .array .int
  | _ => .array .int
abbrev wsX00 : List Cond := u_ws RX0 TX0 2
theorem nmX0 : ∀ a, a < 2 → ∀ b, b < 2 → a ≠ b → (TX0 a).2.1 ≠ (TX0 b).2.1 := by decide +kernel
theorem tyX0_ok : ∀ k, k < 2 → parseFieldDescriptor (TX0 k).2.2.1 = some (tyX0 k) := by decide +kernel
abbrev cX0_init : ByteArray := prog_2_method_1_code
def yX0_init : MethodName := ⟨RX0, "<init>", "()V"⟩
abbrev cX0_copy : ByteArray := prog_2_method_2_code
def yX0_copy : MethodName := ⟨RX0, "copy", "(LOnceLetters$Consumer;)V"⟩
abbrev cX0_save : ByteArray := prog_2_method_3_code
def yX0_save : MethodName := ⟨RX0, "save", "([II)V"⟩
abbrev cX0_returnToSaved : ByteArray := prog_2_method_4_code
def yX0_returnToSaved : MethodName := ⟨RX0, "returnToSaved", "()I"⟩
def RX1 : String := "OnceLetters$Log"
def TX1 : u_T := fun k => match k with
  | 0 => ("OnceLetters$Log", "length", "I", false)
  | 1 => ("OnceLetters$Log", "writer", "[I", true)
  | 2 => ("OnceLetters$Log", "age", "[I", true)
  | 3 => ("OnceLetters$Log", "number", "[I", true)
  | 4 => ("OnceLetters$Log", "value", "[I", true)
  | 5 => ("OnceLetters$Log", "first", "[I", true)
  | _ => ("OnceLetters$Log", "mark", "[I", true)
def tyX1 : Nat → FieldType := fun k => match k with
  | 0 => .int
  | 1 => .array .int
  | 2 => .array .int
  | 3 => .array .int
  | 4 => .array .int
  | 5 => .array .int
  | _ => .array .int
abbrev wsX10 : List Cond := u_ws RX1 TX1 7
theorem nmX1 : ∀ a, a < 7 → ∀ b, b < 7 → a ≠ b → (TX1 a).2.1 ≠ (TX1 b).2.1 := by decide +kernel
theorem tyX1_ok : ∀ k, k < 7 → parseFieldDescriptor (TX1 k).2.2.1 = some (tyX1 k) := by decide +kernel
abbrev cX1_init : ByteArray := prog_3_method_1_code
def yX1_init : MethodName := ⟨RX1, "<init>", "()V"⟩
abbrev cX1_appendMarker : ByteArray := prog_3_method_2_code
def yX1_appendMarker : MethodName := ⟨RX1, "appendMarker", "(IIII)V"⟩
abbrev cX1_append : ByteArray := prog_3_method_3_code
def yX1_append : MethodName := ⟨RX1, "append", "(IIIII)I"⟩
abbrev cX1_cut : ByteArray := prog_3_method_4_code
def yX1_cut : MethodName := ⟨RX1, "cut", "(I)V"⟩
abbrev cX1_isMarker : ByteArray := prog_3_method_5_code
def yX1_isMarker : MethodName := ⟨RX1, "isMarker", "(I)Z"⟩
abbrev cX1_lastBefore : ByteArray := prog_3_method_6_code
def yX1_lastBefore : MethodName := ⟨RX1, "lastBefore", "(III)I"⟩
abbrev cX1_twinOf : ByteArray := prog_3_method_7_code
def yX1_twinOf : MethodName := ⟨RX1, "twinOf", "(III)I"⟩
abbrev cX1_numberDue : ByteArray := prog_3_method_8_code
def yX1_numberDue : MethodName := ⟨RX1, "numberDue", "(II)I"⟩
abbrev cX1_fate : ByteArray := prog_3_method_9_code
def yX1_fate : MethodName := ⟨RX1, "fate", "(I)I"⟩
abbrev cX1_isVisible : ByteArray := prog_3_method_10_code
def yX1_isVisible : MethodName := ⟨RX1, "isVisible", "(II)Z"⟩
abbrev cX1_visibleFrom : ByteArray := prog_3_method_11_code
def yX1_visibleFrom : MethodName := ⟨RX1, "visibleFrom", "(II)I"⟩
abbrev cX1_nextVisible : ByteArray := prog_3_method_12_code
def yX1_nextVisible : MethodName := ⟨RX1, "nextVisible", "(II)I"⟩
abbrev cX1_markers : ByteArray := prog_3_method_13_code
def yX1_markers : MethodName := ⟨RX1, "markers", "()I"⟩
abbrev cX1_startsAborted : ByteArray := prog_3_method_14_code
def yX1_startsAborted : MethodName := ⟨RX1, "startsAborted", "(I)Z"⟩
abbrev cX1_abortedDeeds : ByteArray := prog_3_method_15_code
def yX1_abortedDeeds : MethodName := ⟨RX1, "abortedDeeds", "()I"⟩
abbrev cX1_abortedFirst : ByteArray := prog_3_method_16_code
def yX1_abortedFirst : MethodName := ⟨RX1, "abortedFirst", "(I)I"⟩
def RX2 : String := "OnceLetters$Producer"
def TX2 : u_T := fun k => match k with
  | 0 => ("OnceLetters$Producer", "age", "I", false)
  | 1 => ("OnceLetters$Producer", "mode", "I", false)
  | 2 => ("OnceLetters$Producer", "commit", "I", false)
  | 3 => ("OnceLetters$Producer", "opened", "I", false)
  | 4 => ("OnceLetters$Producer", "first", "[I", true)
  | 5 => ("OnceLetters$Producer", "due", "[I", true)
  | _ => ("OnceLetters$Producer", "carried", "[I", true)
def tyX2 : Nat → FieldType := fun k => match k with
  | 0 => .int
  | 1 => .int
  | 2 => .int
  | 3 => .int
  | 4 => .array .int
  | 5 => .array .int
  | _ => .array .int
abbrev wsX20 : List Cond := u_ws RX2 TX2 7
theorem nmX2 : ∀ a, a < 7 → ∀ b, b < 7 → a ≠ b → (TX2 a).2.1 ≠ (TX2 b).2.1 := by decide +kernel
theorem tyX2_ok : ∀ k, k < 7 → parseFieldDescriptor (TX2 k).2.2.1 = some (tyX2 k) := by decide +kernel
abbrev cX2_init : ByteArray := prog_4_method_1_code
def yX2_init : MethodName := ⟨RX2, "<init>", "()V"⟩
abbrev cX2_copy : ByteArray := prog_4_method_2_code
def yX2_copy : MethodName := ⟨RX2, "copy", "(LOnceLetters$Producer;)V"⟩
abbrev cX2_partSet : ByteArray := prog_4_method_3_code
def yX2_partSet : MethodName := ⟨RX2, "partSet", "()I"⟩
abbrev cX2_holds : ByteArray := prog_4_method_4_code
def yX2_holds : MethodName := ⟨RX2, "holds", "(I)Z"⟩
abbrev cX2_schedule : ByteArray := prog_4_method_5_code
def yX2_schedule : MethodName := ⟨RX2, "schedule", "(I)I"⟩
abbrev cX2_markersDue : ByteArray := prog_4_method_6_code
def yX2_markersDue : MethodName := ⟨RX2, "markersDue", "()I"⟩
abbrev cX2_partDueAt : ByteArray := prog_4_method_7_code
def yX2_partDueAt : MethodName := ⟨RX2, "partDueAt", "(I)I"⟩
abbrev cX2_rest : ByteArray := prog_4_method_8_code
def yX2_rest : MethodName := ⟨RX2, "rest", "()V"⟩
def RX3 : String := "OnceLetters$Script"
def TX3 : u_T := fun k => match k with
  | 0 => ("OnceLetters$Script", "bytes", "[I", true)
  | 1 => ("OnceLetters$Script", "length", "I", false)
  | 2 => ("OnceLetters$Script", "letters", "[I", true)
  | 3 => ("OnceLetters$Script", "numbers", "[I", true)
  | 4 => ("OnceLetters$Script", "orders", "I", false)
  | 5 => ("OnceLetters$Script", "inOrder", "Z", false)
  | 6 => ("OnceLetters$Script", "wanted", "I", false)
  | 7 => ("OnceLetters$Script", "given", "I", false)
  | _ => ("OnceLetters$Script", "digits", "I", false)
def tyX3 : Nat → FieldType := fun k => match k with
  | 0 => .array .int
  | 1 => .int
  | 2 => .array .int
  | 3 => .array .int
  | 4 => .int
  | 5 => .boolean
  | 6 => .int
  | 7 => .int
  | _ => .int
abbrev wsX30 : List Cond := u_ws RX3 TX3 9
theorem nmX3 : ∀ a, a < 9 → ∀ b, b < 9 → a ≠ b → (TX3 a).2.1 ≠ (TX3 b).2.1 := by decide +kernel
theorem tyX3_ok : ∀ k, k < 9 → parseFieldDescriptor (TX3 k).2.2.1 = some (tyX3 k) := by decide +kernel
abbrev cX3_init : ByteArray := prog_5_method_1_code
def yX3_init : MethodName := ⟨RX3, "<init>", "()V"⟩
abbrev cX3_findFault : ByteArray := prog_5_method_2_code
def yX3_findFault : MethodName := ⟨RX3, "findFault", "()I"⟩
abbrev cX3_takes : ByteArray := prog_5_method_3_code
def yX3_takes : MethodName := ⟨RX3, "takes", "(I)Z"⟩
abbrev cX3_takesLetter : ByteArray := prog_5_method_4_code
def yX3_takesLetter : MethodName := ⟨RX3, "takesLetter", "(I)Z"⟩
abbrev cX3_takesDigit : ByteArray := prog_5_method_5_code
def yX3_takesDigit : MethodName := ⟨RX3, "takesDigit", "(I)Z"⟩
abbrev cX3_takesEnd : ByteArray := prog_5_method_6_code
def yX3_takesEnd : MethodName := ⟨RX3, "takesEnd", "()Z"⟩
abbrev cX3_numbersOf : ByteArray := prog_5_method_7_code
def yX3_numbersOf : MethodName := ⟨RX3, "numbersOf", "(I)I"⟩
def RX4 : String := "OnceLetters$State"
def TX4 : u_T := fun k => match k with
  | 0 => ("OnceLetters$State", "time", "I", false)
  | 1 => ("OnceLetters$State", "limit", "I", false)
  | 2 => ("OnceLetters$State", "lengths", "[I", true)
  | 3 => ("OnceLetters$State", "producers", "[LOnceLetters$Producer;", true)
  | _ => ("OnceLetters$State", "consumers", "[LOnceLetters$Consumer;", true)
def tyX4 : Nat → FieldType := fun k => match k with
  | 0 => .int
  | 1 => .int
  | 2 => .array .int
  | 3 => .array (.object "OnceLetters$Producer")
  | _ => .array (.object "OnceLetters$Consumer")
abbrev wsX40 : List Cond := u_ws RX4 TX4 5
theorem nmX4 : ∀ a, a < 5 → ∀ b, b < 5 → a ≠ b → (TX4 a).2.1 ≠ (TX4 b).2.1 := by decide +kernel
theorem tyX4_ok : ∀ k, k < 5 → parseFieldDescriptor (TX4 k).2.2.1 = some (tyX4 k) := by decide +kernel
abbrev cX4_init : ByteArray := prog_6_method_1_code
def yX4_init : MethodName := ⟨RX4, "<init>", "()V"⟩
abbrev cX4_copy : ByteArray := prog_6_method_2_code
def yX4_copy : MethodName := ⟨RX4, "copy", "(LOnceLetters$State;)V"⟩
def RX5 : String := "OnceLetters"
def TX5 : u_T := fun k => match k with
  | 0 => ("OnceLetters", "logs", "[LOnceLetters$Log;", true)
  | 1 => ("OnceLetters", "now", "LOnceLetters$State;", true)
  | 2 => ("OnceLetters", "kept", "[LOnceLetters$State;", true)
  | 3 => ("OnceLetters", "keptCount", "I", false)
  | 4 => ("OnceLetters", "keptNext", "I", false)
  | 5 => ("OnceLetters", "script", "LOnceLetters$Script;", true)
  | 6 => ("OnceLetters", "errors", "[I", true)
  | 7 => ("OnceLetters", "lastAnswer", "I", false)
  | _ => ("OnceLetters", "inOrders", "Z", false)
def tyX5 : Nat → FieldType := fun k => match k with
  | 0 => .array (.object "OnceLetters$Log")
  | 1 => .object "OnceLetters$State"
  | 2 => .array (.object "OnceLetters$State")
  | 3 => .int
  | 4 => .int
  | 5 => .object "OnceLetters$Script"
  | 6 => .array .int
  | 7 => .int
  | _ => .boolean
abbrev wsX50 : List Cond := u_ws RX5 TX5 9
theorem nmX5 : ∀ a, a < 9 → ∀ b, b < 9 → a ≠ b → (TX5 a).2.1 ≠ (TX5 b).2.1 := by decide +kernel
theorem tyX5_ok : ∀ k, k < 9 → parseFieldDescriptor (TX5 k).2.2.1 = some (tyX5 k) := by decide +kernel
abbrev cX5_init : ByteArray := prog_1_method_1_code
def yX5_init : MethodName := ⟨RX5, "<init>", "()V"⟩
abbrev cX5_begins : ByteArray := prog_1_method_2_code
def yX5_begins : MethodName := ⟨RX5, "begins", "(I)I"⟩
abbrev cX5_opens : ByteArray := prog_1_method_3_code
def yX5_opens : MethodName := ⟨RX5, "opens", "(II)I"⟩
abbrev cX5_sends : ByteArray := prog_1_method_4_code
def yX5_sends : MethodName := ⟨RX5, "sends", "(IIIII)I"⟩
abbrev cX5_ends : ByteArray := prog_1_method_5_code
def yX5_ends : MethodName := ⟨RX5, "ends", "(III)I"⟩
abbrev cX5_carries : ByteArray := prog_1_method_6_code
def yX5_carries : MethodName := ⟨RX5, "carries", "(IIII)I"⟩
abbrev cX5_ticks : ByteArray := prog_1_method_7_code
def yX5_ticks : MethodName := ⟨RX5, "ticks", "(I)I"⟩
abbrev cX5_limit : ByteArray := prog_1_method_8_code
def yX5_limit : MethodName := ⟨RX5, "limit", "(I)I"⟩
abbrev cX5_writer : ByteArray := prog_1_method_9_code
def yX5_writer : MethodName := ⟨RX5, "writer", "(II)I"⟩
abbrev cX5_entry : ByteArray := prog_1_method_10_code
def yX5_entry : MethodName := ⟨RX5, "entry", "(III)I"⟩
abbrev cX5_part : ByteArray := prog_1_method_11_code
def yX5_part : MethodName := ⟨RX5, "part", "(II)I"⟩
abbrev cX5_aborted : ByteArray := prog_1_method_12_code
def yX5_aborted : MethodName := ⟨RX5, "aborted", "(III)I"⟩
abbrev cX5_reads : ByteArray := prog_1_method_13_code
def yX5_reads : MethodName := ⟨RX5, "reads", "(II)I"⟩
abbrev cX5_rewinds : ByteArray := prog_1_method_14_code
def yX5_rewinds : MethodName := ⟨RX5, "rewinds", "(I)I"⟩
abbrev cX5_reader : ByteArray := prog_1_method_15_code
def yX5_reader : MethodName := ⟨RX5, "reader", "(III)I"⟩
abbrev cX5_type : ByteArray := prog_1_method_16_code
def yX5_type : MethodName := ⟨RX5, "type", "(I)I"⟩
abbrev cX5_clear : ByteArray := prog_1_method_17_code
def yX5_clear : MethodName := ⟨RX5, "clear", "()I"⟩
abbrev cX5_does : ByteArray := prog_1_method_18_code
def yX5_does : MethodName := ⟨RX5, "does", "()I"⟩
abbrev cX5_asked : ByteArray := prog_1_method_19_code
def yX5_asked : MethodName := ⟨RX5, "asked", "()I"⟩
abbrev cX5_all : ByteArray := prog_1_method_20_code
def yX5_all : MethodName := ⟨RX5, "all", "(I)I"⟩
abbrev cX5_back : ByteArray := prog_1_method_21_code
def yX5_back : MethodName := ⟨RX5, "back", "()I"⟩
abbrev cX5_told : ByteArray := prog_1_method_22_code
def yX5_told : MethodName := ⟨RX5, "told", "(I)I"⟩
abbrev cX5_digest : ByteArray := prog_1_method_23_code
def yX5_digest : MethodName := ⟨RX5, "digest", "()J"⟩
abbrev cX5_outside : ByteArray := prog_1_method_24_code
def yX5_outside : MethodName := ⟨RX5, "outside", "(II)Z"⟩
abbrev cX5_wrongAge : ByteArray := prog_1_method_25_code
def yX5_wrongAge : MethodName := ⟨RX5, "wrongAge", "(II)Z"⟩
abbrev cX5_failed : ByteArray := prog_1_method_26_code
def yX5_failed : MethodName := ⟨RX5, "failed", "(I)I"⟩
abbrev cX5_keep : ByteArray := prog_1_method_27_code
def yX5_keep : MethodName := ⟨RX5, "keep", "()V"⟩
abbrev cX5_endDeed : ByteArray := prog_1_method_28_code
def yX5_endDeed : MethodName := ⟨RX5, "endDeed", "(LOnceLetters$Producer;I)I"⟩
abbrev cX5_finishDeed : ByteArray := prog_1_method_29_code
def yX5_finishDeed : MethodName := ⟨RX5, "finishDeed", "(LOnceLetters$Producer;)V"⟩
abbrev cX5_writeMarkers : ByteArray := prog_1_method_30_code
def yX5_writeMarkers : MethodName := ⟨RX5, "writeMarkers", "()I"⟩
abbrev cX5_abortHanging : ByteArray := prog_1_method_31_code
def yX5_abortHanging : MethodName := ⟨RX5, "abortHanging", "()V"⟩
abbrev cX5_producersIn : ByteArray := prog_1_method_32_code
def yX5_producersIn : MethodName := ⟨RX5, "producersIn", "(I)I"⟩
abbrev cX5_reserve : ByteArray := prog_1_method_33_code
def yX5_reserve : MethodName := ⟨RX5, "reserve", "(I)I"⟩
abbrev cX5_holder : ByteArray := prog_1_method_34_code
def yX5_holder : MethodName := ⟨RX5, "holder", "(I)I"⟩
abbrev cX5_stable : ByteArray := prog_1_method_35_code
def yX5_stable : MethodName := ⟨RX5, "stable", "(I)I"⟩
abbrev cX5_entriesOfAll : ByteArray := prog_1_method_36_code
def yX5_entriesOfAll : MethodName := ⟨RX5, "entriesOfAll", "()I"⟩
abbrev cX5_markersOfAll : ByteArray := prog_1_method_37_code
def yX5_markersOfAll : MethodName := ⟨RX5, "markersOfAll", "()I"⟩
abbrev cX5_visibleOfAll : ByteArray := prog_1_method_38_code
def yX5_visibleOfAll : MethodName := ⟨RX5, "visibleOfAll", "()I"⟩
abbrev cX5_dueOfAll : ByteArray := prog_1_method_39_code
def yX5_dueOfAll : MethodName := ⟨RX5, "dueOfAll", "()I"⟩
abbrev cX5_mixPart : ByteArray := prog_1_method_40_code
def yX5_mixPart : MethodName := ⟨RX5, "mixPart", "(JI)J"⟩
abbrev cX5_mixReader : ByteArray := prog_1_method_41_code
def yX5_mixReader : MethodName := ⟨RX5, "mixReader", "(JI)J"⟩
abbrev cX5_carryOut : ByteArray := prog_1_method_42_code
def yX5_carryOut : MethodName := ⟨RX5, "carryOut", "(I)I"⟩
def RX6 : String := "OnceLettersModel"
def TX6 : u_T := fun k => match k with
  | 0 => ("OnceLettersModel", "now", "[I", true)
  | 1 => ("OnceLettersModel", "past", "[I", true)
  | 2 => ("OnceLettersModel", "states", "I", false)
  | 3 => ("OnceLettersModel", "isOne", "Z", false)
  | 4 => ("OnceLettersModel", "refused", "[I", true)
  | 5 => ("OnceLettersModel", "text", "[I", true)
  | 6 => ("OnceLettersModel", "size", "I", false)
  | 7 => ("OnceLettersModel", "at", "I", false)
  | 8 => ("OnceLettersModel", "fault", "I", false)
  | 9 => ("OnceLettersModel", "orders", "I", false)
  | 10 => ("OnceLettersModel", "letters", "[I", true)
  | 11 => ("OnceLettersModel", "tells", "[I", true)
  | 12 => ("OnceLettersModel", "last", "I", false)
  | _ => ("OnceLettersModel", "h", "J", false)
def tyX6 : Nat → FieldType := fun k => match k with
  | 0 => .array .int
  | 1 => .array .int
  | 2 => .int
  | 3 => .boolean
  | 4 => .array .int
  | 5 => .array .int
  | 6 => .int
  | 7 => .int
  | 8 => .int
  | 9 => .int
  | 10 => .array .int
  | 11 => .array .int
  | 12 => .int
  | _ => .long
abbrev wsX60 : List Cond := u_ws RX6 TX6 14
theorem nmX6 : ∀ a, a < 14 → ∀ b, b < 14 → a ≠ b → (TX6 a).2.1 ≠ (TX6 b).2.1 := by decide +kernel
theorem tyX6_ok : ∀ k, k < 14 → parseFieldDescriptor (TX6 k).2.2.1 = some (tyX6 k) := by decide +kernel
abbrev cX6_init : ByteArray := prog_8_method_1_code
def yX6_init : MethodName := ⟨RX6, "<init>", "()V"⟩
abbrev cX6_in : ByteArray := prog_8_method_3_code
def yX6_in : MethodName := ⟨RX6, "in", "(III)Z"⟩
abbrev cX6_has : ByteArray := prog_8_method_4_code
def yX6_has : MethodName := ⟨RX6, "has", "(II)Z"⟩
abbrev cX6_bits : ByteArray := prog_8_method_5_code
def yX6_bits : MethodName := ⟨RX6, "bits", "(I)I"⟩
abbrev cX6_refuse : ByteArray := prog_8_method_6_code
def yX6_refuse : MethodName := ⟨RX6, "refuse", "(II)I"⟩
abbrev cX6_bad : ByteArray := prog_8_method_7_code
def yX6_bad : MethodName := ⟨RX6, "bad", "()I"⟩
abbrev cX6_isWriter : ByteArray := prog_8_method_8_code
def yX6_isWriter : MethodName := ⟨RX6, "isWriter", "(I)Z"⟩
abbrev cX6_isPart : ByteArray := prog_8_method_9_code
def yX6_isPart : MethodName := ⟨RX6, "isPart", "(I)Z"⟩
abbrev cX6_isReader : ByteArray := prog_8_method_10_code
def yX6_isReader : MethodName := ⟨RX6, "isReader", "(I)Z"⟩
abbrev cX6_copies : ByteArray := prog_8_method_11_code
def yX6_copies : MethodName := ⟨RX6, "copies", "([II[II)V"⟩
abbrev cX6_keeps : ByteArray := prog_8_method_12_code
def yX6_keeps : MethodName := ⟨RX6, "keeps", "([II)V"⟩
abbrev cX6_notes : ByteArray := prog_8_method_13_code
def yX6_notes : MethodName := ⟨RX6, "notes", "()V"⟩
abbrev cX6_of : ByteArray := prog_8_method_14_code
def yX6_of : MethodName := ⟨RX6, "of", "(II)I"⟩
abbrev cX6_lays : ByteArray := prog_8_method_15_code
def yX6_lays : MethodName := ⟨RX6, "lays", "(III)V"⟩
abbrev cX6_sizeOf : ByteArray := prog_8_method_16_code
def yX6_sizeOf : MethodName := ⟨RX6, "sizeOf", "(I)I"⟩
abbrev cX6_cellOf : ByteArray := prog_8_method_17_code
def yX6_cellOf : MethodName := ⟨RX6, "cellOf", "(III)I"⟩
abbrev cX6_put : ByteArray := prog_8_method_18_code
def yX6_put : MethodName := ⟨RX6, "put", "(IIII)V"⟩
abbrev cX6_manyAre : ByteArray := prog_8_method_19_code
def yX6_manyAre : MethodName := ⟨RX6, "manyAre", "(I)I"⟩
abbrev cX6_lacksMark : ByteArray := prog_8_method_20_code
def yX6_lacksMark : MethodName := ⟨RX6, "lacksMark", "(II)Z"⟩
abbrev cX6_owed : ByteArray := prog_8_method_21_code
def yX6_owed : MethodName := ⟨RX6, "owed", "(I)I"⟩
abbrev cX6_holder : ByteArray := prog_8_method_22_code
def yX6_holder : MethodName := ⟨RX6, "holder", "(I)I"⟩
abbrev cX6_stable : ByteArray := prog_8_method_23_code
def yX6_stable : MethodName := ⟨RX6, "stable", "(I)I"⟩
abbrev cX6_isSeen : ByteArray := prog_8_method_24_code
def yX6_isSeen : MethodName := ⟨RX6, "isSeen", "(III)Z"⟩
abbrev cX6_seenFrom : ByteArray := prog_8_method_25_code
def yX6_seenFrom : MethodName := ⟨RX6, "seenFrom", "(II)I"⟩
abbrev cX6_firstSeen : ByteArray := prog_8_method_26_code
def yX6_firstSeen : MethodName := ⟨RX6, "firstSeen", "(II)I"⟩
abbrev cX6_isRecent : ByteArray := prog_8_method_27_code
def yX6_isRecent : MethodName := ⟨RX6, "isRecent", "(III)Z"⟩
abbrev cX6_twinOf : ByteArray := prog_8_method_28_code
def yX6_twinOf : MethodName := ⟨RX6, "twinOf", "(III)I"⟩
abbrev cX6_dueOf : ByteArray := prog_8_method_29_code
def yX6_dueOf : MethodName := ⟨RX6, "dueOf", "(II)I"⟩
abbrev cX6_isOver : ByteArray := prog_8_method_30_code
def yX6_isOver : MethodName := ⟨RX6, "isOver", "(I)V"⟩
abbrev cX6_endDeed : ByteArray := prog_8_method_31_code
def yX6_endDeed : MethodName := ⟨RX6, "endDeed", "(II)V"⟩
abbrev cX6_rank : ByteArray := prog_8_method_32_code
def yX6_rank : MethodName := ⟨RX6, "rank", "(II)I"⟩
abbrev cX6_isDue : ByteArray := prog_8_method_33_code
def yX6_isDue : MethodName := ⟨RX6, "isDue", "(II)Z"⟩
abbrev cX6_writeMark : ByteArray := prog_8_method_34_code
def yX6_writeMark : MethodName := ⟨RX6, "writeMark", "(II)V"⟩
abbrev cX6_tick : ByteArray := prog_8_method_35_code
def yX6_tick : MethodName := ⟨RX6, "tick", "()I"⟩
abbrev cX6_begins : ByteArray := prog_8_method_36_code
def yX6_begins : MethodName := ⟨RX6, "begins", "(I)I"⟩
abbrev cX6_isAge : ByteArray := prog_8_method_37_code
def yX6_isAge : MethodName := ⟨RX6, "isAge", "(II)Z"⟩
abbrev cX6_opens : ByteArray := prog_8_method_38_code
def yX6_opens : MethodName := ⟨RX6, "opens", "(II)I"⟩
abbrev cX6_writes : ByteArray := prog_8_method_39_code
def yX6_writes : MethodName := ⟨RX6, "writes", "(IIII)I"⟩
abbrev cX6_sends : ByteArray := prog_8_method_40_code
def yX6_sends : MethodName := ⟨RX6, "sends", "(IIIII)I"⟩
abbrev cX6_ends : ByteArray := prog_8_method_41_code
def yX6_ends : MethodName := ⟨RX6, "ends", "(III)I"⟩
abbrev cX6_carries : ByteArray := prog_8_method_42_code
def yX6_carries : MethodName := ⟨RX6, "carries", "(IIII)I"⟩
abbrev cX6_ticks : ByteArray := prog_8_method_43_code
def yX6_ticks : MethodName := ⟨RX6, "ticks", "(I)I"⟩
abbrev cX6_limit : ByteArray := prog_8_method_44_code
def yX6_limit : MethodName := ⟨RX6, "limit", "(I)I"⟩
abbrev cX6_toCome : ByteArray := prog_8_method_45_code
def yX6_toCome : MethodName := ⟨RX6, "toCome", "(I)I"⟩
abbrev cX6_tellWriter : ByteArray := prog_8_method_46_code
def yX6_tellWriter : MethodName := ⟨RX6, "tellWriter", "(II)I"⟩
abbrev cX6_writer : ByteArray := prog_8_method_47_code
def yX6_writer : MethodName := ⟨RX6, "writer", "(II)I"⟩
abbrev cX6_tellEntry : ByteArray := prog_8_method_48_code
def yX6_tellEntry : MethodName := ⟨RX6, "tellEntry", "(III)I"⟩
abbrev cX6_entry : ByteArray := prog_8_method_49_code
def yX6_entry : MethodName := ⟨RX6, "entry", "(III)I"⟩
abbrev cX6_isAbort : ByteArray := prog_8_method_50_code
def yX6_isAbort : MethodName := ⟨RX6, "isAbort", "(II)Z"⟩
abbrev cX6_marksIn : ByteArray := prog_8_method_51_code
def yX6_marksIn : MethodName := ⟨RX6, "marksIn", "(IZ)I"⟩
abbrev cX6_tellPart : ByteArray := prog_8_method_52_code
def yX6_tellPart : MethodName := ⟨RX6, "tellPart", "(II)I"⟩
abbrev cX6_part : ByteArray := prog_8_method_53_code
def yX6_part : MethodName := ⟨RX6, "part", "(II)I"⟩
abbrev cX6_aheadOf : ByteArray := prog_8_method_54_code
def yX6_aheadOf : MethodName := ⟨RX6, "aheadOf", "(II)I"⟩
abbrev cX6_tellAborted : ByteArray := prog_8_method_55_code
def yX6_tellAborted : MethodName := ⟨RX6, "tellAborted", "(III)I"⟩
abbrev cX6_aborted : ByteArray := prog_8_method_56_code
def yX6_aborted : MethodName := ⟨RX6, "aborted", "(III)I"⟩
abbrev cX6_reads : ByteArray := prog_8_method_57_code
def yX6_reads : MethodName := ⟨RX6, "reads", "(II)I"⟩
abbrev cX6_rewinds : ByteArray := prog_8_method_58_code
def yX6_rewinds : MethodName := ⟨RX6, "rewinds", "(I)I"⟩
abbrev cX6_tellReader : ByteArray := prog_8_method_59_code
def yX6_tellReader : MethodName := ⟨RX6, "tellReader", "(III)I"⟩
abbrev cX6_reader : ByteArray := prog_8_method_60_code
def yX6_reader : MethodName := ⟨RX6, "reader", "(III)I"⟩
abbrev cX6_type : ByteArray := prog_8_method_61_code
def yX6_type : MethodName := ⟨RX6, "type", "(I)I"⟩
abbrev cX6_clear : ByteArray := prog_8_method_62_code
def yX6_clear : MethodName := ⟨RX6, "clear", "()I"⟩
abbrev cX6_here : ByteArray := prog_8_method_63_code
def yX6_here : MethodName := ⟨RX6, "here", "()I"⟩
abbrev cX6_skips : ByteArray := prog_8_method_64_code
def yX6_skips : MethodName := ⟨RX6, "skips", "()V"⟩
abbrev cX6_isFigure : ByteArray := prog_8_method_65_code
def yX6_isFigure : MethodName := ⟨RX6, "isFigure", "()Z"⟩
abbrev cX6_stopsHere : ByteArray := prog_8_method_66_code
def yX6_stopsHere : MethodName := ⟨RX6, "stopsHere", "()Z"⟩
abbrev cX6_numbersOf : ByteArray := prog_8_method_67_code
def yX6_numbersOf : MethodName := ⟨RX6, "numbersOf", "(I)I"⟩
abbrev cX6_number : ByteArray := prog_8_method_68_code
def yX6_number : MethodName := ⟨RX6, "number", "(I)Z"⟩
abbrev cX6_order : ByteArray := prog_8_method_69_code
def yX6_order : MethodName := ⟨RX6, "order", "()Z"⟩
abbrev cX6_parses : ByteArray := prog_8_method_70_code
def yX6_parses : MethodName := ⟨RX6, "parses", "()Z"⟩
abbrev cX6_answers : ByteArray := prog_8_method_71_code
def yX6_answers : MethodName := ⟨RX6, "answers", "(I)I"⟩
abbrev cX6_does : ByteArray := prog_8_method_72_code
def yX6_does : MethodName := ⟨RX6, "does", "()I"⟩
abbrev cX6_asked : ByteArray := prog_8_method_73_code
def yX6_asked : MethodName := ⟨RX6, "asked", "()I"⟩
abbrev cX6_sumOf : ByteArray := prog_8_method_74_code
def yX6_sumOf : MethodName := ⟨RX6, "sumOf", "(I)I"⟩
abbrev cX6_dues : ByteArray := prog_8_method_75_code
def yX6_dues : MethodName := ⟨RX6, "dues", "()I"⟩
abbrev cX6_tellAll : ByteArray := prog_8_method_76_code
def yX6_tellAll : MethodName := ⟨RX6, "tellAll", "(I)I"⟩
abbrev cX6_all : ByteArray := prog_8_method_77_code
def yX6_all : MethodName := ⟨RX6, "all", "(I)I"⟩
abbrev cX6_back : ByteArray := prog_8_method_78_code
def yX6_back : MethodName := ⟨RX6, "back", "()I"⟩
abbrev cX6_tell : ByteArray := prog_8_method_79_code
def yX6_tell : MethodName := ⟨RX6, "tell", "(I)I"⟩
abbrev cX6_told : ByteArray := prog_8_method_80_code
def yX6_told : MethodName := ⟨RX6, "told", "(I)I"⟩
abbrev cX6_more : ByteArray := prog_8_method_81_code
def yX6_more : MethodName := ⟨RX6, "more", "(I)V"⟩
abbrev cX6_morePart : ByteArray := prog_8_method_82_code
def yX6_morePart : MethodName := ⟨RX6, "morePart", "(I)V"⟩
abbrev cX6_digest : ByteArray := prog_8_method_83_code
def yX6_digest : MethodName := ⟨RX6, "digest", "()J"⟩
def RJ9 : String := "java/lang/Math"
def TJ9 : u_T := fun k => match k with
  | _ => ("", "", "", false)
def tyJ9 : Nat → FieldType := fun k => match k with
  | _ => .int
abbrev wsJ90 : List Cond := u_ws RJ9 TJ9 0
theorem nmJ9 : ∀ a, a < 0 → ∀ b, b < 0 → a ≠ b → (TJ9 a).2.1 ≠ (TJ9 b).2.1 := by decide +kernel
theorem tyJ9_ok : ∀ k, k < 0 → parseFieldDescriptor (TJ9 k).2.2.1 = some (tyJ9 k) := by decide +kernel
abbrev cJ9_min_7cf53 : ByteArray := prog_9_method_69_code
def yJ9_min_7cf53 : MethodName := ⟨RJ9, "min", "(II)I"⟩
def RJ10 : String := "java/lang/System"
def TJ10 : u_T := fun k => match k with
  | _ => ("", "", "", false)
def tyJ10 : Nat → FieldType := fun k => match k with
  | _ => .int
abbrev wsJ100 : List Cond := u_ws RJ10 TJ10 0
theorem nmJ10 : ∀ a, a < 0 → ∀ b, b < 0 → a ≠ b → (TJ10 a).2.1 ≠ (TJ10 b).2.1 := by decide +kernel
theorem tyJ10_ok : ∀ k, k < 0 → parseFieldDescriptor (TJ10 k).2.2.1 = some (tyJ10 k) := by decide +kernel
def RL : String := "OnceLettersLaw"
abbrev cL_law : ByteArray := code
def yL_law : MethodName := ⟨RL, "law", "([I)Z"⟩
abbrev vwCl : List vw_C := [(RX0, TX0, 2), (RX1, TX1, 7), (RX2, TX2, 7), (RX3, TX3, 9), (RX4, TX4, 5), (RX5, TX5, 9), (RX6, TX6, 14)]
end
section
theorem dX0_init_0 : decode cX0_init 0 = .ok (.aload_n 0, 1) := by decide +kernel
theorem dX0_init_1 : decode cX0_init 1 = .ok (.invokespecial 3, 3) := by decide +kernel
theorem dX0_init_4 : decode cX0_init 4 = .ok (.aload_n 0, 1) := by decide +kernel
theorem dX0_init_5 : decode cX0_init 5 = .ok (.iconst 3, 1) := by decide +kernel
theorem dX0_init_6 : decode cX0_init 6 = .ok (.newarray .int, 2) := by decide +kernel
theorem dX0_init_8 : decode cX0_init 8 = .ok (.putfield 9, 3) := by decide +kernel
theorem dX0_init_11 : decode cX0_init 11 = .ok (.aload_n 0, 1) := by decide +kernel
theorem dX0_init_12 : decode cX0_init 12 = .ok (.iconst 3, 1) := by decide +kernel
theorem dX0_init_13 : decode cX0_init 13 = .ok (.newarray .int, 2) := by decide +kernel
theorem dX0_init_15 : decode cX0_init 15 = .ok (.putfield 15, 3) := by decide +kernel
theorem dX0_init_18 : decode cX0_init 18 = .ok (.return_, 1) := by decide +kernel
theorem dX0_copy_0 : decode cX0_copy 0 = .ok (.aload_n 1, 1) := by decide +kernel
theorem dX0_copy_1 : decode cX0_copy 1 = .ok (.getfield 9, 3) := by decide +kernel
theorem dX0_copy_4 : decode cX0_copy 4 = .ok (.iconst 0, 1) := by decide +kernel
theorem dX0_copy_5 : decode cX0_copy 5 = .ok (.aload_n 0, 1) := by decide +kernel
theorem dX0_copy_6 : decode cX0_copy 6 = .ok (.getfield 9, 3) := by decide +kernel
theorem dX0_copy_9 : decode cX0_copy 9 = .ok (.iconst 0, 1) := by decide +kernel
theorem dX0_copy_10 : decode cX0_copy 10 = .ok (.iconst 3, 1) := by decide +kernel
theorem dX0_copy_11 : decode cX0_copy 11 = .ok (.invokestatic 18, 3) := by decide +kernel
theorem dX0_copy_14 : decode cX0_copy 14 = .ok (.aload_n 1, 1) := by decide +kernel
theorem dX0_copy_15 : decode cX0_copy 15 = .ok (.getfield 15, 3) := by decide +kernel
theorem dX0_copy_18 : decode cX0_copy 18 = .ok (.iconst 0, 1) := by decide +kernel
theorem dX0_copy_19 : decode cX0_copy 19 = .ok (.aload_n 0, 1) := by decide +kernel
theorem dX0_copy_20 : decode cX0_copy 20 = .ok (.getfield 15, 3) := by decide +kernel
theorem dX0_copy_23 : decode cX0_copy 23 = .ok (.iconst 0, 1) := by decide +kernel
theorem dX0_copy_24 : decode cX0_copy 24 = .ok (.iconst 3, 1) := by decide +kernel
theorem dX0_copy_25 : decode cX0_copy 25 = .ok (.invokestatic 18, 3) := by decide +kernel
theorem dX0_copy_28 : decode cX0_copy 28 = .ok (.return_, 1) := by decide +kernel
theorem dX0_save_0 : decode cX0_save 0 = .ok (.iconst 0, 1) := by decide +kernel
theorem dX0_save_1 : decode cX0_save 1 = .ok (.istore_n 3, 1) := by decide +kernel
theorem dX0_save_2 : decode cX0_save 2 = .ok (.iload_n 3, 1) := by decide +kernel
theorem dX0_save_3 : decode cX0_save 3 = .ok (.iconst 3, 1) := by decide +kernel
theorem dX0_save_4 : decode cX0_save 4 = .ok (.if_icmp .ge 29, 3) := by decide +kernel
theorem dX0_save_7 : decode cX0_save 7 = .ok (.aload_n 1, 1) := by decide +kernel
theorem dX0_save_8 : decode cX0_save 8 = .ok (.iload_n 2, 1) := by decide +kernel
theorem dX0_save_9 : decode cX0_save 9 = .ok (.iload_n 3, 1) := by decide +kernel
theorem dX0_save_10 : decode cX0_save 10 = .ok (.iadd, 1) := by decide +kernel
theorem dX0_save_11 : decode cX0_save 11 = .ok (.iaload, 1) := by decide +kernel
theorem dX0_save_12 : decode cX0_save 12 = .ok (.iconst (-1), 1) := by decide +kernel
theorem dX0_save_13 : decode cX0_save 13 = .ok (.if_icmp .eq 14, 3) := by decide +kernel
theorem dX0_save_16 : decode cX0_save 16 = .ok (.aload_n 0, 1) := by decide +kernel
theorem dX0_save_17 : decode cX0_save 17 = .ok (.getfield 15, 3) := by decide +kernel
theorem dX0_save_20 : decode cX0_save 20 = .ok (.iload_n 3, 1) := by decide +kernel
theorem dX0_save_21 : decode cX0_save 21 = .ok (.aload_n 1, 1) := by decide +kernel
theorem dX0_save_22 : decode cX0_save 22 = .ok (.iload_n 2, 1) := by decide +kernel
theorem dX0_save_23 : decode cX0_save 23 = .ok (.iload_n 3, 1) := by decide +kernel
theorem dX0_save_24 : decode cX0_save 24 = .ok (.iadd, 1) := by decide +kernel
theorem dX0_save_25 : decode cX0_save 25 = .ok (.iaload, 1) := by decide +kernel
theorem dX0_save_26 : decode cX0_save 26 = .ok (.iastore, 1) := by decide +kernel
theorem dX0_save_27 : decode cX0_save 27 = .ok (.iinc 3 1, 3) := by decide +kernel
theorem dX0_save_30 : decode cX0_save 30 = .ok (.goto (-28), 3) := by decide +kernel
theorem dX0_save_33 : decode cX0_save 33 = .ok (.return_, 1) := by decide +kernel
theorem dX0_returnToSaved_0 : decode cX0_returnToSaved 0 = .ok (.iconst 0, 1) := by decide +kernel
theorem dX0_returnToSaved_1 : decode cX0_returnToSaved 1 = .ok (.istore_n 1, 1) := by decide +kernel
theorem dX0_returnToSaved_2 : decode cX0_returnToSaved 2 = .ok (.iconst 0, 1) := by decide +kernel
theorem dX0_returnToSaved_3 : decode cX0_returnToSaved 3 = .ok (.istore_n 2, 1) := by decide +kernel
theorem dX0_returnToSaved_4 : decode cX0_returnToSaved 4 = .ok (.iload_n 2, 1) := by decide +kernel
theorem dX0_returnToSaved_5 : decode cX0_returnToSaved 5 = .ok (.iconst 3, 1) := by decide +kernel
theorem dX0_returnToSaved_6 : decode cX0_returnToSaved 6 = .ok (.if_icmp .ge 39, 3) := by decide +kernel
theorem dX0_returnToSaved_9 : decode cX0_returnToSaved 9 = .ok (.aload_n 0, 1) := by decide +kernel
theorem dX0_returnToSaved_10 : decode cX0_returnToSaved 10 = .ok (.getfield 9, 3) := by decide +kernel
theorem dX0_returnToSaved_13 : decode cX0_returnToSaved 13 = .ok (.iload_n 2, 1) := by decide +kernel
theorem dX0_returnToSaved_14 : decode cX0_returnToSaved 14 = .ok (.iaload, 1) := by decide +kernel
theorem dX0_returnToSaved_15 : decode cX0_returnToSaved 15 = .ok (.aload_n 0, 1) := by decide +kernel
theorem dX0_returnToSaved_16 : decode cX0_returnToSaved 16 = .ok (.getfield 15, 3) := by decide +kernel
theorem dX0_returnToSaved_19 : decode cX0_returnToSaved 19 = .ok (.iload_n 2, 1) := by decide +kernel
theorem dX0_returnToSaved_20 : decode cX0_returnToSaved 20 = .ok (.iaload, 1) := by decide +kernel
theorem dX0_returnToSaved_21 : decode cX0_returnToSaved 21 = .ok (.if_icmp .eq 18, 3) := by decide +kernel
theorem dX0_returnToSaved_24 : decode cX0_returnToSaved 24 = .ok (.iinc 1 1, 3) := by decide +kernel
theorem dX0_returnToSaved_27 : decode cX0_returnToSaved 27 = .ok (.aload_n 0, 1) := by decide +kernel
theorem dX0_returnToSaved_28 : decode cX0_returnToSaved 28 = .ok (.getfield 9, 3) := by decide +kernel
theorem dX0_returnToSaved_31 : decode cX0_returnToSaved 31 = .ok (.iload_n 2, 1) := by decide +kernel
theorem dX0_returnToSaved_32 : decode cX0_returnToSaved 32 = .ok (.aload_n 0, 1) := by decide +kernel
theorem dX0_returnToSaved_33 : decode cX0_returnToSaved 33 = .ok (.getfield 15, 3) := by decide +kernel
theorem dX0_returnToSaved_36 : decode cX0_returnToSaved 36 = .ok (.iload_n 2, 1) := by decide +kernel
theorem dX0_returnToSaved_37 : decode cX0_returnToSaved 37 = .ok (.iaload, 1) := by decide +kernel
theorem dX0_returnToSaved_38 : decode cX0_returnToSaved 38 = .ok (.iastore, 1) := by decide +kernel
theorem dX0_returnToSaved_39 : decode cX0_returnToSaved 39 = .ok (.iinc 2 1, 3) := by decide +kernel
theorem dX0_returnToSaved_42 : decode cX0_returnToSaved 42 = .ok (.goto (-38), 3) := by decide +kernel
theorem dX0_returnToSaved_45 : decode cX0_returnToSaved 45 = .ok (.iload_n 1, 1) := by decide +kernel
theorem dX0_returnToSaved_46 : decode cX0_returnToSaved 46 = .ok (.ireturn, 1) := by decide +kernel
theorem dX1_init_0 : decode cX1_init 0 = .ok (.aload_n 0, 1) := by decide +kernel
theorem dX1_init_1 : decode cX1_init 1 = .ok (.invokespecial 3, 3) := by decide +kernel
theorem dX1_init_4 : decode cX1_init 4 = .ok (.aload_n 0, 1) := by decide +kernel
theorem dX1_init_5 : decode cX1_init 5 = .ok (.iconst 0, 1) := by decide +kernel
theorem dX1_init_6 : decode cX1_init 6 = .ok (.putfield 9, 3) := by decide +kernel
theorem dX1_init_9 : decode cX1_init 9 = .ok (.aload_n 0, 1) := by decide +kernel
theorem dX1_init_10 : decode cX1_init 10 = .ok (.bipush 48, 2) := by decide +kernel
theorem dX1_init_12 : decode cX1_init 12 = .ok (.newarray .int, 2) := by decide +kernel
theorem dX1_init_14 : decode cX1_init 14 = .ok (.putfield 15, 3) := by decide +kernel
theorem dX1_init_17 : decode cX1_init 17 = .ok (.aload_n 0, 1) := by decide +kernel
theorem dX1_init_18 : decode cX1_init 18 = .ok (.bipush 48, 2) := by decide +kernel
theorem dX1_init_20 : decode cX1_init 20 = .ok (.newarray .int, 2) := by decide +kernel
theorem dX1_init_22 : decode cX1_init 22 = .ok (.putfield 19, 3) := by decide +kernel
theorem dX1_init_25 : decode cX1_init 25 = .ok (.aload_n 0, 1) := by decide +kernel
theorem dX1_init_26 : decode cX1_init 26 = .ok (.bipush 48, 2) := by decide +kernel
theorem dX1_init_28 : decode cX1_init 28 = .ok (.newarray .int, 2) := by decide +kernel
theorem dX1_init_30 : decode cX1_init 30 = .ok (.putfield 22, 3) := by decide +kernel
theorem dX1_init_33 : decode cX1_init 33 = .ok (.aload_n 0, 1) := by decide +kernel
theorem dX1_init_34 : decode cX1_init 34 = .ok (.bipush 48, 2) := by decide +kernel
theorem dX1_init_36 : decode cX1_init 36 = .ok (.newarray .int, 2) := by decide +kernel
theorem dX1_init_38 : decode cX1_init 38 = .ok (.putfield 25, 3) := by decide +kernel
theorem dX1_init_41 : decode cX1_init 41 = .ok (.aload_n 0, 1) := by decide +kernel
theorem dX1_init_42 : decode cX1_init 42 = .ok (.bipush 48, 2) := by decide +kernel
theorem dX1_init_44 : decode cX1_init 44 = .ok (.newarray .int, 2) := by decide +kernel
theorem dX1_init_46 : decode cX1_init 46 = .ok (.putfield 28, 3) := by decide +kernel
theorem dX1_init_49 : decode cX1_init 49 = .ok (.aload_n 0, 1) := by decide +kernel
theorem dX1_init_50 : decode cX1_init 50 = .ok (.bipush 48, 2) := by decide +kernel
theorem dX1_init_52 : decode cX1_init 52 = .ok (.newarray .int, 2) := by decide +kernel
theorem dX1_init_54 : decode cX1_init 54 = .ok (.putfield 31, 3) := by decide +kernel
theorem dX1_init_57 : decode cX1_init 57 = .ok (.return_, 1) := by decide +kernel
theorem dX1_appendMarker_0 : decode cX1_appendMarker 0 = .ok (.aload_n 0, 1) := by decide +kernel
theorem dX1_appendMarker_1 : decode cX1_appendMarker 1 = .ok (.iload_n 1, 1) := by decide +kernel
theorem dX1_appendMarker_2 : decode cX1_appendMarker 2 = .ok (.iload_n 2, 1) := by decide +kernel
theorem dX1_appendMarker_3 : decode cX1_appendMarker 3 = .ok (.iconst (-1), 1) := by decide +kernel
theorem dX1_appendMarker_4 : decode cX1_appendMarker 4 = .ok (.iload_n 3, 1) := by decide +kernel
theorem dX1_appendMarker_5 : decode cX1_appendMarker 5 = .ok (.iload 4, 2) := by decide +kernel
theorem dX1_appendMarker_7 : decode cX1_appendMarker 7 = .ok (.invokevirtual 34, 3) := by decide +kernel
theorem dX1_appendMarker_10 : decode cX1_appendMarker 10 = .ok (.istore 5, 2) := by decide +kernel
theorem dX1_appendMarker_12 : decode cX1_appendMarker 12 = .ok (.iload 4, 2) := by decide +kernel
theorem dX1_appendMarker_14 : decode cX1_appendMarker 14 = .ok (.ifCond .lt 19, 3) := by decide +kernel
theorem dX1_appendMarker_17 : decode cX1_appendMarker 17 = .ok (.iload 4, 2) := by decide +kernel
theorem dX1_appendMarker_19 : decode cX1_appendMarker 19 = .ok (.iload 5, 2) := by decide +kernel
theorem dX1_appendMarker_21 : decode cX1_appendMarker 21 = .ok (.if_icmp .ge 12, 3) := by decide +kernel
theorem dX1_appendMarker_24 : decode cX1_appendMarker 24 = .ok (.aload_n 0, 1) := by decide +kernel
theorem dX1_appendMarker_25 : decode cX1_appendMarker 25 = .ok (.getfield 31, 3) := by decide +kernel
theorem dX1_appendMarker_28 : decode cX1_appendMarker 28 = .ok (.iload 4, 2) := by decide +kernel
theorem dX1_appendMarker_30 : decode cX1_appendMarker 30 = .ok (.iload 5, 2) := by decide +kernel
theorem dX1_appendMarker_32 : decode cX1_appendMarker 32 = .ok (.iastore, 1) := by decide +kernel
theorem dX1_appendMarker_33 : decode cX1_appendMarker 33 = .ok (.return_, 1) := by decide +kernel
theorem dX1_append_0 : decode cX1_append 0 = .ok (.aload_n 0, 1) := by decide +kernel
theorem dX1_append_1 : decode cX1_append 1 = .ok (.getfield 9, 3) := by decide +kernel
theorem dX1_append_4 : decode cX1_append 4 = .ok (.bipush 48, 2) := by decide +kernel
theorem dX1_append_6 : decode cX1_append 6 = .ok (.if_icmp .lt 5, 3) := by decide +kernel
theorem dX1_append_9 : decode cX1_append 9 = .ok (.iconst (-1), 1) := by decide +kernel
theorem dX1_append_10 : decode cX1_append 10 = .ok (.ireturn, 1) := by decide +kernel
theorem dX1_append_11 : decode cX1_append 11 = .ok (.aload_n 0, 1) := by decide +kernel
theorem dX1_append_12 : decode cX1_append 12 = .ok (.getfield 9, 3) := by decide +kernel
theorem dX1_append_15 : decode cX1_append 15 = .ok (.istore 6, 2) := by decide +kernel
theorem dX1_append_17 : decode cX1_append 17 = .ok (.aload_n 0, 1) := by decide +kernel
theorem dX1_append_18 : decode cX1_append 18 = .ok (.getfield 15, 3) := by decide +kernel
theorem dX1_append_21 : decode cX1_append 21 = .ok (.iload 6, 2) := by decide +kernel
theorem dX1_append_23 : decode cX1_append 23 = .ok (.iload_n 1, 1) := by decide +kernel
theorem dX1_append_24 : decode cX1_append 24 = .ok (.iastore, 1) := by decide +kernel
theorem dX1_append_25 : decode cX1_append 25 = .ok (.aload_n 0, 1) := by decide +kernel
theorem dX1_append_26 : decode cX1_append 26 = .ok (.getfield 19, 3) := by decide +kernel
theorem dX1_append_29 : decode cX1_append 29 = .ok (.iload 6, 2) := by decide +kernel
theorem dX1_append_31 : decode cX1_append 31 = .ok (.iload_n 2, 1) := by decide +kernel
theorem dX1_append_32 : decode cX1_append 32 = .ok (.iastore, 1) := by decide +kernel
theorem dX1_append_33 : decode cX1_append 33 = .ok (.aload_n 0, 1) := by decide +kernel
theorem dX1_append_34 : decode cX1_append 34 = .ok (.getfield 22, 3) := by decide +kernel
theorem dX1_append_37 : decode cX1_append 37 = .ok (.iload 6, 2) := by decide +kernel
theorem dX1_append_39 : decode cX1_append 39 = .ok (.iload_n 3, 1) := by decide +kernel
theorem dX1_append_40 : decode cX1_append 40 = .ok (.iastore, 1) := by decide +kernel
theorem dX1_append_41 : decode cX1_append 41 = .ok (.aload_n 0, 1) := by decide +kernel
theorem dX1_append_42 : decode cX1_append 42 = .ok (.getfield 25, 3) := by decide +kernel
theorem dX1_append_45 : decode cX1_append 45 = .ok (.iload 6, 2) := by decide +kernel
theorem dX1_append_47 : decode cX1_append 47 = .ok (.iload 4, 2) := by decide +kernel
theorem dX1_append_49 : decode cX1_append 49 = .ok (.iastore, 1) := by decide +kernel
theorem dX1_append_50 : decode cX1_append 50 = .ok (.aload_n 0, 1) := by decide +kernel
theorem dX1_append_51 : decode cX1_append 51 = .ok (.getfield 28, 3) := by decide +kernel
theorem dX1_append_54 : decode cX1_append 54 = .ok (.iload 6, 2) := by decide +kernel
theorem dX1_append_56 : decode cX1_append 56 = .ok (.iload 5, 2) := by decide +kernel
theorem dX1_append_58 : decode cX1_append 58 = .ok (.iastore, 1) := by decide +kernel
theorem dX1_append_59 : decode cX1_append 59 = .ok (.aload_n 0, 1) := by decide +kernel
theorem dX1_append_60 : decode cX1_append 60 = .ok (.getfield 31, 3) := by decide +kernel
theorem dX1_append_63 : decode cX1_append 63 = .ok (.iload 6, 2) := by decide +kernel
theorem dX1_append_65 : decode cX1_append 65 = .ok (.iconst (-1), 1) := by decide +kernel
theorem dX1_append_66 : decode cX1_append 66 = .ok (.iastore, 1) := by decide +kernel
theorem dX1_append_67 : decode cX1_append 67 = .ok (.aload_n 0, 1) := by decide +kernel
theorem dX1_append_68 : decode cX1_append 68 = .ok (.dup, 1) := by decide +kernel
theorem dX1_append_69 : decode cX1_append 69 = .ok (.getfield 9, 3) := by decide +kernel
theorem dX1_append_72 : decode cX1_append 72 = .ok (.iconst 1, 1) := by decide +kernel
theorem dX1_append_73 : decode cX1_append 73 = .ok (.iadd, 1) := by decide +kernel
theorem dX1_append_74 : decode cX1_append 74 = .ok (.putfield 9, 3) := by decide +kernel
theorem dX1_append_77 : decode cX1_append 77 = .ok (.iload 6, 2) := by decide +kernel
theorem dX1_append_79 : decode cX1_append 79 = .ok (.ireturn, 1) := by decide +kernel
theorem dX1_cut_0 : decode cX1_cut 0 = .ok (.aload_n 0, 1) := by decide +kernel
theorem dX1_cut_1 : decode cX1_cut 1 = .ok (.iload_n 1, 1) := by decide +kernel
theorem dX1_cut_2 : decode cX1_cut 2 = .ok (.putfield 9, 3) := by decide +kernel
theorem dX1_cut_5 : decode cX1_cut 5 = .ok (.iconst 0, 1) := by decide +kernel
theorem dX1_cut_6 : decode cX1_cut 6 = .ok (.istore_n 2, 1) := by decide +kernel
theorem dX1_cut_7 : decode cX1_cut 7 = .ok (.iload_n 2, 1) := by decide +kernel
theorem dX1_cut_8 : decode cX1_cut 8 = .ok (.aload_n 0, 1) := by decide +kernel
theorem dX1_cut_9 : decode cX1_cut 9 = .ok (.getfield 9, 3) := by decide +kernel
theorem dX1_cut_12 : decode cX1_cut 12 = .ok (.if_icmp .ge 29, 3) := by decide +kernel
theorem dX1_cut_15 : decode cX1_cut 15 = .ok (.aload_n 0, 1) := by decide +kernel
theorem dX1_cut_16 : decode cX1_cut 16 = .ok (.getfield 31, 3) := by decide +kernel
theorem dX1_cut_19 : decode cX1_cut 19 = .ok (.iload_n 2, 1) := by decide +kernel
theorem dX1_cut_20 : decode cX1_cut 20 = .ok (.iaload, 1) := by decide +kernel
theorem dX1_cut_21 : decode cX1_cut 21 = .ok (.aload_n 0, 1) := by decide +kernel
theorem dX1_cut_22 : decode cX1_cut 22 = .ok (.getfield 9, 3) := by decide +kernel
theorem dX1_cut_25 : decode cX1_cut 25 = .ok (.if_icmp .lt 10, 3) := by decide +kernel
theorem dX1_cut_28 : decode cX1_cut 28 = .ok (.aload_n 0, 1) := by decide +kernel
theorem dX1_cut_29 : decode cX1_cut 29 = .ok (.getfield 31, 3) := by decide +kernel
theorem dX1_cut_32 : decode cX1_cut 32 = .ok (.iload_n 2, 1) := by decide +kernel
theorem dX1_cut_33 : decode cX1_cut 33 = .ok (.iconst (-1), 1) := by decide +kernel
theorem dX1_cut_34 : decode cX1_cut 34 = .ok (.iastore, 1) := by decide +kernel
theorem dX1_cut_35 : decode cX1_cut 35 = .ok (.iinc 2 1, 3) := by decide +kernel
theorem dX1_cut_38 : decode cX1_cut 38 = .ok (.goto (-31), 3) := by decide +kernel
theorem dX1_cut_41 : decode cX1_cut 41 = .ok (.return_, 1) := by decide +kernel
theorem dX1_isMarker_0 : decode cX1_isMarker 0 = .ok (.aload_n 0, 1) := by decide +kernel
theorem dX1_isMarker_1 : decode cX1_isMarker 1 = .ok (.getfield 22, 3) := by decide +kernel
theorem dX1_isMarker_4 : decode cX1_isMarker 4 = .ok (.iload_n 1, 1) := by decide +kernel
theorem dX1_isMarker_5 : decode cX1_isMarker 5 = .ok (.iaload, 1) := by decide +kernel
theorem dX1_isMarker_6 : decode cX1_isMarker 6 = .ok (.iconst (-1), 1) := by decide +kernel
theorem dX1_isMarker_7 : decode cX1_isMarker 7 = .ok (.if_icmp .ne 7, 3) := by decide +kernel
theorem dX1_isMarker_10 : decode cX1_isMarker 10 = .ok (.iconst 1, 1) := by decide +kernel
theorem dX1_isMarker_11 : decode cX1_isMarker 11 = .ok (.goto 4, 3) := by decide +kernel
theorem dX1_isMarker_14 : decode cX1_isMarker 14 = .ok (.iconst 0, 1) := by decide +kernel
theorem dX1_isMarker_15 : decode cX1_isMarker 15 = .ok (.ireturn, 1) := by decide +kernel
theorem dX1_lastBefore_0 : decode cX1_lastBefore 0 = .ok (.iload_n 1, 1) := by decide +kernel
theorem dX1_lastBefore_1 : decode cX1_lastBefore 1 = .ok (.iconst 1, 1) := by decide +kernel
theorem dX1_lastBefore_2 : decode cX1_lastBefore 2 = .ok (.isub, 1) := by decide +kernel
theorem dX1_lastBefore_3 : decode cX1_lastBefore 3 = .ok (.istore 4, 2) := by decide +kernel
theorem dX1_lastBefore_5 : decode cX1_lastBefore 5 = .ok (.iload 4, 2) := by decide +kernel
theorem dX1_lastBefore_7 : decode cX1_lastBefore 7 = .ok (.ifCond .lt 43, 3) := by decide +kernel
theorem dX1_lastBefore_10 : decode cX1_lastBefore 10 = .ok (.aload_n 0, 1) := by decide +kernel
theorem dX1_lastBefore_11 : decode cX1_lastBefore 11 = .ok (.getfield 15, 3) := by decide +kernel
theorem dX1_lastBefore_14 : decode cX1_lastBefore 14 = .ok (.iload 4, 2) := by decide +kernel
theorem dX1_lastBefore_16 : decode cX1_lastBefore 16 = .ok (.iaload, 1) := by decide +kernel
theorem dX1_lastBefore_17 : decode cX1_lastBefore 17 = .ok (.iload_n 2, 1) := by decide +kernel
theorem dX1_lastBefore_18 : decode cX1_lastBefore 18 = .ok (.if_icmp .ne 26, 3) := by decide +kernel
theorem dX1_lastBefore_21 : decode cX1_lastBefore 21 = .ok (.aload_n 0, 1) := by decide +kernel
theorem dX1_lastBefore_22 : decode cX1_lastBefore 22 = .ok (.getfield 19, 3) := by decide +kernel
theorem dX1_lastBefore_25 : decode cX1_lastBefore 25 = .ok (.iload 4, 2) := by decide +kernel
theorem dX1_lastBefore_27 : decode cX1_lastBefore 27 = .ok (.iaload, 1) := by decide +kernel
theorem dX1_lastBefore_28 : decode cX1_lastBefore 28 = .ok (.iload_n 3, 1) := by decide +kernel
theorem dX1_lastBefore_29 : decode cX1_lastBefore 29 = .ok (.if_icmp .ne 15, 3) := by decide +kernel
theorem dX1_lastBefore_32 : decode cX1_lastBefore 32 = .ok (.aload_n 0, 1) := by decide +kernel
theorem dX1_lastBefore_33 : decode cX1_lastBefore 33 = .ok (.iload 4, 2) := by decide +kernel
theorem dX1_lastBefore_35 : decode cX1_lastBefore 35 = .ok (.invokevirtual 38, 3) := by decide +kernel
theorem dX1_lastBefore_38 : decode cX1_lastBefore 38 = .ok (.ifCond .ne 6, 3) := by decide +kernel
theorem dX1_lastBefore_41 : decode cX1_lastBefore 41 = .ok (.iload 4, 2) := by decide +kernel
theorem dX1_lastBefore_43 : decode cX1_lastBefore 43 = .ok (.ireturn, 1) := by decide +kernel
theorem dX1_lastBefore_44 : decode cX1_lastBefore 44 = .ok (.iinc 4 (-1), 3) := by decide +kernel
theorem dX1_lastBefore_47 : decode cX1_lastBefore 47 = .ok (.goto (-42), 3) := by decide +kernel
theorem dX1_lastBefore_50 : decode cX1_lastBefore 50 = .ok (.iconst (-1), 1) := by decide +kernel
theorem dX1_lastBefore_51 : decode cX1_lastBefore 51 = .ok (.ireturn, 1) := by decide +kernel
theorem dX1_twinOf_0 : decode cX1_twinOf 0 = .ok (.aload_n 0, 1) := by decide +kernel
theorem dX1_twinOf_1 : decode cX1_twinOf 1 = .ok (.getfield 9, 3) := by decide +kernel
theorem dX1_twinOf_4 : decode cX1_twinOf 4 = .ok (.istore 4, 2) := by decide +kernel
theorem dX1_twinOf_6 : decode cX1_twinOf 6 = .ok (.iconst 0, 1) := by decide +kernel
theorem dX1_twinOf_7 : decode cX1_twinOf 7 = .ok (.istore 5, 2) := by decide +kernel
theorem dX1_twinOf_9 : decode cX1_twinOf 9 = .ok (.iload 5, 2) := by decide +kernel
theorem dX1_twinOf_11 : decode cX1_twinOf 11 = .ok (.iconst 3, 1) := by decide +kernel
theorem dX1_twinOf_12 : decode cX1_twinOf 12 = .ok (.if_icmp .ge 39, 3) := by decide +kernel
theorem dX1_twinOf_15 : decode cX1_twinOf 15 = .ok (.aload_n 0, 1) := by decide +kernel
theorem dX1_twinOf_16 : decode cX1_twinOf 16 = .ok (.iload 4, 2) := by decide +kernel
theorem dX1_twinOf_18 : decode cX1_twinOf 18 = .ok (.iload_n 1, 1) := by decide +kernel
theorem dX1_twinOf_19 : decode cX1_twinOf 19 = .ok (.iload_n 2, 1) := by decide +kernel
theorem dX1_twinOf_20 : decode cX1_twinOf 20 = .ok (.invokevirtual 42, 3) := by decide +kernel
theorem dX1_twinOf_23 : decode cX1_twinOf 23 = .ok (.istore 4, 2) := by decide +kernel
theorem dX1_twinOf_25 : decode cX1_twinOf 25 = .ok (.iload 4, 2) := by decide +kernel
theorem dX1_twinOf_27 : decode cX1_twinOf 27 = .ok (.iconst (-1), 1) := by decide +kernel
theorem dX1_twinOf_28 : decode cX1_twinOf 28 = .ok (.if_icmp .eq 14, 3) := by decide +kernel
theorem dX1_twinOf_31 : decode cX1_twinOf 31 = .ok (.aload_n 0, 1) := by decide +kernel
theorem dX1_twinOf_32 : decode cX1_twinOf 32 = .ok (.getfield 22, 3) := by decide +kernel
theorem dX1_twinOf_35 : decode cX1_twinOf 35 = .ok (.iload 4, 2) := by decide +kernel
theorem dX1_twinOf_37 : decode cX1_twinOf 37 = .ok (.iaload, 1) := by decide +kernel
theorem dX1_twinOf_38 : decode cX1_twinOf 38 = .ok (.iload_n 3, 1) := by decide +kernel
theorem dX1_twinOf_39 : decode cX1_twinOf 39 = .ok (.if_icmp .ne 6, 3) := by decide +kernel
theorem dX1_twinOf_42 : decode cX1_twinOf 42 = .ok (.iload 4, 2) := by decide +kernel
theorem dX1_twinOf_44 : decode cX1_twinOf 44 = .ok (.ireturn, 1) := by decide +kernel
theorem dX1_twinOf_45 : decode cX1_twinOf 45 = .ok (.iinc 5 1, 3) := by decide +kernel
theorem dX1_twinOf_48 : decode cX1_twinOf 48 = .ok (.goto (-39), 3) := by decide +kernel
theorem dX1_twinOf_51 : decode cX1_twinOf 51 = .ok (.iconst (-1), 1) := by decide +kernel
theorem dX1_twinOf_52 : decode cX1_twinOf 52 = .ok (.ireturn, 1) := by decide +kernel
theorem dX1_numberDue_0 : decode cX1_numberDue 0 = .ok (.aload_n 0, 1) := by decide +kernel
theorem dX1_numberDue_1 : decode cX1_numberDue 1 = .ok (.aload_n 0, 1) := by decide +kernel
theorem dX1_numberDue_2 : decode cX1_numberDue 2 = .ok (.getfield 9, 3) := by decide +kernel
theorem dX1_numberDue_5 : decode cX1_numberDue 5 = .ok (.iload_n 1, 1) := by decide +kernel
theorem dX1_numberDue_6 : decode cX1_numberDue 6 = .ok (.iload_n 2, 1) := by decide +kernel
theorem dX1_numberDue_7 : decode cX1_numberDue 7 = .ok (.invokevirtual 42, 3) := by decide +kernel
theorem dX1_numberDue_10 : decode cX1_numberDue 10 = .ok (.istore_n 3, 1) := by decide +kernel
theorem dX1_numberDue_11 : decode cX1_numberDue 11 = .ok (.iload_n 3, 1) := by decide +kernel
theorem dX1_numberDue_12 : decode cX1_numberDue 12 = .ok (.iconst (-1), 1) := by decide +kernel
theorem dX1_numberDue_13 : decode cX1_numberDue 13 = .ok (.if_icmp .ne 7, 3) := by decide +kernel
theorem dX1_numberDue_16 : decode cX1_numberDue 16 = .ok (.iconst 0, 1) := by decide +kernel
theorem dX1_numberDue_17 : decode cX1_numberDue 17 = .ok (.goto 11, 3) := by decide +kernel
theorem dX1_numberDue_20 : decode cX1_numberDue 20 = .ok (.aload_n 0, 1) := by decide +kernel
theorem dX1_numberDue_21 : decode cX1_numberDue 21 = .ok (.getfield 22, 3) := by decide +kernel
theorem dX1_numberDue_24 : decode cX1_numberDue 24 = .ok (.iload_n 3, 1) := by decide +kernel
theorem dX1_numberDue_25 : decode cX1_numberDue 25 = .ok (.iaload, 1) := by decide +kernel
theorem dX1_numberDue_26 : decode cX1_numberDue 26 = .ok (.iconst 1, 1) := by decide +kernel
theorem dX1_numberDue_27 : decode cX1_numberDue 27 = .ok (.iadd, 1) := by decide +kernel
theorem dX1_numberDue_28 : decode cX1_numberDue 28 = .ok (.ireturn, 1) := by decide +kernel
theorem dX1_fate_0 : decode cX1_fate 0 = .ok (.aload_n 0, 1) := by decide +kernel
theorem dX1_fate_1 : decode cX1_fate 1 = .ok (.iload_n 1, 1) := by decide +kernel
theorem dX1_fate_2 : decode cX1_fate 2 = .ok (.invokevirtual 38, 3) := by decide +kernel
theorem dX1_fate_5 : decode cX1_fate 5 = .ok (.ifCond .eq 5, 3) := by decide +kernel
theorem dX1_fate_8 : decode cX1_fate 8 = .ok (.iconst (-1), 1) := by decide +kernel
theorem dX1_fate_9 : decode cX1_fate 9 = .ok (.ireturn, 1) := by decide +kernel
theorem dX1_fate_10 : decode cX1_fate 10 = .ok (.aload_n 0, 1) := by decide +kernel
theorem dX1_fate_11 : decode cX1_fate 11 = .ok (.getfield 28, 3) := by decide +kernel
theorem dX1_fate_14 : decode cX1_fate 14 = .ok (.iload_n 1, 1) := by decide +kernel
theorem dX1_fate_15 : decode cX1_fate 15 = .ok (.iaload, 1) := by decide +kernel
theorem dX1_fate_16 : decode cX1_fate 16 = .ok (.istore_n 2, 1) := by decide +kernel
theorem dX1_fate_17 : decode cX1_fate 17 = .ok (.iload_n 2, 1) := by decide +kernel
theorem dX1_fate_18 : decode cX1_fate 18 = .ok (.iconst (-1), 1) := by decide +kernel
theorem dX1_fate_19 : decode cX1_fate 19 = .ok (.if_icmp .ne 5, 3) := by decide +kernel
theorem dX1_fate_22 : decode cX1_fate 22 = .ok (.iconst 0, 1) := by decide +kernel
theorem dX1_fate_23 : decode cX1_fate 23 = .ok (.ireturn, 1) := by decide +kernel
theorem dX1_fate_24 : decode cX1_fate 24 = .ok (.aload_n 0, 1) := by decide +kernel
theorem dX1_fate_25 : decode cX1_fate 25 = .ok (.getfield 31, 3) := by decide +kernel
theorem dX1_fate_28 : decode cX1_fate 28 = .ok (.iload_n 2, 1) := by decide +kernel
theorem dX1_fate_29 : decode cX1_fate 29 = .ok (.iaload, 1) := by decide +kernel
theorem dX1_fate_30 : decode cX1_fate 30 = .ok (.istore_n 3, 1) := by decide +kernel
theorem dX1_fate_31 : decode cX1_fate 31 = .ok (.iload_n 3, 1) := by decide +kernel
theorem dX1_fate_32 : decode cX1_fate 32 = .ok (.iconst (-1), 1) := by decide +kernel
theorem dX1_fate_33 : decode cX1_fate 33 = .ok (.if_icmp .ne 5, 3) := by decide +kernel
theorem dX1_fate_36 : decode cX1_fate 36 = .ok (.iconst 1, 1) := by decide +kernel
theorem dX1_fate_37 : decode cX1_fate 37 = .ok (.ireturn, 1) := by decide +kernel
theorem dX1_fate_38 : decode cX1_fate 38 = .ok (.aload_n 0, 1) := by decide +kernel
theorem dX1_fate_39 : decode cX1_fate 39 = .ok (.getfield 25, 3) := by decide +kernel
theorem dX1_fate_42 : decode cX1_fate 42 = .ok (.iload_n 3, 1) := by decide +kernel
theorem dX1_fate_43 : decode cX1_fate 43 = .ok (.iaload, 1) := by decide +kernel
theorem dX1_fate_44 : decode cX1_fate 44 = .ok (.iconst 1, 1) := by decide +kernel
theorem dX1_fate_45 : decode cX1_fate 45 = .ok (.if_icmp .ne 7, 3) := by decide +kernel
theorem dX1_fate_48 : decode cX1_fate 48 = .ok (.iconst 2, 1) := by decide +kernel
theorem dX1_fate_49 : decode cX1_fate 49 = .ok (.goto 4, 3) := by decide +kernel
theorem dX1_fate_52 : decode cX1_fate 52 = .ok (.iconst 3, 1) := by decide +kernel
theorem dX1_fate_53 : decode cX1_fate 53 = .ok (.ireturn, 1) := by decide +kernel
theorem dX1_isVisible_0 : decode cX1_isVisible 0 = .ok (.aload_n 0, 1) := by decide +kernel
theorem dX1_isVisible_1 : decode cX1_isVisible 1 = .ok (.iload_n 1, 1) := by decide +kernel
theorem dX1_isVisible_2 : decode cX1_isVisible 2 = .ok (.invokevirtual 46, 3) := by decide +kernel
theorem dX1_isVisible_5 : decode cX1_isVisible 5 = .ok (.istore_n 3, 1) := by decide +kernel
theorem dX1_isVisible_6 : decode cX1_isVisible 6 = .ok (.iload_n 1, 1) := by decide +kernel
theorem dX1_isVisible_7 : decode cX1_isVisible 7 = .ok (.iload_n 2, 1) := by decide +kernel
theorem dX1_isVisible_8 : decode cX1_isVisible 8 = .ok (.if_icmp .ge 16, 3) := by decide +kernel
theorem dX1_isVisible_11 : decode cX1_isVisible 11 = .ok (.iload_n 3, 1) := by decide +kernel
theorem dX1_isVisible_12 : decode cX1_isVisible 12 = .ok (.ifCond .eq 8, 3) := by decide +kernel
theorem dX1_isVisible_15 : decode cX1_isVisible 15 = .ok (.iload_n 3, 1) := by decide +kernel
theorem dX1_isVisible_16 : decode cX1_isVisible 16 = .ok (.iconst 2, 1) := by decide +kernel
theorem dX1_isVisible_17 : decode cX1_isVisible 17 = .ok (.if_icmp .ne 7, 3) := by decide +kernel
theorem dX1_isVisible_20 : decode cX1_isVisible 20 = .ok (.iconst 1, 1) := by decide +kernel
theorem dX1_isVisible_21 : decode cX1_isVisible 21 = .ok (.goto 4, 3) := by decide +kernel
theorem dX1_isVisible_24 : decode cX1_isVisible 24 = .ok (.iconst 0, 1) := by decide +kernel
theorem dX1_isVisible_25 : decode cX1_isVisible 25 = .ok (.ireturn, 1) := by decide +kernel
theorem dX1_visibleFrom_0 : decode cX1_visibleFrom 0 = .ok (.iconst 0, 1) := by decide +kernel
theorem dX1_visibleFrom_1 : decode cX1_visibleFrom 1 = .ok (.istore_n 3, 1) := by decide +kernel
theorem dX1_visibleFrom_2 : decode cX1_visibleFrom 2 = .ok (.iload_n 1, 1) := by decide +kernel
theorem dX1_visibleFrom_3 : decode cX1_visibleFrom 3 = .ok (.istore 4, 2) := by decide +kernel
theorem dX1_visibleFrom_5 : decode cX1_visibleFrom 5 = .ok (.iload 4, 2) := by decide +kernel
theorem dX1_visibleFrom_7 : decode cX1_visibleFrom 7 = .ok (.aload_n 0, 1) := by decide +kernel
theorem dX1_visibleFrom_8 : decode cX1_visibleFrom 8 = .ok (.getfield 9, 3) := by decide +kernel
theorem dX1_visibleFrom_11 : decode cX1_visibleFrom 11 = .ok (.if_icmp .ge 22, 3) := by decide +kernel
theorem dX1_visibleFrom_14 : decode cX1_visibleFrom 14 = .ok (.aload_n 0, 1) := by decide +kernel
theorem dX1_visibleFrom_15 : decode cX1_visibleFrom 15 = .ok (.iload 4, 2) := by decide +kernel
theorem dX1_visibleFrom_17 : decode cX1_visibleFrom 17 = .ok (.iload_n 2, 1) := by decide +kernel
theorem dX1_visibleFrom_18 : decode cX1_visibleFrom 18 = .ok (.invokevirtual 50, 3) := by decide +kernel
theorem dX1_visibleFrom_21 : decode cX1_visibleFrom 21 = .ok (.ifCond .eq 6, 3) := by decide +kernel
theorem dX1_visibleFrom_24 : decode cX1_visibleFrom 24 = .ok (.iinc 3 1, 3) := by decide +kernel
theorem dX1_visibleFrom_27 : decode cX1_visibleFrom 27 = .ok (.iinc 4 1, 3) := by decide +kernel
theorem dX1_visibleFrom_30 : decode cX1_visibleFrom 30 = .ok (.goto (-25), 3) := by decide +kernel
theorem dX1_visibleFrom_33 : decode cX1_visibleFrom 33 = .ok (.iload_n 3, 1) := by decide +kernel
theorem dX1_visibleFrom_34 : decode cX1_visibleFrom 34 = .ok (.ireturn, 1) := by decide +kernel
theorem dX1_nextVisible_0 : decode cX1_nextVisible 0 = .ok (.iload_n 1, 1) := by decide +kernel
theorem dX1_nextVisible_1 : decode cX1_nextVisible 1 = .ok (.istore_n 3, 1) := by decide +kernel
theorem dX1_nextVisible_2 : decode cX1_nextVisible 2 = .ok (.iload_n 3, 1) := by decide +kernel
theorem dX1_nextVisible_3 : decode cX1_nextVisible 3 = .ok (.aload_n 0, 1) := by decide +kernel
theorem dX1_nextVisible_4 : decode cX1_nextVisible 4 = .ok (.getfield 9, 3) := by decide +kernel
theorem dX1_nextVisible_7 : decode cX1_nextVisible 7 = .ok (.if_icmp .ge 20, 3) := by decide +kernel
theorem dX1_nextVisible_10 : decode cX1_nextVisible 10 = .ok (.aload_n 0, 1) := by decide +kernel
theorem dX1_nextVisible_11 : decode cX1_nextVisible 11 = .ok (.iload_n 3, 1) := by decide +kernel
theorem dX1_nextVisible_12 : decode cX1_nextVisible 12 = .ok (.iload_n 2, 1) := by decide +kernel
theorem dX1_nextVisible_13 : decode cX1_nextVisible 13 = .ok (.invokevirtual 50, 3) := by decide +kernel
theorem dX1_nextVisible_16 : decode cX1_nextVisible 16 = .ok (.ifCond .eq 5, 3) := by decide +kernel
theorem dX1_nextVisible_19 : decode cX1_nextVisible 19 = .ok (.iload_n 3, 1) := by decide +kernel
theorem dX1_nextVisible_20 : decode cX1_nextVisible 20 = .ok (.ireturn, 1) := by decide +kernel
theorem dX1_nextVisible_21 : decode cX1_nextVisible 21 = .ok (.iinc 3 1, 3) := by decide +kernel
theorem dX1_nextVisible_24 : decode cX1_nextVisible 24 = .ok (.goto (-22), 3) := by decide +kernel
theorem dX1_nextVisible_27 : decode cX1_nextVisible 27 = .ok (.iconst (-1), 1) := by decide +kernel
theorem dX1_nextVisible_28 : decode cX1_nextVisible 28 = .ok (.ireturn, 1) := by decide +kernel
theorem dX1_markers_0 : decode cX1_markers 0 = .ok (.iconst 0, 1) := by decide +kernel
theorem dX1_markers_1 : decode cX1_markers 1 = .ok (.istore_n 1, 1) := by decide +kernel
theorem dX1_markers_2 : decode cX1_markers 2 = .ok (.iconst 0, 1) := by decide +kernel
theorem dX1_markers_3 : decode cX1_markers 3 = .ok (.istore_n 2, 1) := by decide +kernel
theorem dX1_markers_4 : decode cX1_markers 4 = .ok (.iload_n 2, 1) := by decide +kernel
theorem dX1_markers_5 : decode cX1_markers 5 = .ok (.aload_n 0, 1) := by decide +kernel
theorem dX1_markers_6 : decode cX1_markers 6 = .ok (.getfield 9, 3) := by decide +kernel
theorem dX1_markers_9 : decode cX1_markers 9 = .ok (.if_icmp .ge 20, 3) := by decide +kernel
theorem dX1_markers_12 : decode cX1_markers 12 = .ok (.aload_n 0, 1) := by decide +kernel
theorem dX1_markers_13 : decode cX1_markers 13 = .ok (.iload_n 2, 1) := by decide +kernel
theorem dX1_markers_14 : decode cX1_markers 14 = .ok (.invokevirtual 38, 3) := by decide +kernel
theorem dX1_markers_17 : decode cX1_markers 17 = .ok (.ifCond .eq 6, 3) := by decide +kernel
theorem dX1_markers_20 : decode cX1_markers 20 = .ok (.iinc 1 1, 3) := by decide +kernel
theorem dX1_markers_23 : decode cX1_markers 23 = .ok (.iinc 2 1, 3) := by decide +kernel
theorem dX1_markers_26 : decode cX1_markers 26 = .ok (.goto (-22), 3) := by decide +kernel
theorem dX1_markers_29 : decode cX1_markers 29 = .ok (.iload_n 1, 1) := by decide +kernel
theorem dX1_markers_30 : decode cX1_markers 30 = .ok (.ireturn, 1) := by decide +kernel
theorem dX1_startsAborted_0 : decode cX1_startsAborted 0 = .ok (.aload_n 0, 1) := by decide +kernel
theorem dX1_startsAborted_1 : decode cX1_startsAborted 1 = .ok (.getfield 28, 3) := by decide +kernel
theorem dX1_startsAborted_4 : decode cX1_startsAborted 4 = .ok (.iload_n 1, 1) := by decide +kernel
theorem dX1_startsAborted_5 : decode cX1_startsAborted 5 = .ok (.iaload, 1) := by decide +kernel
theorem dX1_startsAborted_6 : decode cX1_startsAborted 6 = .ok (.iload_n 1, 1) := by decide +kernel
theorem dX1_startsAborted_7 : decode cX1_startsAborted 7 = .ok (.if_icmp .ne 16, 3) := by decide +kernel
theorem dX1_startsAborted_10 : decode cX1_startsAborted 10 = .ok (.aload_n 0, 1) := by decide +kernel
theorem dX1_startsAborted_11 : decode cX1_startsAborted 11 = .ok (.iload_n 1, 1) := by decide +kernel
theorem dX1_startsAborted_12 : decode cX1_startsAborted 12 = .ok (.invokevirtual 46, 3) := by decide +kernel
theorem dX1_startsAborted_15 : decode cX1_startsAborted 15 = .ok (.iconst 3, 1) := by decide +kernel
theorem dX1_startsAborted_16 : decode cX1_startsAborted 16 = .ok (.if_icmp .ne 7, 3) := by decide +kernel
theorem dX1_startsAborted_19 : decode cX1_startsAborted 19 = .ok (.iconst 1, 1) := by decide +kernel
theorem dX1_startsAborted_20 : decode cX1_startsAborted 20 = .ok (.goto 4, 3) := by decide +kernel
theorem dX1_startsAborted_23 : decode cX1_startsAborted 23 = .ok (.iconst 0, 1) := by decide +kernel
theorem dX1_startsAborted_24 : decode cX1_startsAborted 24 = .ok (.ireturn, 1) := by decide +kernel
theorem dX1_abortedDeeds_0 : decode cX1_abortedDeeds 0 = .ok (.iconst 0, 1) := by decide +kernel
theorem dX1_abortedDeeds_1 : decode cX1_abortedDeeds 1 = .ok (.istore_n 1, 1) := by decide +kernel
theorem dX1_abortedDeeds_2 : decode cX1_abortedDeeds 2 = .ok (.iconst 0, 1) := by decide +kernel
theorem dX1_abortedDeeds_3 : decode cX1_abortedDeeds 3 = .ok (.istore_n 2, 1) := by decide +kernel
theorem dX1_abortedDeeds_4 : decode cX1_abortedDeeds 4 = .ok (.iload_n 2, 1) := by decide +kernel
theorem dX1_abortedDeeds_5 : decode cX1_abortedDeeds 5 = .ok (.aload_n 0, 1) := by decide +kernel
theorem dX1_abortedDeeds_6 : decode cX1_abortedDeeds 6 = .ok (.getfield 9, 3) := by decide +kernel
theorem dX1_abortedDeeds_9 : decode cX1_abortedDeeds 9 = .ok (.if_icmp .ge 20, 3) := by decide +kernel
theorem dX1_abortedDeeds_12 : decode cX1_abortedDeeds 12 = .ok (.aload_n 0, 1) := by decide +kernel
theorem dX1_abortedDeeds_13 : decode cX1_abortedDeeds 13 = .ok (.iload_n 2, 1) := by decide +kernel
theorem dX1_abortedDeeds_14 : decode cX1_abortedDeeds 14 = .ok (.invokevirtual 54, 3) := by decide +kernel
theorem dX1_abortedDeeds_17 : decode cX1_abortedDeeds 17 = .ok (.ifCond .eq 6, 3) := by decide +kernel
theorem dX1_abortedDeeds_20 : decode cX1_abortedDeeds 20 = .ok (.iinc 1 1, 3) := by decide +kernel
theorem dX1_abortedDeeds_23 : decode cX1_abortedDeeds 23 = .ok (.iinc 2 1, 3) := by decide +kernel
theorem dX1_abortedDeeds_26 : decode cX1_abortedDeeds 26 = .ok (.goto (-22), 3) := by decide +kernel
theorem dX1_abortedDeeds_29 : decode cX1_abortedDeeds 29 = .ok (.iload_n 1, 1) := by decide +kernel
theorem dX1_abortedDeeds_30 : decode cX1_abortedDeeds 30 = .ok (.ireturn, 1) := by decide +kernel
theorem dX1_abortedFirst_0 : decode cX1_abortedFirst 0 = .ok (.iconst 0, 1) := by decide +kernel
theorem dX1_abortedFirst_1 : decode cX1_abortedFirst 1 = .ok (.istore_n 2, 1) := by decide +kernel
theorem dX1_abortedFirst_2 : decode cX1_abortedFirst 2 = .ok (.iconst 0, 1) := by decide +kernel
theorem dX1_abortedFirst_3 : decode cX1_abortedFirst 3 = .ok (.istore_n 3, 1) := by decide +kernel
theorem dX1_abortedFirst_4 : decode cX1_abortedFirst 4 = .ok (.iload_n 3, 1) := by decide +kernel
theorem dX1_abortedFirst_5 : decode cX1_abortedFirst 5 = .ok (.aload_n 0, 1) := by decide +kernel
theorem dX1_abortedFirst_6 : decode cX1_abortedFirst 6 = .ok (.getfield 9, 3) := by decide +kernel
theorem dX1_abortedFirst_9 : decode cX1_abortedFirst 9 = .ok (.if_icmp .ge 27, 3) := by decide +kernel
theorem dX1_abortedFirst_12 : decode cX1_abortedFirst 12 = .ok (.aload_n 0, 1) := by decide +kernel
theorem dX1_abortedFirst_13 : decode cX1_abortedFirst 13 = .ok (.iload_n 3, 1) := by decide +kernel
theorem dX1_abortedFirst_14 : decode cX1_abortedFirst 14 = .ok (.invokevirtual 54, 3) := by decide +kernel
theorem dX1_abortedFirst_17 : decode cX1_abortedFirst 17 = .ok (.ifCond .eq 13, 3) := by decide +kernel
theorem dX1_abortedFirst_20 : decode cX1_abortedFirst 20 = .ok (.iload_n 2, 1) := by decide +kernel
theorem dX1_abortedFirst_21 : decode cX1_abortedFirst 21 = .ok (.iload_n 1, 1) := by decide +kernel
theorem dX1_abortedFirst_22 : decode cX1_abortedFirst 22 = .ok (.if_icmp .ne 5, 3) := by decide +kernel
theorem dX1_abortedFirst_25 : decode cX1_abortedFirst 25 = .ok (.iload_n 3, 1) := by decide +kernel
theorem dX1_abortedFirst_26 : decode cX1_abortedFirst 26 = .ok (.ireturn, 1) := by decide +kernel
theorem dX1_abortedFirst_27 : decode cX1_abortedFirst 27 = .ok (.iinc 2 1, 3) := by decide +kernel
theorem dX1_abortedFirst_30 : decode cX1_abortedFirst 30 = .ok (.iinc 3 1, 3) := by decide +kernel
theorem dX1_abortedFirst_33 : decode cX1_abortedFirst 33 = .ok (.goto (-29), 3) := by decide +kernel
theorem dX1_abortedFirst_36 : decode cX1_abortedFirst 36 = .ok (.iconst (-1), 1) := by decide +kernel
theorem dX1_abortedFirst_37 : decode cX1_abortedFirst 37 = .ok (.ireturn, 1) := by decide +kernel
theorem dX2_init_0 : decode cX2_init 0 = .ok (.aload_n 0, 1) := by decide +kernel
theorem dX2_init_1 : decode cX2_init 1 = .ok (.invokespecial 3, 3) := by decide +kernel
theorem dX2_init_4 : decode cX2_init 4 = .ok (.aload_n 0, 1) := by decide +kernel
theorem dX2_init_5 : decode cX2_init 5 = .ok (.iconst (-1), 1) := by decide +kernel
theorem dX2_init_6 : decode cX2_init 6 = .ok (.putfield 9, 3) := by decide +kernel
theorem dX2_init_9 : decode cX2_init 9 = .ok (.aload_n 0, 1) := by decide +kernel
theorem dX2_init_10 : decode cX2_init 10 = .ok (.iconst 0, 1) := by decide +kernel
theorem dX2_init_11 : decode cX2_init 11 = .ok (.putfield 15, 3) := by decide +kernel
theorem dX2_init_14 : decode cX2_init 14 = .ok (.aload_n 0, 1) := by decide +kernel
theorem dX2_init_15 : decode cX2_init 15 = .ok (.iconst 0, 1) := by decide +kernel
theorem dX2_init_16 : decode cX2_init 16 = .ok (.putfield 18, 3) := by decide +kernel
theorem dX2_init_19 : decode cX2_init 19 = .ok (.aload_n 0, 1) := by decide +kernel
theorem dX2_init_20 : decode cX2_init 20 = .ok (.iconst 0, 1) := by decide +kernel
theorem dX2_init_21 : decode cX2_init 21 = .ok (.putfield 21, 3) := by decide +kernel
theorem dX2_init_24 : decode cX2_init 24 = .ok (.aload_n 0, 1) := by decide +kernel
theorem dX2_init_25 : decode cX2_init 25 = .ok (.iconst 3, 1) := by decide +kernel
theorem dX2_init_26 : decode cX2_init 26 = .ok (.newarray .int, 2) := by decide +kernel
theorem dX2_init_28 : decode cX2_init 28 = .ok (.dup, 1) := by decide +kernel
theorem dX2_init_29 : decode cX2_init 29 = .ok (.iconst 0, 1) := by decide +kernel
theorem dX2_init_30 : decode cX2_init 30 = .ok (.iconst (-1), 1) := by decide +kernel
theorem dX2_init_31 : decode cX2_init 31 = .ok (.iastore, 1) := by decide +kernel
theorem dX2_init_32 : decode cX2_init 32 = .ok (.dup, 1) := by decide +kernel
theorem dX2_init_33 : decode cX2_init 33 = .ok (.iconst 1, 1) := by decide +kernel
theorem dX2_init_34 : decode cX2_init 34 = .ok (.iconst (-1), 1) := by decide +kernel
theorem dX2_init_35 : decode cX2_init 35 = .ok (.iastore, 1) := by decide +kernel
theorem dX2_init_36 : decode cX2_init 36 = .ok (.dup, 1) := by decide +kernel
theorem dX2_init_37 : decode cX2_init 37 = .ok (.iconst 2, 1) := by decide +kernel
theorem dX2_init_38 : decode cX2_init 38 = .ok (.iconst (-1), 1) := by decide +kernel
theorem dX2_init_39 : decode cX2_init 39 = .ok (.iastore, 1) := by decide +kernel
theorem dX2_init_40 : decode cX2_init 40 = .ok (.putfield 24, 3) := by decide +kernel
theorem dX2_init_43 : decode cX2_init 43 = .ok (.aload_n 0, 1) := by decide +kernel
theorem dX2_init_44 : decode cX2_init 44 = .ok (.iconst 3, 1) := by decide +kernel
theorem dX2_init_45 : decode cX2_init 45 = .ok (.newarray .int, 2) := by decide +kernel
theorem dX2_init_47 : decode cX2_init 47 = .ok (.dup, 1) := by decide +kernel
theorem dX2_init_48 : decode cX2_init 48 = .ok (.iconst 0, 1) := by decide +kernel
theorem dX2_init_49 : decode cX2_init 49 = .ok (.iconst 0, 1) := by decide +kernel
theorem dX2_init_50 : decode cX2_init 50 = .ok (.iastore, 1) := by decide +kernel
theorem dX2_init_51 : decode cX2_init 51 = .ok (.dup, 1) := by decide +kernel
theorem dX2_init_52 : decode cX2_init 52 = .ok (.iconst 1, 1) := by decide +kernel
theorem dX2_init_53 : decode cX2_init 53 = .ok (.iconst 0, 1) := by decide +kernel
theorem dX2_init_54 : decode cX2_init 54 = .ok (.iastore, 1) := by decide +kernel
theorem dX2_init_55 : decode cX2_init 55 = .ok (.dup, 1) := by decide +kernel
theorem dX2_init_56 : decode cX2_init 56 = .ok (.iconst 2, 1) := by decide +kernel
theorem dX2_init_57 : decode cX2_init 57 = .ok (.iconst 0, 1) := by decide +kernel
theorem dX2_init_58 : decode cX2_init 58 = .ok (.iastore, 1) := by decide +kernel
theorem dX2_init_59 : decode cX2_init 59 = .ok (.putfield 28, 3) := by decide +kernel
theorem dX2_init_62 : decode cX2_init 62 = .ok (.aload_n 0, 1) := by decide +kernel
theorem dX2_init_63 : decode cX2_init 63 = .ok (.bipush 6, 2) := by decide +kernel
theorem dX2_init_65 : decode cX2_init 65 = .ok (.newarray .int, 2) := by decide +kernel
theorem dX2_init_67 : decode cX2_init 67 = .ok (.dup, 1) := by decide +kernel
theorem dX2_init_68 : decode cX2_init 68 = .ok (.iconst 0, 1) := by decide +kernel
theorem dX2_init_69 : decode cX2_init 69 = .ok (.iconst (-1), 1) := by decide +kernel
theorem dX2_init_70 : decode cX2_init 70 = .ok (.iastore, 1) := by decide +kernel
theorem dX2_init_71 : decode cX2_init 71 = .ok (.dup, 1) := by decide +kernel
theorem dX2_init_72 : decode cX2_init 72 = .ok (.iconst 1, 1) := by decide +kernel
theorem dX2_init_73 : decode cX2_init 73 = .ok (.iconst (-1), 1) := by decide +kernel
theorem dX2_init_74 : decode cX2_init 74 = .ok (.iastore, 1) := by decide +kernel
theorem dX2_init_75 : decode cX2_init 75 = .ok (.dup, 1) := by decide +kernel
theorem dX2_init_76 : decode cX2_init 76 = .ok (.iconst 2, 1) := by decide +kernel
theorem dX2_init_77 : decode cX2_init 77 = .ok (.iconst (-1), 1) := by decide +kernel
theorem dX2_init_78 : decode cX2_init 78 = .ok (.iastore, 1) := by decide +kernel
theorem dX2_init_79 : decode cX2_init 79 = .ok (.dup, 1) := by decide +kernel
theorem dX2_init_80 : decode cX2_init 80 = .ok (.iconst 3, 1) := by decide +kernel
theorem dX2_init_81 : decode cX2_init 81 = .ok (.iconst (-1), 1) := by decide +kernel
theorem dX2_init_82 : decode cX2_init 82 = .ok (.iastore, 1) := by decide +kernel
theorem dX2_init_83 : decode cX2_init 83 = .ok (.dup, 1) := by decide +kernel
theorem dX2_init_84 : decode cX2_init 84 = .ok (.iconst 4, 1) := by decide +kernel
theorem dX2_init_85 : decode cX2_init 85 = .ok (.iconst (-1), 1) := by decide +kernel
theorem dX2_init_86 : decode cX2_init 86 = .ok (.iastore, 1) := by decide +kernel
theorem dX2_init_87 : decode cX2_init 87 = .ok (.dup, 1) := by decide +kernel
theorem dX2_init_88 : decode cX2_init 88 = .ok (.iconst 5, 1) := by decide +kernel
theorem dX2_init_89 : decode cX2_init 89 = .ok (.iconst (-1), 1) := by decide +kernel
theorem dX2_init_90 : decode cX2_init 90 = .ok (.iastore, 1) := by decide +kernel
theorem dX2_init_91 : decode cX2_init 91 = .ok (.putfield 31, 3) := by decide +kernel
theorem dX2_init_94 : decode cX2_init 94 = .ok (.return_, 1) := by decide +kernel
theorem dX2_copy_0 : decode cX2_copy 0 = .ok (.aload_n 0, 1) := by decide +kernel
theorem dX2_copy_1 : decode cX2_copy 1 = .ok (.aload_n 1, 1) := by decide +kernel
theorem dX2_copy_2 : decode cX2_copy 2 = .ok (.getfield 9, 3) := by decide +kernel
theorem dX2_copy_5 : decode cX2_copy 5 = .ok (.putfield 9, 3) := by decide +kernel
theorem dX2_copy_8 : decode cX2_copy 8 = .ok (.aload_n 0, 1) := by decide +kernel
theorem dX2_copy_9 : decode cX2_copy 9 = .ok (.aload_n 1, 1) := by decide +kernel
theorem dX2_copy_10 : decode cX2_copy 10 = .ok (.getfield 15, 3) := by decide +kernel
theorem dX2_copy_13 : decode cX2_copy 13 = .ok (.putfield 15, 3) := by decide +kernel
theorem dX2_copy_16 : decode cX2_copy 16 = .ok (.aload_n 0, 1) := by decide +kernel
theorem dX2_copy_17 : decode cX2_copy 17 = .ok (.aload_n 1, 1) := by decide +kernel
theorem dX2_copy_18 : decode cX2_copy 18 = .ok (.getfield 18, 3) := by decide +kernel
theorem dX2_copy_21 : decode cX2_copy 21 = .ok (.putfield 18, 3) := by decide +kernel
theorem dX2_copy_24 : decode cX2_copy 24 = .ok (.aload_n 0, 1) := by decide +kernel
theorem dX2_copy_25 : decode cX2_copy 25 = .ok (.aload_n 1, 1) := by decide +kernel
theorem dX2_copy_26 : decode cX2_copy 26 = .ok (.getfield 21, 3) := by decide +kernel
theorem dX2_copy_29 : decode cX2_copy 29 = .ok (.putfield 21, 3) := by decide +kernel
theorem dX2_copy_32 : decode cX2_copy 32 = .ok (.aload_n 1, 1) := by decide +kernel
theorem dX2_copy_33 : decode cX2_copy 33 = .ok (.getfield 24, 3) := by decide +kernel
theorem dX2_copy_36 : decode cX2_copy 36 = .ok (.iconst 0, 1) := by decide +kernel
theorem dX2_copy_37 : decode cX2_copy 37 = .ok (.aload_n 0, 1) := by decide +kernel
theorem dX2_copy_38 : decode cX2_copy 38 = .ok (.getfield 24, 3) := by decide +kernel
theorem dX2_copy_41 : decode cX2_copy 41 = .ok (.iconst 0, 1) := by decide +kernel
theorem dX2_copy_42 : decode cX2_copy 42 = .ok (.iconst 3, 1) := by decide +kernel
theorem dX2_copy_43 : decode cX2_copy 43 = .ok (.invokestatic 34, 3) := by decide +kernel
theorem dX2_copy_46 : decode cX2_copy 46 = .ok (.aload_n 1, 1) := by decide +kernel
theorem dX2_copy_47 : decode cX2_copy 47 = .ok (.getfield 28, 3) := by decide +kernel
theorem dX2_copy_50 : decode cX2_copy 50 = .ok (.iconst 0, 1) := by decide +kernel
theorem dX2_copy_51 : decode cX2_copy 51 = .ok (.aload_n 0, 1) := by decide +kernel
theorem dX2_copy_52 : decode cX2_copy 52 = .ok (.getfield 28, 3) := by decide +kernel
theorem dX2_copy_55 : decode cX2_copy 55 = .ok (.iconst 0, 1) := by decide +kernel
theorem dX2_copy_56 : decode cX2_copy 56 = .ok (.iconst 3, 1) := by decide +kernel
theorem dX2_copy_57 : decode cX2_copy 57 = .ok (.invokestatic 34, 3) := by decide +kernel
theorem dX2_copy_60 : decode cX2_copy 60 = .ok (.aload_n 1, 1) := by decide +kernel
theorem dX2_copy_61 : decode cX2_copy 61 = .ok (.getfield 31, 3) := by decide +kernel
theorem dX2_copy_64 : decode cX2_copy 64 = .ok (.iconst 0, 1) := by decide +kernel
theorem dX2_copy_65 : decode cX2_copy 65 = .ok (.aload_n 0, 1) := by decide +kernel
theorem dX2_copy_66 : decode cX2_copy 66 = .ok (.getfield 31, 3) := by decide +kernel
theorem dX2_copy_69 : decode cX2_copy 69 = .ok (.iconst 0, 1) := by decide +kernel
theorem dX2_copy_70 : decode cX2_copy 70 = .ok (.bipush 6, 2) := by decide +kernel
theorem dX2_copy_72 : decode cX2_copy 72 = .ok (.invokestatic 34, 3) := by decide +kernel
theorem dX2_copy_75 : decode cX2_copy 75 = .ok (.return_, 1) := by decide +kernel
theorem dX2_partSet_0 : decode cX2_partSet 0 = .ok (.iconst 0, 1) := by decide +kernel
theorem dX2_partSet_1 : decode cX2_partSet 1 = .ok (.istore_n 1, 1) := by decide +kernel
theorem dX2_partSet_2 : decode cX2_partSet 2 = .ok (.iconst 0, 1) := by decide +kernel
theorem dX2_partSet_3 : decode cX2_partSet 3 = .ok (.istore_n 2, 1) := by decide +kernel
theorem dX2_partSet_4 : decode cX2_partSet 4 = .ok (.iload_n 2, 1) := by decide +kernel
theorem dX2_partSet_5 : decode cX2_partSet 5 = .ok (.iconst 3, 1) := by decide +kernel
theorem dX2_partSet_6 : decode cX2_partSet 6 = .ok (.if_icmp .ge 25, 3) := by decide +kernel
theorem dX2_partSet_9 : decode cX2_partSet 9 = .ok (.aload_n 0, 1) := by decide +kernel
theorem dX2_partSet_10 : decode cX2_partSet 10 = .ok (.getfield 24, 3) := by decide +kernel
theorem dX2_partSet_13 : decode cX2_partSet 13 = .ok (.iload_n 2, 1) := by decide +kernel
theorem dX2_partSet_14 : decode cX2_partSet 14 = .ok (.iaload, 1) := by decide +kernel
theorem dX2_partSet_15 : decode cX2_partSet 15 = .ok (.iconst (-1), 1) := by decide +kernel
theorem dX2_partSet_16 : decode cX2_partSet 16 = .ok (.if_icmp .eq 9, 3) := by decide +kernel
theorem dX2_partSet_19 : decode cX2_partSet 19 = .ok (.iload_n 1, 1) := by decide +kernel
theorem dX2_partSet_20 : decode cX2_partSet 20 = .ok (.iconst 1, 1) := by decide +kernel
theorem dX2_partSet_21 : decode cX2_partSet 21 = .ok (.iload_n 2, 1) := by decide +kernel
theorem dX2_partSet_22 : decode cX2_partSet 22 = .ok (.ishl, 1) := by decide +kernel
theorem dX2_partSet_23 : decode cX2_partSet 23 = .ok (.ior, 1) := by decide +kernel
theorem dX2_partSet_24 : decode cX2_partSet 24 = .ok (.istore_n 1, 1) := by decide +kernel
theorem dX2_partSet_25 : decode cX2_partSet 25 = .ok (.iinc 2 1, 3) := by decide +kernel
theorem dX2_partSet_28 : decode cX2_partSet 28 = .ok (.goto (-24), 3) := by decide +kernel
theorem dX2_partSet_31 : decode cX2_partSet 31 = .ok (.iload_n 1, 1) := by decide +kernel
theorem dX2_partSet_32 : decode cX2_partSet 32 = .ok (.ireturn, 1) := by decide +kernel
theorem dX2_holds_0 : decode cX2_holds 0 = .ok (.aload_n 0, 1) := by decide +kernel
theorem dX2_holds_1 : decode cX2_holds 1 = .ok (.getfield 24, 3) := by decide +kernel
theorem dX2_holds_4 : decode cX2_holds 4 = .ok (.iload_n 1, 1) := by decide +kernel
theorem dX2_holds_5 : decode cX2_holds 5 = .ok (.iaload, 1) := by decide +kernel
theorem dX2_holds_6 : decode cX2_holds 6 = .ok (.iconst (-1), 1) := by decide +kernel
theorem dX2_holds_7 : decode cX2_holds 7 = .ok (.if_icmp .eq 24, 3) := by decide +kernel
theorem dX2_holds_10 : decode cX2_holds 10 = .ok (.aload_n 0, 1) := by decide +kernel
theorem dX2_holds_11 : decode cX2_holds 11 = .ok (.getfield 15, 3) := by decide +kernel
theorem dX2_holds_14 : decode cX2_holds 14 = .ok (.iconst 1, 1) := by decide +kernel
theorem dX2_holds_15 : decode cX2_holds 15 = .ok (.if_icmp .eq 12, 3) := by decide +kernel
theorem dX2_holds_18 : decode cX2_holds 18 = .ok (.aload_n 0, 1) := by decide +kernel
theorem dX2_holds_19 : decode cX2_holds 19 = .ok (.getfield 28, 3) := by decide +kernel
theorem dX2_holds_22 : decode cX2_holds 22 = .ok (.iload_n 1, 1) := by decide +kernel
theorem dX2_holds_23 : decode cX2_holds 23 = .ok (.iaload, 1) := by decide +kernel
theorem dX2_holds_24 : decode cX2_holds 24 = .ok (.ifCond .eq 7, 3) := by decide +kernel
theorem dX2_holds_27 : decode cX2_holds 27 = .ok (.iconst 1, 1) := by decide +kernel
theorem dX2_holds_28 : decode cX2_holds 28 = .ok (.goto 4, 3) := by decide +kernel
theorem dX2_holds_31 : decode cX2_holds 31 = .ok (.iconst 0, 1) := by decide +kernel
theorem dX2_holds_32 : decode cX2_holds 32 = .ok (.ireturn, 1) := by decide +kernel
theorem dX2_schedule_0 : decode cX2_schedule 0 = .ok (.iconst 0, 1) := by decide +kernel
theorem dX2_schedule_1 : decode cX2_schedule 1 = .ok (.istore_n 2, 1) := by decide +kernel
theorem dX2_schedule_2 : decode cX2_schedule 2 = .ok (.iconst 0, 1) := by decide +kernel
theorem dX2_schedule_3 : decode cX2_schedule 3 = .ok (.istore_n 3, 1) := by decide +kernel
theorem dX2_schedule_4 : decode cX2_schedule 4 = .ok (.iload_n 3, 1) := by decide +kernel
theorem dX2_schedule_5 : decode cX2_schedule 5 = .ok (.iconst 3, 1) := by decide +kernel
theorem dX2_schedule_6 : decode cX2_schedule 6 = .ok (.if_icmp .ge 31, 3) := by decide +kernel
theorem dX2_schedule_9 : decode cX2_schedule 9 = .ok (.aload_n 0, 1) := by decide +kernel
theorem dX2_schedule_10 : decode cX2_schedule 10 = .ok (.getfield 24, 3) := by decide +kernel
theorem dX2_schedule_13 : decode cX2_schedule 13 = .ok (.iload_n 3, 1) := by decide +kernel
theorem dX2_schedule_14 : decode cX2_schedule 14 = .ok (.iaload, 1) := by decide +kernel
theorem dX2_schedule_15 : decode cX2_schedule 15 = .ok (.iconst (-1), 1) := by decide +kernel
theorem dX2_schedule_16 : decode cX2_schedule 16 = .ok (.if_icmp .eq 15, 3) := by decide +kernel
theorem dX2_schedule_19 : decode cX2_schedule 19 = .ok (.iinc 2 1, 3) := by decide +kernel
theorem dX2_schedule_22 : decode cX2_schedule 22 = .ok (.aload_n 0, 1) := by decide +kernel
theorem dX2_schedule_23 : decode cX2_schedule 23 = .ok (.getfield 28, 3) := by decide +kernel
theorem dX2_schedule_26 : decode cX2_schedule 26 = .ok (.iload_n 3, 1) := by decide +kernel
theorem dX2_schedule_27 : decode cX2_schedule 27 = .ok (.iload_n 1, 1) := by decide +kernel
theorem dX2_schedule_28 : decode cX2_schedule 28 = .ok (.iload_n 2, 1) := by decide +kernel
theorem dX2_schedule_29 : decode cX2_schedule 29 = .ok (.iadd, 1) := by decide +kernel
theorem dX2_schedule_30 : decode cX2_schedule 30 = .ok (.iastore, 1) := by decide +kernel
theorem dX2_schedule_31 : decode cX2_schedule 31 = .ok (.iinc 3 1, 3) := by decide +kernel
theorem dX2_schedule_34 : decode cX2_schedule 34 = .ok (.goto (-30), 3) := by decide +kernel
theorem dX2_schedule_37 : decode cX2_schedule 37 = .ok (.iload_n 2, 1) := by decide +kernel
theorem dX2_schedule_38 : decode cX2_schedule 38 = .ok (.ireturn, 1) := by decide +kernel
theorem dX2_markersDue_0 : decode cX2_markersDue 0 = .ok (.iconst 0, 1) := by decide +kernel
theorem dX2_markersDue_1 : decode cX2_markersDue 1 = .ok (.istore_n 1, 1) := by decide +kernel
theorem dX2_markersDue_2 : decode cX2_markersDue 2 = .ok (.iconst 0, 1) := by decide +kernel
theorem dX2_markersDue_3 : decode cX2_markersDue 3 = .ok (.istore_n 2, 1) := by decide +kernel
theorem dX2_markersDue_4 : decode cX2_markersDue 4 = .ok (.iload_n 2, 1) := by decide +kernel
theorem dX2_markersDue_5 : decode cX2_markersDue 5 = .ok (.iconst 3, 1) := by decide +kernel
theorem dX2_markersDue_6 : decode cX2_markersDue 6 = .ok (.if_icmp .ge 21, 3) := by decide +kernel
theorem dX2_markersDue_9 : decode cX2_markersDue 9 = .ok (.aload_n 0, 1) := by decide +kernel
theorem dX2_markersDue_10 : decode cX2_markersDue 10 = .ok (.getfield 28, 3) := by decide +kernel
theorem dX2_markersDue_13 : decode cX2_markersDue 13 = .ok (.iload_n 2, 1) := by decide +kernel
theorem dX2_markersDue_14 : decode cX2_markersDue 14 = .ok (.iaload, 1) := by decide +kernel
theorem dX2_markersDue_15 : decode cX2_markersDue 15 = .ok (.ifCond .eq 6, 3) := by decide +kernel
theorem dX2_markersDue_18 : decode cX2_markersDue 18 = .ok (.iinc 1 1, 3) := by decide +kernel
theorem dX2_markersDue_21 : decode cX2_markersDue 21 = .ok (.iinc 2 1, 3) := by decide +kernel
theorem dX2_markersDue_24 : decode cX2_markersDue 24 = .ok (.goto (-20), 3) := by decide +kernel
theorem dX2_markersDue_27 : decode cX2_markersDue 27 = .ok (.iload_n 1, 1) := by decide +kernel
theorem dX2_markersDue_28 : decode cX2_markersDue 28 = .ok (.ireturn, 1) := by decide +kernel
theorem dX2_partDueAt_0 : decode cX2_partDueAt 0 = .ok (.iconst 0, 1) := by decide +kernel
theorem dX2_partDueAt_1 : decode cX2_partDueAt 1 = .ok (.istore_n 2, 1) := by decide +kernel
theorem dX2_partDueAt_2 : decode cX2_partDueAt 2 = .ok (.iload_n 2, 1) := by decide +kernel
theorem dX2_partDueAt_3 : decode cX2_partDueAt 3 = .ok (.iconst 3, 1) := by decide +kernel
theorem dX2_partDueAt_4 : decode cX2_partDueAt 4 = .ok (.if_icmp .ge 30, 3) := by decide +kernel
theorem dX2_partDueAt_7 : decode cX2_partDueAt 7 = .ok (.aload_n 0, 1) := by decide +kernel
theorem dX2_partDueAt_8 : decode cX2_partDueAt 8 = .ok (.getfield 28, 3) := by decide +kernel
theorem dX2_partDueAt_11 : decode cX2_partDueAt 11 = .ok (.iload_n 2, 1) := by decide +kernel
theorem dX2_partDueAt_12 : decode cX2_partDueAt 12 = .ok (.iaload, 1) := by decide +kernel
theorem dX2_partDueAt_13 : decode cX2_partDueAt 13 = .ok (.ifCond .eq 15, 3) := by decide +kernel
theorem dX2_partDueAt_16 : decode cX2_partDueAt 16 = .ok (.aload_n 0, 1) := by decide +kernel
theorem dX2_partDueAt_17 : decode cX2_partDueAt 17 = .ok (.getfield 28, 3) := by decide +kernel
theorem dX2_partDueAt_20 : decode cX2_partDueAt 20 = .ok (.iload_n 2, 1) := by decide +kernel
theorem dX2_partDueAt_21 : decode cX2_partDueAt 21 = .ok (.iaload, 1) := by decide +kernel
theorem dX2_partDueAt_22 : decode cX2_partDueAt 22 = .ok (.iload_n 1, 1) := by decide +kernel
theorem dX2_partDueAt_23 : decode cX2_partDueAt 23 = .ok (.if_icmp .ne 5, 3) := by decide +kernel
theorem dX2_partDueAt_26 : decode cX2_partDueAt 26 = .ok (.iload_n 2, 1) := by decide +kernel
theorem dX2_partDueAt_27 : decode cX2_partDueAt 27 = .ok (.ireturn, 1) := by decide +kernel
theorem dX2_partDueAt_28 : decode cX2_partDueAt 28 = .ok (.iinc 2 1, 3) := by decide +kernel
theorem dX2_partDueAt_31 : decode cX2_partDueAt 31 = .ok (.goto (-29), 3) := by decide +kernel
theorem dX2_partDueAt_34 : decode cX2_partDueAt 34 = .ok (.iconst (-1), 1) := by decide +kernel
theorem dX2_partDueAt_35 : decode cX2_partDueAt 35 = .ok (.ireturn, 1) := by decide +kernel
theorem dX2_rest_0 : decode cX2_rest 0 = .ok (.aload_n 0, 1) := by decide +kernel
theorem dX2_rest_1 : decode cX2_rest 1 = .ok (.iconst 0, 1) := by decide +kernel
theorem dX2_rest_2 : decode cX2_rest 2 = .ok (.putfield 15, 3) := by decide +kernel
theorem dX2_rest_5 : decode cX2_rest 5 = .ok (.aload_n 0, 1) := by decide +kernel
theorem dX2_rest_6 : decode cX2_rest 6 = .ok (.iconst 0, 1) := by decide +kernel
theorem dX2_rest_7 : decode cX2_rest 7 = .ok (.putfield 18, 3) := by decide +kernel
theorem dX2_rest_10 : decode cX2_rest 10 = .ok (.iconst 0, 1) := by decide +kernel
theorem dX2_rest_11 : decode cX2_rest 11 = .ok (.istore_n 1, 1) := by decide +kernel
theorem dX2_rest_12 : decode cX2_rest 12 = .ok (.iload_n 1, 1) := by decide +kernel
theorem dX2_rest_13 : decode cX2_rest 13 = .ok (.iconst 3, 1) := by decide +kernel
theorem dX2_rest_14 : decode cX2_rest 14 = .ok (.if_icmp .ge 16, 3) := by decide +kernel
theorem dX2_rest_17 : decode cX2_rest 17 = .ok (.aload_n 0, 1) := by decide +kernel
theorem dX2_rest_18 : decode cX2_rest 18 = .ok (.getfield 24, 3) := by decide +kernel
theorem dX2_rest_21 : decode cX2_rest 21 = .ok (.iload_n 1, 1) := by decide +kernel
theorem dX2_rest_22 : decode cX2_rest 22 = .ok (.iconst (-1), 1) := by decide +kernel
theorem dX2_rest_23 : decode cX2_rest 23 = .ok (.iastore, 1) := by decide +kernel
theorem dX2_rest_24 : decode cX2_rest 24 = .ok (.iinc 1 1, 3) := by decide +kernel
theorem dX2_rest_27 : decode cX2_rest 27 = .ok (.goto (-15), 3) := by decide +kernel
theorem dX2_rest_30 : decode cX2_rest 30 = .ok (.iconst 0, 1) := by decide +kernel
theorem dX2_rest_31 : decode cX2_rest 31 = .ok (.istore_n 1, 1) := by decide +kernel
theorem dX2_rest_32 : decode cX2_rest 32 = .ok (.iload_n 1, 1) := by decide +kernel
theorem dX2_rest_33 : decode cX2_rest 33 = .ok (.bipush 6, 2) := by decide +kernel
theorem dX2_rest_35 : decode cX2_rest 35 = .ok (.if_icmp .ge 16, 3) := by decide +kernel
theorem dX2_rest_38 : decode cX2_rest 38 = .ok (.aload_n 0, 1) := by decide +kernel
theorem dX2_rest_39 : decode cX2_rest 39 = .ok (.getfield 31, 3) := by decide +kernel
theorem dX2_rest_42 : decode cX2_rest 42 = .ok (.iload_n 1, 1) := by decide +kernel
theorem dX2_rest_43 : decode cX2_rest 43 = .ok (.iconst (-1), 1) := by decide +kernel
theorem dX2_rest_44 : decode cX2_rest 44 = .ok (.iastore, 1) := by decide +kernel
theorem dX2_rest_45 : decode cX2_rest 45 = .ok (.iinc 1 1, 3) := by decide +kernel
theorem dX2_rest_48 : decode cX2_rest 48 = .ok (.goto (-16), 3) := by decide +kernel
theorem dX2_rest_51 : decode cX2_rest 51 = .ok (.return_, 1) := by decide +kernel
theorem dX3_init_0 : decode cX3_init 0 = .ok (.aload_n 0, 1) := by decide +kernel
theorem dX3_init_1 : decode cX3_init 1 = .ok (.invokespecial 3, 3) := by decide +kernel
theorem dX3_init_4 : decode cX3_init 4 = .ok (.aload_n 0, 1) := by decide +kernel
theorem dX3_init_5 : decode cX3_init 5 = .ok (.bipush 120, 2) := by decide +kernel
theorem dX3_init_7 : decode cX3_init 7 = .ok (.newarray .int, 2) := by decide +kernel
theorem dX3_init_9 : decode cX3_init 9 = .ok (.putfield 9, 3) := by decide +kernel
theorem dX3_init_12 : decode cX3_init 12 = .ok (.aload_n 0, 1) := by decide +kernel
theorem dX3_init_13 : decode cX3_init 13 = .ok (.iconst 0, 1) := by decide +kernel
theorem dX3_init_14 : decode cX3_init 14 = .ok (.putfield 15, 3) := by decide +kernel
theorem dX3_init_17 : decode cX3_init 17 = .ok (.aload_n 0, 1) := by decide +kernel
theorem dX3_init_18 : decode cX3_init 18 = .ok (.bipush 40, 2) := by decide +kernel
theorem dX3_init_20 : decode cX3_init 20 = .ok (.newarray .int, 2) := by decide +kernel
theorem dX3_init_22 : decode cX3_init 22 = .ok (.putfield 19, 3) := by decide +kernel
theorem dX3_init_25 : decode cX3_init 25 = .ok (.aload_n 0, 1) := by decide +kernel
theorem dX3_init_26 : decode cX3_init 26 = .ok (.sipush 200, 3) := by decide +kernel
theorem dX3_init_29 : decode cX3_init 29 = .ok (.newarray .int, 2) := by decide +kernel
theorem dX3_init_31 : decode cX3_init 31 = .ok (.putfield 22, 3) := by decide +kernel
theorem dX3_init_34 : decode cX3_init 34 = .ok (.aload_n 0, 1) := by decide +kernel
theorem dX3_init_35 : decode cX3_init 35 = .ok (.iconst 0, 1) := by decide +kernel
theorem dX3_init_36 : decode cX3_init 36 = .ok (.putfield 25, 3) := by decide +kernel
theorem dX3_init_39 : decode cX3_init 39 = .ok (.aload_n 0, 1) := by decide +kernel
theorem dX3_init_40 : decode cX3_init 40 = .ok (.iconst 0, 1) := by decide +kernel
theorem dX3_init_41 : decode cX3_init 41 = .ok (.putfield 28, 3) := by decide +kernel
theorem dX3_init_44 : decode cX3_init 44 = .ok (.aload_n 0, 1) := by decide +kernel
theorem dX3_init_45 : decode cX3_init 45 = .ok (.iconst 0, 1) := by decide +kernel
theorem dX3_init_46 : decode cX3_init 46 = .ok (.putfield 32, 3) := by decide +kernel
theorem dX3_init_49 : decode cX3_init 49 = .ok (.aload_n 0, 1) := by decide +kernel
theorem dX3_init_50 : decode cX3_init 50 = .ok (.iconst 0, 1) := by decide +kernel
theorem dX3_init_51 : decode cX3_init 51 = .ok (.putfield 35, 3) := by decide +kernel
theorem dX3_init_54 : decode cX3_init 54 = .ok (.aload_n 0, 1) := by decide +kernel
theorem dX3_init_55 : decode cX3_init 55 = .ok (.iconst 0, 1) := by decide +kernel
theorem dX3_init_56 : decode cX3_init 56 = .ok (.putfield 38, 3) := by decide +kernel
theorem dX3_init_59 : decode cX3_init 59 = .ok (.return_, 1) := by decide +kernel
theorem dX3_findFault_0 : decode cX3_findFault 0 = .ok (.aload_n 0, 1) := by decide +kernel
theorem dX3_findFault_1 : decode cX3_findFault 1 = .ok (.iconst 0, 1) := by decide +kernel
theorem dX3_findFault_2 : decode cX3_findFault 2 = .ok (.putfield 25, 3) := by decide +kernel
theorem dX3_findFault_5 : decode cX3_findFault 5 = .ok (.aload_n 0, 1) := by decide +kernel
theorem dX3_findFault_6 : decode cX3_findFault 6 = .ok (.iconst 0, 1) := by decide +kernel
theorem dX3_findFault_7 : decode cX3_findFault 7 = .ok (.putfield 28, 3) := by decide +kernel
theorem dX3_findFault_10 : decode cX3_findFault 10 = .ok (.iconst 0, 1) := by decide +kernel
theorem dX3_findFault_11 : decode cX3_findFault 11 = .ok (.istore_n 1, 1) := by decide +kernel
theorem dX3_findFault_12 : decode cX3_findFault 12 = .ok (.iload_n 1, 1) := by decide +kernel
theorem dX3_findFault_13 : decode cX3_findFault 13 = .ok (.aload_n 0, 1) := by decide +kernel
theorem dX3_findFault_14 : decode cX3_findFault 14 = .ok (.getfield 15, 3) := by decide +kernel
theorem dX3_findFault_17 : decode cX3_findFault 17 = .ok (.if_icmp .ge 24, 3) := by decide +kernel
theorem dX3_findFault_20 : decode cX3_findFault 20 = .ok (.aload_n 0, 1) := by decide +kernel
theorem dX3_findFault_21 : decode cX3_findFault 21 = .ok (.aload_n 0, 1) := by decide +kernel
theorem dX3_findFault_22 : decode cX3_findFault 22 = .ok (.getfield 9, 3) := by decide +kernel
theorem dX3_findFault_25 : decode cX3_findFault 25 = .ok (.iload_n 1, 1) := by decide +kernel
theorem dX3_findFault_26 : decode cX3_findFault 26 = .ok (.iaload, 1) := by decide +kernel
theorem dX3_findFault_27 : decode cX3_findFault 27 = .ok (.invokevirtual 41, 3) := by decide +kernel
theorem dX3_findFault_30 : decode cX3_findFault 30 = .ok (.ifCond .ne 5, 3) := by decide +kernel
theorem dX3_findFault_33 : decode cX3_findFault 33 = .ok (.iload_n 1, 1) := by decide +kernel
theorem dX3_findFault_34 : decode cX3_findFault 34 = .ok (.ireturn, 1) := by decide +kernel
theorem dX3_findFault_35 : decode cX3_findFault 35 = .ok (.iinc 1 1, 3) := by decide +kernel
theorem dX3_findFault_38 : decode cX3_findFault 38 = .ok (.goto (-26), 3) := by decide +kernel
theorem dX3_findFault_41 : decode cX3_findFault 41 = .ok (.aload_n 0, 1) := by decide +kernel
theorem dX3_findFault_42 : decode cX3_findFault 42 = .ok (.getfield 28, 3) := by decide +kernel
theorem dX3_findFault_45 : decode cX3_findFault 45 = .ok (.ifCond .ne 10, 3) := by decide +kernel
theorem dX3_findFault_48 : decode cX3_findFault 48 = .ok (.aload_n 0, 1) := by decide +kernel
theorem dX3_findFault_49 : decode cX3_findFault 49 = .ok (.getfield 25, 3) := by decide +kernel
theorem dX3_findFault_52 : decode cX3_findFault 52 = .ok (.ifCond .ne 10, 3) := by decide +kernel
theorem dX3_findFault_55 : decode cX3_findFault 55 = .ok (.aload_n 0, 1) := by decide +kernel
theorem dX3_findFault_56 : decode cX3_findFault 56 = .ok (.getfield 15, 3) := by decide +kernel
theorem dX3_findFault_59 : decode cX3_findFault 59 = .ok (.goto 4, 3) := by decide +kernel
theorem dX3_findFault_62 : decode cX3_findFault 62 = .ok (.iconst (-1), 1) := by decide +kernel
theorem dX3_findFault_63 : decode cX3_findFault 63 = .ok (.ireturn, 1) := by decide +kernel
theorem dX3_takes_0 : decode cX3_takes 0 = .ok (.iload_n 1, 1) := by decide +kernel
theorem dX3_takes_1 : decode cX3_takes 1 = .ok (.bipush 32, 2) := by decide +kernel
theorem dX3_takes_3 : decode cX3_takes 3 = .ok (.if_icmp .ne 10, 3) := by decide +kernel
theorem dX3_takes_6 : decode cX3_takes 6 = .ok (.aload_n 0, 1) := by decide +kernel
theorem dX3_takes_7 : decode cX3_takes 7 = .ok (.iconst 0, 1) := by decide +kernel
theorem dX3_takes_8 : decode cX3_takes 8 = .ok (.putfield 38, 3) := by decide +kernel
theorem dX3_takes_11 : decode cX3_takes 11 = .ok (.iconst 1, 1) := by decide +kernel
theorem dX3_takes_12 : decode cX3_takes 12 = .ok (.ireturn, 1) := by decide +kernel
theorem dX3_takes_13 : decode cX3_takes 13 = .ok (.aload_n 0, 1) := by decide +kernel
theorem dX3_takes_14 : decode cX3_takes 14 = .ok (.getfield 28, 3) := by decide +kernel
theorem dX3_takes_17 : decode cX3_takes 17 = .ok (.ifCond .ne 9, 3) := by decide +kernel
theorem dX3_takes_20 : decode cX3_takes 20 = .ok (.aload_n 0, 1) := by decide +kernel
theorem dX3_takes_21 : decode cX3_takes 21 = .ok (.iload_n 1, 1) := by decide +kernel
theorem dX3_takes_22 : decode cX3_takes 22 = .ok (.invokevirtual 45, 3) := by decide +kernel
theorem dX3_takes_25 : decode cX3_takes 25 = .ok (.ireturn, 1) := by decide +kernel
theorem dX3_takes_26 : decode cX3_takes 26 = .ok (.iload_n 1, 1) := by decide +kernel
theorem dX3_takes_27 : decode cX3_takes 27 = .ok (.bipush 59, 2) := by decide +kernel
theorem dX3_takes_29 : decode cX3_takes 29 = .ok (.if_icmp .ne 8, 3) := by decide +kernel
theorem dX3_takes_32 : decode cX3_takes 32 = .ok (.aload_n 0, 1) := by decide +kernel
theorem dX3_takes_33 : decode cX3_takes 33 = .ok (.invokevirtual 48, 3) := by decide +kernel
theorem dX3_takes_36 : decode cX3_takes 36 = .ok (.ireturn, 1) := by decide +kernel
theorem dX3_takes_37 : decode cX3_takes 37 = .ok (.iload_n 1, 1) := by decide +kernel
theorem dX3_takes_38 : decode cX3_takes 38 = .ok (.bipush 48, 2) := by decide +kernel
theorem dX3_takes_40 : decode cX3_takes 40 = .ok (.if_icmp .lt 24, 3) := by decide +kernel
theorem dX3_takes_43 : decode cX3_takes 43 = .ok (.iload_n 1, 1) := by decide +kernel
theorem dX3_takes_44 : decode cX3_takes 44 = .ok (.bipush 57, 2) := by decide +kernel
theorem dX3_takes_46 : decode cX3_takes 46 = .ok (.if_icmp .gt 18, 3) := by decide +kernel
theorem dX3_takes_49 : decode cX3_takes 49 = .ok (.aload_n 0, 1) := by decide +kernel
theorem dX3_takes_50 : decode cX3_takes 50 = .ok (.iload_n 1, 1) := by decide +kernel
theorem dX3_takes_51 : decode cX3_takes 51 = .ok (.bipush 48, 2) := by decide +kernel
theorem dX3_takes_53 : decode cX3_takes 53 = .ok (.isub, 1) := by decide +kernel
theorem dX3_takes_54 : decode cX3_takes 54 = .ok (.invokevirtual 52, 3) := by decide +kernel
theorem dX3_takes_57 : decode cX3_takes 57 = .ok (.ifCond .eq 7, 3) := by decide +kernel
theorem dX3_takes_60 : decode cX3_takes 60 = .ok (.iconst 1, 1) := by decide +kernel
theorem dX3_takes_61 : decode cX3_takes 61 = .ok (.goto 4, 3) := by decide +kernel
theorem dX3_takes_64 : decode cX3_takes 64 = .ok (.iconst 0, 1) := by decide +kernel
theorem dX3_takes_65 : decode cX3_takes 65 = .ok (.ireturn, 1) := by decide +kernel
theorem dX3_takesLetter_0 : decode cX3_takesLetter 0 = .ok (.iload_n 1, 1) := by decide +kernel
theorem dX3_takesLetter_1 : decode cX3_takesLetter 1 = .ok (.invokestatic 55, 3) := by decide +kernel
theorem dX3_takesLetter_4 : decode cX3_takesLetter 4 = .ok (.istore_n 2, 1) := by decide +kernel
theorem dX3_takesLetter_5 : decode cX3_takesLetter 5 = .ok (.iload_n 2, 1) := by decide +kernel
theorem dX3_takesLetter_6 : decode cX3_takesLetter 6 = .ok (.ifCond .eq 12, 3) := by decide +kernel
theorem dX3_takesLetter_9 : decode cX3_takesLetter 9 = .ok (.aload_n 0, 1) := by decide +kernel
theorem dX3_takesLetter_10 : decode cX3_takesLetter 10 = .ok (.getfield 25, 3) := by decide +kernel
theorem dX3_takesLetter_13 : decode cX3_takesLetter 13 = .ok (.bipush 40, 2) := by decide +kernel
theorem dX3_takesLetter_15 : decode cX3_takesLetter 15 = .ok (.if_icmp .lt 5, 3) := by decide +kernel
theorem dX3_takesLetter_18 : decode cX3_takesLetter 18 = .ok (.iconst 0, 1) := by decide +kernel
theorem dX3_takesLetter_19 : decode cX3_takesLetter 19 = .ok (.ireturn, 1) := by decide +kernel
theorem dX3_takesLetter_20 : decode cX3_takesLetter 20 = .ok (.aload_n 0, 1) := by decide +kernel
theorem dX3_takesLetter_21 : decode cX3_takesLetter 21 = .ok (.getfield 19, 3) := by decide +kernel
theorem dX3_takesLetter_24 : decode cX3_takesLetter 24 = .ok (.aload_n 0, 1) := by decide +kernel
theorem dX3_takesLetter_25 : decode cX3_takesLetter 25 = .ok (.getfield 25, 3) := by decide +kernel
theorem dX3_takesLetter_28 : decode cX3_takesLetter 28 = .ok (.iload_n 1, 1) := by decide +kernel
theorem dX3_takesLetter_29 : decode cX3_takesLetter 29 = .ok (.iastore, 1) := by decide +kernel
theorem dX3_takesLetter_30 : decode cX3_takesLetter 30 = .ok (.aload_n 0, 1) := by decide +kernel
theorem dX3_takesLetter_31 : decode cX3_takesLetter 31 = .ok (.iconst 1, 1) := by decide +kernel
theorem dX3_takesLetter_32 : decode cX3_takesLetter 32 = .ok (.putfield 28, 3) := by decide +kernel
theorem dX3_takesLetter_35 : decode cX3_takesLetter 35 = .ok (.aload_n 0, 1) := by decide +kernel
theorem dX3_takesLetter_36 : decode cX3_takesLetter 36 = .ok (.iload_n 2, 1) := by decide +kernel
theorem dX3_takesLetter_37 : decode cX3_takesLetter 37 = .ok (.putfield 32, 3) := by decide +kernel
theorem dX3_takesLetter_40 : decode cX3_takesLetter 40 = .ok (.aload_n 0, 1) := by decide +kernel
theorem dX3_takesLetter_41 : decode cX3_takesLetter 41 = .ok (.iconst 0, 1) := by decide +kernel
theorem dX3_takesLetter_42 : decode cX3_takesLetter 42 = .ok (.putfield 35, 3) := by decide +kernel
theorem dX3_takesLetter_45 : decode cX3_takesLetter 45 = .ok (.aload_n 0, 1) := by decide +kernel
theorem dX3_takesLetter_46 : decode cX3_takesLetter 46 = .ok (.iconst 0, 1) := by decide +kernel
theorem dX3_takesLetter_47 : decode cX3_takesLetter 47 = .ok (.putfield 38, 3) := by decide +kernel
theorem dX3_takesLetter_50 : decode cX3_takesLetter 50 = .ok (.iconst 1, 1) := by decide +kernel
theorem dX3_takesLetter_51 : decode cX3_takesLetter 51 = .ok (.ireturn, 1) := by decide +kernel
theorem dX3_takesDigit_0 : decode cX3_takesDigit 0 = .ok (.aload_n 0, 1) := by decide +kernel
theorem dX3_takesDigit_1 : decode cX3_takesDigit 1 = .ok (.getfield 38, 3) := by decide +kernel
theorem dX3_takesDigit_4 : decode cX3_takesDigit 4 = .ok (.iconst 2, 1) := by decide +kernel
theorem dX3_takesDigit_5 : decode cX3_takesDigit 5 = .ok (.if_icmp .eq 21, 3) := by decide +kernel
theorem dX3_takesDigit_8 : decode cX3_takesDigit 8 = .ok (.aload_n 0, 1) := by decide +kernel
theorem dX3_takesDigit_9 : decode cX3_takesDigit 9 = .ok (.getfield 38, 3) := by decide +kernel
theorem dX3_takesDigit_12 : decode cX3_takesDigit 12 = .ok (.ifCond .ne 16, 3) := by decide +kernel
theorem dX3_takesDigit_15 : decode cX3_takesDigit 15 = .ok (.aload_n 0, 1) := by decide +kernel
theorem dX3_takesDigit_16 : decode cX3_takesDigit 16 = .ok (.getfield 35, 3) := by decide +kernel
theorem dX3_takesDigit_19 : decode cX3_takesDigit 19 = .ok (.aload_n 0, 1) := by decide +kernel
theorem dX3_takesDigit_20 : decode cX3_takesDigit 20 = .ok (.getfield 32, 3) := by decide +kernel
theorem dX3_takesDigit_23 : decode cX3_takesDigit 23 = .ok (.if_icmp .ne 5, 3) := by decide +kernel
theorem dX3_takesDigit_26 : decode cX3_takesDigit 26 = .ok (.iconst 0, 1) := by decide +kernel
theorem dX3_takesDigit_27 : decode cX3_takesDigit 27 = .ok (.ireturn, 1) := by decide +kernel
theorem dX3_takesDigit_28 : decode cX3_takesDigit 28 = .ok (.aload_n 0, 1) := by decide +kernel
theorem dX3_takesDigit_29 : decode cX3_takesDigit 29 = .ok (.getfield 25, 3) := by decide +kernel
theorem dX3_takesDigit_32 : decode cX3_takesDigit 32 = .ok (.iconst 5, 1) := by decide +kernel
theorem dX3_takesDigit_33 : decode cX3_takesDigit 33 = .ok (.imul, 1) := by decide +kernel
theorem dX3_takesDigit_34 : decode cX3_takesDigit 34 = .ok (.aload_n 0, 1) := by decide +kernel
theorem dX3_takesDigit_35 : decode cX3_takesDigit 35 = .ok (.getfield 35, 3) := by decide +kernel
theorem dX3_takesDigit_38 : decode cX3_takesDigit 38 = .ok (.iadd, 1) := by decide +kernel
theorem dX3_takesDigit_39 : decode cX3_takesDigit 39 = .ok (.istore_n 2, 1) := by decide +kernel
theorem dX3_takesDigit_40 : decode cX3_takesDigit 40 = .ok (.aload_n 0, 1) := by decide +kernel
theorem dX3_takesDigit_41 : decode cX3_takesDigit 41 = .ok (.getfield 38, 3) := by decide +kernel
theorem dX3_takesDigit_44 : decode cX3_takesDigit 44 = .ok (.ifCond .ne 23, 3) := by decide +kernel
theorem dX3_takesDigit_47 : decode cX3_takesDigit 47 = .ok (.aload_n 0, 1) := by decide +kernel
theorem dX3_takesDigit_48 : decode cX3_takesDigit 48 = .ok (.getfield 22, 3) := by decide +kernel
theorem dX3_takesDigit_51 : decode cX3_takesDigit 51 = .ok (.iload_n 2, 1) := by decide +kernel
theorem dX3_takesDigit_52 : decode cX3_takesDigit 52 = .ok (.iload_n 1, 1) := by decide +kernel
theorem dX3_takesDigit_53 : decode cX3_takesDigit 53 = .ok (.iastore, 1) := by decide +kernel
theorem dX3_takesDigit_54 : decode cX3_takesDigit 54 = .ok (.aload_n 0, 1) := by decide +kernel
theorem dX3_takesDigit_55 : decode cX3_takesDigit 55 = .ok (.dup, 1) := by decide +kernel
theorem dX3_takesDigit_56 : decode cX3_takesDigit 56 = .ok (.getfield 35, 3) := by decide +kernel
theorem dX3_takesDigit_59 : decode cX3_takesDigit 59 = .ok (.iconst 1, 1) := by decide +kernel
theorem dX3_takesDigit_60 : decode cX3_takesDigit 60 = .ok (.iadd, 1) := by decide +kernel
theorem dX3_takesDigit_61 : decode cX3_takesDigit 61 = .ok (.putfield 35, 3) := by decide +kernel
theorem dX3_takesDigit_64 : decode cX3_takesDigit 64 = .ok (.goto 24, 3) := by decide +kernel
theorem dX3_takesDigit_67 : decode cX3_takesDigit 67 = .ok (.aload_n 0, 1) := by decide +kernel
theorem dX3_takesDigit_68 : decode cX3_takesDigit 68 = .ok (.getfield 22, 3) := by decide +kernel
theorem dX3_takesDigit_71 : decode cX3_takesDigit 71 = .ok (.iload_n 2, 1) := by decide +kernel
theorem dX3_takesDigit_72 : decode cX3_takesDigit 72 = .ok (.iconst 1, 1) := by decide +kernel
theorem dX3_takesDigit_73 : decode cX3_takesDigit 73 = .ok (.isub, 1) := by decide +kernel
theorem dX3_takesDigit_74 : decode cX3_takesDigit 74 = .ok (.bipush 10, 2) := by decide +kernel
theorem dX3_takesDigit_76 : decode cX3_takesDigit 76 = .ok (.aload_n 0, 1) := by decide +kernel
theorem dX3_takesDigit_77 : decode cX3_takesDigit 77 = .ok (.getfield 22, 3) := by decide +kernel
theorem dX3_takesDigit_80 : decode cX3_takesDigit 80 = .ok (.iload_n 2, 1) := by decide +kernel
theorem dX3_takesDigit_81 : decode cX3_takesDigit 81 = .ok (.iconst 1, 1) := by decide +kernel
theorem dX3_takesDigit_82 : decode cX3_takesDigit 82 = .ok (.isub, 1) := by decide +kernel
theorem dX3_takesDigit_83 : decode cX3_takesDigit 83 = .ok (.iaload, 1) := by decide +kernel
theorem dX3_takesDigit_84 : decode cX3_takesDigit 84 = .ok (.imul, 1) := by decide +kernel
theorem dX3_takesDigit_85 : decode cX3_takesDigit 85 = .ok (.iload_n 1, 1) := by decide +kernel
theorem dX3_takesDigit_86 : decode cX3_takesDigit 86 = .ok (.iadd, 1) := by decide +kernel
theorem dX3_takesDigit_87 : decode cX3_takesDigit 87 = .ok (.iastore, 1) := by decide +kernel
theorem dX3_takesDigit_88 : decode cX3_takesDigit 88 = .ok (.aload_n 0, 1) := by decide +kernel
theorem dX3_takesDigit_89 : decode cX3_takesDigit 89 = .ok (.dup, 1) := by decide +kernel
theorem dX3_takesDigit_90 : decode cX3_takesDigit 90 = .ok (.getfield 38, 3) := by decide +kernel
theorem dX3_takesDigit_93 : decode cX3_takesDigit 93 = .ok (.iconst 1, 1) := by decide +kernel
theorem dX3_takesDigit_94 : decode cX3_takesDigit 94 = .ok (.iadd, 1) := by decide +kernel
theorem dX3_takesDigit_95 : decode cX3_takesDigit 95 = .ok (.putfield 38, 3) := by decide +kernel
theorem dX3_takesDigit_98 : decode cX3_takesDigit 98 = .ok (.iconst 1, 1) := by decide +kernel
theorem dX3_takesDigit_99 : decode cX3_takesDigit 99 = .ok (.ireturn, 1) := by decide +kernel
theorem dX3_takesEnd_0 : decode cX3_takesEnd 0 = .ok (.aload_n 0, 1) := by decide +kernel
theorem dX3_takesEnd_1 : decode cX3_takesEnd 1 = .ok (.getfield 35, 3) := by decide +kernel
theorem dX3_takesEnd_4 : decode cX3_takesEnd 4 = .ok (.aload_n 0, 1) := by decide +kernel
theorem dX3_takesEnd_5 : decode cX3_takesEnd 5 = .ok (.getfield 32, 3) := by decide +kernel
theorem dX3_takesEnd_8 : decode cX3_takesEnd 8 = .ok (.if_icmp .ge 5, 3) := by decide +kernel
theorem dX3_takesEnd_11 : decode cX3_takesEnd 11 = .ok (.iconst 0, 1) := by decide +kernel
theorem dX3_takesEnd_12 : decode cX3_takesEnd 12 = .ok (.ireturn, 1) := by decide +kernel
theorem dX3_takesEnd_13 : decode cX3_takesEnd 13 = .ok (.aload_n 0, 1) := by decide +kernel
theorem dX3_takesEnd_14 : decode cX3_takesEnd 14 = .ok (.iconst 0, 1) := by decide +kernel
theorem dX3_takesEnd_15 : decode cX3_takesEnd 15 = .ok (.putfield 28, 3) := by decide +kernel
theorem dX3_takesEnd_18 : decode cX3_takesEnd 18 = .ok (.aload_n 0, 1) := by decide +kernel
theorem dX3_takesEnd_19 : decode cX3_takesEnd 19 = .ok (.dup, 1) := by decide +kernel
theorem dX3_takesEnd_20 : decode cX3_takesEnd 20 = .ok (.getfield 25, 3) := by decide +kernel
theorem dX3_takesEnd_23 : decode cX3_takesEnd 23 = .ok (.iconst 1, 1) := by decide +kernel
theorem dX3_takesEnd_24 : decode cX3_takesEnd 24 = .ok (.iadd, 1) := by decide +kernel
theorem dX3_takesEnd_25 : decode cX3_takesEnd 25 = .ok (.putfield 25, 3) := by decide +kernel
theorem dX3_takesEnd_28 : decode cX3_takesEnd 28 = .ok (.iconst 1, 1) := by decide +kernel
theorem dX3_takesEnd_29 : decode cX3_takesEnd 29 = .ok (.ireturn, 1) := by decide +kernel
theorem dX3_numbersOf_0 : decode cX3_numbersOf 0 = .ok (.iload_n 0, 1) := by decide +kernel
theorem dX3_numbersOf_1 : decode cX3_numbersOf 1 = .ok (.tableswitch 101 98 116 #[91, 97, 101, 95, 101, 101, 101, 101, 101, 101, 101, 101, 101, 93, 101, 101, 93, 99, 91], 91) := by decide +kernel
theorem dX3_numbersOf_92 : decode cX3_numbersOf 92 = .ok (.iconst 1, 1) := by decide +kernel
theorem dX3_numbersOf_93 : decode cX3_numbersOf 93 = .ok (.ireturn, 1) := by decide +kernel
theorem dX3_numbersOf_94 : decode cX3_numbersOf 94 = .ok (.iconst 2, 1) := by decide +kernel
theorem dX3_numbersOf_95 : decode cX3_numbersOf 95 = .ok (.ireturn, 1) := by decide +kernel
theorem dX3_numbersOf_96 : decode cX3_numbersOf 96 = .ok (.iconst 3, 1) := by decide +kernel
theorem dX3_numbersOf_97 : decode cX3_numbersOf 97 = .ok (.ireturn, 1) := by decide +kernel
theorem dX3_numbersOf_98 : decode cX3_numbersOf 98 = .ok (.iconst 4, 1) := by decide +kernel
theorem dX3_numbersOf_99 : decode cX3_numbersOf 99 = .ok (.ireturn, 1) := by decide +kernel
theorem dX3_numbersOf_100 : decode cX3_numbersOf 100 = .ok (.iconst 5, 1) := by decide +kernel
theorem dX3_numbersOf_101 : decode cX3_numbersOf 101 = .ok (.ireturn, 1) := by decide +kernel
theorem dX3_numbersOf_102 : decode cX3_numbersOf 102 = .ok (.iconst 0, 1) := by decide +kernel
theorem dX3_numbersOf_103 : decode cX3_numbersOf 103 = .ok (.ireturn, 1) := by decide +kernel
theorem dX4_init_0 : decode cX4_init 0 = .ok (.aload_n 0, 1) := by decide +kernel
theorem dX4_init_1 : decode cX4_init 1 = .ok (.invokespecial 3, 3) := by decide +kernel
theorem dX4_init_4 : decode cX4_init 4 = .ok (.aload_n 0, 1) := by decide +kernel
theorem dX4_init_5 : decode cX4_init 5 = .ok (.iconst 0, 1) := by decide +kernel
theorem dX4_init_6 : decode cX4_init 6 = .ok (.putfield 9, 3) := by decide +kernel
theorem dX4_init_9 : decode cX4_init 9 = .ok (.aload_n 0, 1) := by decide +kernel
theorem dX4_init_10 : decode cX4_init 10 = .ok (.iconst 5, 1) := by decide +kernel
theorem dX4_init_11 : decode cX4_init 11 = .ok (.putfield 15, 3) := by decide +kernel
theorem dX4_init_14 : decode cX4_init 14 = .ok (.aload_n 0, 1) := by decide +kernel
theorem dX4_init_15 : decode cX4_init 15 = .ok (.iconst 3, 1) := by decide +kernel
theorem dX4_init_16 : decode cX4_init 16 = .ok (.newarray .int, 2) := by decide +kernel
theorem dX4_init_18 : decode cX4_init 18 = .ok (.putfield 18, 3) := by decide +kernel
theorem dX4_init_21 : decode cX4_init 21 = .ok (.aload_n 0, 1) := by decide +kernel
theorem dX4_init_22 : decode cX4_init 22 = .ok (.iconst 4, 1) := by decide +kernel
theorem dX4_init_23 : decode cX4_init 23 = .ok (.anewarray 22, 3) := by decide +kernel
theorem dX4_init_26 : decode cX4_init 26 = .ok (.putfield 24, 3) := by decide +kernel
theorem dX4_init_29 : decode cX4_init 29 = .ok (.aload_n 0, 1) := by decide +kernel
theorem dX4_init_30 : decode cX4_init 30 = .ok (.iconst 2, 1) := by decide +kernel
theorem dX4_init_31 : decode cX4_init 31 = .ok (.anewarray 28, 3) := by decide +kernel
theorem dX4_init_34 : decode cX4_init 34 = .ok (.putfield 30, 3) := by decide +kernel
theorem dX4_init_37 : decode cX4_init 37 = .ok (.iconst 0, 1) := by decide +kernel
theorem dX4_init_38 : decode cX4_init 38 = .ok (.istore_n 1, 1) := by decide +kernel
theorem dX4_init_39 : decode cX4_init 39 = .ok (.iload_n 1, 1) := by decide +kernel
theorem dX4_init_40 : decode cX4_init 40 = .ok (.iconst 4, 1) := by decide +kernel
theorem dX4_init_41 : decode cX4_init 41 = .ok (.if_icmp .ge 22, 3) := by decide +kernel
theorem dX4_init_44 : decode cX4_init 44 = .ok (.aload_n 0, 1) := by decide +kernel
theorem dX4_init_45 : decode cX4_init 45 = .ok (.getfield 24, 3) := by decide +kernel
theorem dX4_init_48 : decode cX4_init 48 = .ok (.iload_n 1, 1) := by decide +kernel
theorem dX4_init_49 : decode cX4_init 49 = .ok (.new 22, 3) := by decide +kernel
theorem dX4_init_52 : decode cX4_init 52 = .ok (.dup, 1) := by decide +kernel
theorem dX4_init_53 : decode cX4_init 53 = .ok (.invokespecial 34, 3) := by decide +kernel
theorem dX4_init_56 : decode cX4_init 56 = .ok (.aastore, 1) := by decide +kernel
theorem dX4_init_57 : decode cX4_init 57 = .ok (.iinc 1 1, 3) := by decide +kernel
theorem dX4_init_60 : decode cX4_init 60 = .ok (.goto (-21), 3) := by decide +kernel
theorem dX4_init_63 : decode cX4_init 63 = .ok (.iconst 0, 1) := by decide +kernel
theorem dX4_init_64 : decode cX4_init 64 = .ok (.istore_n 1, 1) := by decide +kernel
theorem dX4_init_65 : decode cX4_init 65 = .ok (.iload_n 1, 1) := by decide +kernel
theorem dX4_init_66 : decode cX4_init 66 = .ok (.iconst 2, 1) := by decide +kernel
theorem dX4_init_67 : decode cX4_init 67 = .ok (.if_icmp .ge 22, 3) := by decide +kernel
theorem dX4_init_70 : decode cX4_init 70 = .ok (.aload_n 0, 1) := by decide +kernel
theorem dX4_init_71 : decode cX4_init 71 = .ok (.getfield 30, 3) := by decide +kernel
theorem dX4_init_74 : decode cX4_init 74 = .ok (.iload_n 1, 1) := by decide +kernel
theorem dX4_init_75 : decode cX4_init 75 = .ok (.new 28, 3) := by decide +kernel
theorem dX4_init_78 : decode cX4_init 78 = .ok (.dup, 1) := by decide +kernel
theorem dX4_init_79 : decode cX4_init 79 = .ok (.invokespecial 35, 3) := by decide +kernel
theorem dX4_init_82 : decode cX4_init 82 = .ok (.aastore, 1) := by decide +kernel
theorem dX4_init_83 : decode cX4_init 83 = .ok (.iinc 1 1, 3) := by decide +kernel
theorem dX4_init_86 : decode cX4_init 86 = .ok (.goto (-21), 3) := by decide +kernel
theorem dX4_init_89 : decode cX4_init 89 = .ok (.return_, 1) := by decide +kernel
theorem dX4_copy_0 : decode cX4_copy 0 = .ok (.aload_n 0, 1) := by decide +kernel
theorem dX4_copy_1 : decode cX4_copy 1 = .ok (.aload_n 1, 1) := by decide +kernel
theorem dX4_copy_2 : decode cX4_copy 2 = .ok (.getfield 9, 3) := by decide +kernel
theorem dX4_copy_5 : decode cX4_copy 5 = .ok (.putfield 9, 3) := by decide +kernel
theorem dX4_copy_8 : decode cX4_copy 8 = .ok (.aload_n 0, 1) := by decide +kernel
theorem dX4_copy_9 : decode cX4_copy 9 = .ok (.aload_n 1, 1) := by decide +kernel
theorem dX4_copy_10 : decode cX4_copy 10 = .ok (.getfield 15, 3) := by decide +kernel
theorem dX4_copy_13 : decode cX4_copy 13 = .ok (.putfield 15, 3) := by decide +kernel
theorem dX4_copy_16 : decode cX4_copy 16 = .ok (.aload_n 1, 1) := by decide +kernel
theorem dX4_copy_17 : decode cX4_copy 17 = .ok (.getfield 18, 3) := by decide +kernel
theorem dX4_copy_20 : decode cX4_copy 20 = .ok (.iconst 0, 1) := by decide +kernel
theorem dX4_copy_21 : decode cX4_copy 21 = .ok (.aload_n 0, 1) := by decide +kernel
theorem dX4_copy_22 : decode cX4_copy 22 = .ok (.getfield 18, 3) := by decide +kernel
theorem dX4_copy_25 : decode cX4_copy 25 = .ok (.iconst 0, 1) := by decide +kernel
theorem dX4_copy_26 : decode cX4_copy 26 = .ok (.iconst 3, 1) := by decide +kernel
theorem dX4_copy_27 : decode cX4_copy 27 = .ok (.invokestatic 36, 3) := by decide +kernel
theorem dX4_copy_30 : decode cX4_copy 30 = .ok (.iconst 0, 1) := by decide +kernel
theorem dX4_copy_31 : decode cX4_copy 31 = .ok (.istore_n 2, 1) := by decide +kernel
theorem dX4_copy_32 : decode cX4_copy 32 = .ok (.iload_n 2, 1) := by decide +kernel
theorem dX4_copy_33 : decode cX4_copy 33 = .ok (.iconst 4, 1) := by decide +kernel
theorem dX4_copy_34 : decode cX4_copy 34 = .ok (.if_icmp .ge 24, 3) := by decide +kernel
theorem dX4_copy_37 : decode cX4_copy 37 = .ok (.aload_n 0, 1) := by decide +kernel
theorem dX4_copy_38 : decode cX4_copy 38 = .ok (.getfield 24, 3) := by decide +kernel
theorem dX4_copy_41 : decode cX4_copy 41 = .ok (.iload_n 2, 1) := by decide +kernel
theorem dX4_copy_42 : decode cX4_copy 42 = .ok (.aaload, 1) := by decide +kernel
theorem dX4_copy_43 : decode cX4_copy 43 = .ok (.aload_n 1, 1) := by decide +kernel
theorem dX4_copy_44 : decode cX4_copy 44 = .ok (.getfield 24, 3) := by decide +kernel
theorem dX4_copy_47 : decode cX4_copy 47 = .ok (.iload_n 2, 1) := by decide +kernel
theorem dX4_copy_48 : decode cX4_copy 48 = .ok (.aaload, 1) := by decide +kernel
theorem dX4_copy_49 : decode cX4_copy 49 = .ok (.invokevirtual 42, 3) := by decide +kernel
theorem dX4_copy_52 : decode cX4_copy 52 = .ok (.iinc 2 1, 3) := by decide +kernel
theorem dX4_copy_55 : decode cX4_copy 55 = .ok (.goto (-23), 3) := by decide +kernel
theorem dX4_copy_58 : decode cX4_copy 58 = .ok (.iconst 0, 1) := by decide +kernel
theorem dX4_copy_59 : decode cX4_copy 59 = .ok (.istore_n 2, 1) := by decide +kernel
theorem dX4_copy_60 : decode cX4_copy 60 = .ok (.iload_n 2, 1) := by decide +kernel
theorem dX4_copy_61 : decode cX4_copy 61 = .ok (.iconst 2, 1) := by decide +kernel
theorem dX4_copy_62 : decode cX4_copy 62 = .ok (.if_icmp .ge 24, 3) := by decide +kernel
theorem dX4_copy_65 : decode cX4_copy 65 = .ok (.aload_n 0, 1) := by decide +kernel
theorem dX4_copy_66 : decode cX4_copy 66 = .ok (.getfield 30, 3) := by decide +kernel
theorem dX4_copy_69 : decode cX4_copy 69 = .ok (.iload_n 2, 1) := by decide +kernel
theorem dX4_copy_70 : decode cX4_copy 70 = .ok (.aaload, 1) := by decide +kernel
theorem dX4_copy_71 : decode cX4_copy 71 = .ok (.aload_n 1, 1) := by decide +kernel
theorem dX4_copy_72 : decode cX4_copy 72 = .ok (.getfield 30, 3) := by decide +kernel
theorem dX4_copy_75 : decode cX4_copy 75 = .ok (.iload_n 2, 1) := by decide +kernel
theorem dX4_copy_76 : decode cX4_copy 76 = .ok (.aaload, 1) := by decide +kernel
theorem dX4_copy_77 : decode cX4_copy 77 = .ok (.invokevirtual 46, 3) := by decide +kernel
theorem dX4_copy_80 : decode cX4_copy 80 = .ok (.iinc 2 1, 3) := by decide +kernel
theorem dX4_copy_83 : decode cX4_copy 83 = .ok (.goto (-23), 3) := by decide +kernel
theorem dX4_copy_86 : decode cX4_copy 86 = .ok (.return_, 1) := by decide +kernel
theorem dX5_init_0 : decode cX5_init 0 = .ok (.aload_n 0, 1) := by decide +kernel
theorem dX5_init_1 : decode cX5_init 1 = .ok (.invokespecial 1, 3) := by decide +kernel
theorem dX5_init_4 : decode cX5_init 4 = .ok (.aload_n 0, 1) := by decide +kernel
theorem dX5_init_5 : decode cX5_init 5 = .ok (.iconst 3, 1) := by decide +kernel
theorem dX5_init_6 : decode cX5_init 6 = .ok (.anewarray 9, 3) := by decide +kernel
theorem dX5_init_9 : decode cX5_init 9 = .ok (.putfield 11, 3) := by decide +kernel
theorem dX5_init_12 : decode cX5_init 12 = .ok (.aload_n 0, 1) := by decide +kernel
theorem dX5_init_13 : decode cX5_init 13 = .ok (.new 15, 3) := by decide +kernel
theorem dX5_init_16 : decode cX5_init 16 = .ok (.dup, 1) := by decide +kernel
theorem dX5_init_17 : decode cX5_init 17 = .ok (.invokespecial 17, 3) := by decide +kernel
theorem dX5_init_20 : decode cX5_init 20 = .ok (.putfield 18, 3) := by decide +kernel
theorem dX5_init_23 : decode cX5_init 23 = .ok (.aload_n 0, 1) := by decide +kernel
theorem dX5_init_24 : decode cX5_init 24 = .ok (.bipush 6, 2) := by decide +kernel
theorem dX5_init_26 : decode cX5_init 26 = .ok (.anewarray 15, 3) := by decide +kernel
theorem dX5_init_29 : decode cX5_init 29 = .ok (.putfield 22, 3) := by decide +kernel
theorem dX5_init_32 : decode cX5_init 32 = .ok (.aload_n 0, 1) := by decide +kernel
theorem dX5_init_33 : decode cX5_init 33 = .ok (.iconst 0, 1) := by decide +kernel
theorem dX5_init_34 : decode cX5_init 34 = .ok (.putfield 26, 3) := by decide +kernel
theorem dX5_init_37 : decode cX5_init 37 = .ok (.aload_n 0, 1) := by decide +kernel
theorem dX5_init_38 : decode cX5_init 38 = .ok (.iconst 0, 1) := by decide +kernel
theorem dX5_init_39 : decode cX5_init 39 = .ok (.putfield 30, 3) := by decide +kernel
theorem dX5_init_42 : decode cX5_init 42 = .ok (.aload_n 0, 1) := by decide +kernel
theorem dX5_init_43 : decode cX5_init 43 = .ok (.new 33, 3) := by decide +kernel
theorem dX5_init_46 : decode cX5_init 46 = .ok (.dup, 1) := by decide +kernel
theorem dX5_init_47 : decode cX5_init 47 = .ok (.invokespecial 35, 3) := by decide +kernel
theorem dX5_init_50 : decode cX5_init 50 = .ok (.putfield 36, 3) := by decide +kernel
theorem dX5_init_53 : decode cX5_init 53 = .ok (.aload_n 0, 1) := by decide +kernel
theorem dX5_init_54 : decode cX5_init 54 = .ok (.iconst 5, 1) := by decide +kernel
theorem dX5_init_55 : decode cX5_init 55 = .ok (.newarray .int, 2) := by decide +kernel
theorem dX5_init_57 : decode cX5_init 57 = .ok (.putfield 40, 3) := by decide +kernel
theorem dX5_init_60 : decode cX5_init 60 = .ok (.aload_n 0, 1) := by decide +kernel
theorem dX5_init_61 : decode cX5_init 61 = .ok (.iconst 0, 1) := by decide +kernel
theorem dX5_init_62 : decode cX5_init 62 = .ok (.putfield 44, 3) := by decide +kernel
theorem dX5_init_65 : decode cX5_init 65 = .ok (.aload_n 0, 1) := by decide +kernel
theorem dX5_init_66 : decode cX5_init 66 = .ok (.iconst 0, 1) := by decide +kernel
theorem dX5_init_67 : decode cX5_init 67 = .ok (.putfield 47, 3) := by decide +kernel
theorem dX5_init_70 : decode cX5_init 70 = .ok (.iconst 0, 1) := by decide +kernel
theorem dX5_init_71 : decode cX5_init 71 = .ok (.istore_n 1, 1) := by decide +kernel
theorem dX5_init_72 : decode cX5_init 72 = .ok (.iload_n 1, 1) := by decide +kernel
theorem dX5_init_73 : decode cX5_init 73 = .ok (.iconst 3, 1) := by decide +kernel
theorem dX5_init_74 : decode cX5_init 74 = .ok (.if_icmp .ge 22, 3) := by decide +kernel
theorem dX5_init_77 : decode cX5_init 77 = .ok (.aload_n 0, 1) := by decide +kernel
theorem dX5_init_78 : decode cX5_init 78 = .ok (.getfield 11, 3) := by decide +kernel
theorem dX5_init_81 : decode cX5_init 81 = .ok (.iload_n 1, 1) := by decide +kernel
theorem dX5_init_82 : decode cX5_init 82 = .ok (.new 9, 3) := by decide +kernel
theorem dX5_init_85 : decode cX5_init 85 = .ok (.dup, 1) := by decide +kernel
theorem dX5_init_86 : decode cX5_init 86 = .ok (.invokespecial 51, 3) := by decide +kernel
theorem dX5_init_89 : decode cX5_init 89 = .ok (.aastore, 1) := by decide +kernel
theorem dX5_init_90 : decode cX5_init 90 = .ok (.iinc 1 1, 3) := by decide +kernel
theorem dX5_init_93 : decode cX5_init 93 = .ok (.goto (-21), 3) := by decide +kernel
theorem dX5_init_96 : decode cX5_init 96 = .ok (.iconst 0, 1) := by decide +kernel
theorem dX5_init_97 : decode cX5_init 97 = .ok (.istore_n 1, 1) := by decide +kernel
theorem dX5_init_98 : decode cX5_init 98 = .ok (.iload_n 1, 1) := by decide +kernel
theorem dX5_init_99 : decode cX5_init 99 = .ok (.bipush 6, 2) := by decide +kernel
theorem dX5_init_101 : decode cX5_init 101 = .ok (.if_icmp .ge 22, 3) := by decide +kernel
theorem dX5_init_104 : decode cX5_init 104 = .ok (.aload_n 0, 1) := by decide +kernel
theorem dX5_init_105 : decode cX5_init 105 = .ok (.getfield 22, 3) := by decide +kernel
theorem dX5_init_108 : decode cX5_init 108 = .ok (.iload_n 1, 1) := by decide +kernel
theorem dX5_init_109 : decode cX5_init 109 = .ok (.new 15, 3) := by decide +kernel
theorem dX5_init_112 : decode cX5_init 112 = .ok (.dup, 1) := by decide +kernel
theorem dX5_init_113 : decode cX5_init 113 = .ok (.invokespecial 17, 3) := by decide +kernel
theorem dX5_init_116 : decode cX5_init 116 = .ok (.aastore, 1) := by decide +kernel
theorem dX5_init_117 : decode cX5_init 117 = .ok (.iinc 1 1, 3) := by decide +kernel
theorem dX5_init_120 : decode cX5_init 120 = .ok (.goto (-22), 3) := by decide +kernel
theorem dX5_init_123 : decode cX5_init 123 = .ok (.return_, 1) := by decide +kernel
theorem dX5_begins_0 : decode cX5_begins 0 = .ok (.iload_n 1, 1) := by decide +kernel
theorem dX5_begins_1 : decode cX5_begins 1 = .ok (.iconst 4, 1) := by decide +kernel
theorem dX5_begins_2 : decode cX5_begins 2 = .ok (.invokestatic 52, 3) := by decide +kernel
theorem dX5_begins_5 : decode cX5_begins 5 = .ok (.ifCond .eq 10, 3) := by decide +kernel
theorem dX5_begins_8 : decode cX5_begins 8 = .ok (.aload_n 0, 1) := by decide +kernel
theorem dX5_begins_9 : decode cX5_begins 9 = .ok (.bipush (-2), 2) := by decide +kernel
theorem dX5_begins_11 : decode cX5_begins 11 = .ok (.invokevirtual 56, 3) := by decide +kernel
theorem dX5_begins_14 : decode cX5_begins 14 = .ok (.ireturn, 1) := by decide +kernel
theorem dX5_begins_15 : decode cX5_begins 15 = .ok (.aload_n 0, 1) := by decide +kernel
theorem dX5_begins_16 : decode cX5_begins 16 = .ok (.getfield 18, 3) := by decide +kernel
theorem dX5_begins_19 : decode cX5_begins 19 = .ok (.getfield 60, 3) := by decide +kernel
theorem dX5_begins_22 : decode cX5_begins 22 = .ok (.iload_n 1, 1) := by decide +kernel
theorem dX5_begins_23 : decode cX5_begins 23 = .ok (.aaload, 1) := by decide +kernel
theorem dX5_begins_24 : decode cX5_begins 24 = .ok (.astore_n 2, 1) := by decide +kernel
theorem dX5_begins_25 : decode cX5_begins 25 = .ok (.aload_n 2, 1) := by decide +kernel
theorem dX5_begins_26 : decode cX5_begins 26 = .ok (.getfield 64, 3) := by decide +kernel
theorem dX5_begins_29 : decode cX5_begins 29 = .ok (.iconst 2, 1) := by decide +kernel
theorem dX5_begins_30 : decode cX5_begins 30 = .ok (.if_icmp .ne 10, 3) := by decide +kernel
theorem dX5_begins_33 : decode cX5_begins 33 = .ok (.aload_n 0, 1) := by decide +kernel
theorem dX5_begins_34 : decode cX5_begins 34 = .ok (.bipush (-3), 2) := by decide +kernel
theorem dX5_begins_36 : decode cX5_begins 36 = .ok (.invokevirtual 56, 3) := by decide +kernel
theorem dX5_begins_39 : decode cX5_begins 39 = .ok (.ireturn, 1) := by decide +kernel
theorem dX5_begins_40 : decode cX5_begins 40 = .ok (.aload_n 2, 1) := by decide +kernel
theorem dX5_begins_41 : decode cX5_begins 41 = .ok (.getfield 69, 3) := by decide +kernel
theorem dX5_begins_44 : decode cX5_begins 44 = .ok (.bipush 99, 2) := by decide +kernel
theorem dX5_begins_46 : decode cX5_begins 46 = .ok (.if_icmp .lt 10, 3) := by decide +kernel
theorem dX5_begins_49 : decode cX5_begins 49 = .ok (.aload_n 0, 1) := by decide +kernel
theorem dX5_begins_50 : decode cX5_begins 50 = .ok (.bipush (-4), 2) := by decide +kernel
theorem dX5_begins_52 : decode cX5_begins 52 = .ok (.invokevirtual 56, 3) := by decide +kernel
theorem dX5_begins_55 : decode cX5_begins 55 = .ok (.ireturn, 1) := by decide +kernel
theorem dX5_begins_56 : decode cX5_begins 56 = .ok (.aload_n 0, 1) := by decide +kernel
theorem dX5_begins_57 : decode cX5_begins 57 = .ok (.invokevirtual 72, 3) := by decide +kernel
theorem dX5_begins_60 : decode cX5_begins 60 = .ok (.aload_n 2, 1) := by decide +kernel
theorem dX5_begins_61 : decode cX5_begins 61 = .ok (.dup, 1) := by decide +kernel
theorem dX5_begins_62 : decode cX5_begins 62 = .ok (.getfield 69, 3) := by decide +kernel
theorem dX5_begins_65 : decode cX5_begins 65 = .ok (.iconst 1, 1) := by decide +kernel
theorem dX5_begins_66 : decode cX5_begins 66 = .ok (.iadd, 1) := by decide +kernel
theorem dX5_begins_67 : decode cX5_begins 67 = .ok (.putfield 69, 3) := by decide +kernel
theorem dX5_begins_70 : decode cX5_begins 70 = .ok (.aload_n 2, 1) := by decide +kernel
theorem dX5_begins_71 : decode cX5_begins 71 = .ok (.getfield 64, 3) := by decide +kernel
theorem dX5_begins_74 : decode cX5_begins 74 = .ok (.iconst 1, 1) := by decide +kernel
theorem dX5_begins_75 : decode cX5_begins 75 = .ok (.if_icmp .ne 10, 3) := by decide +kernel
theorem dX5_begins_78 : decode cX5_begins 78 = .ok (.aload_n 0, 1) := by decide +kernel
theorem dX5_begins_79 : decode cX5_begins 79 = .ok (.aload_n 2, 1) := by decide +kernel
theorem dX5_begins_80 : decode cX5_begins 80 = .ok (.iconst 0, 1) := by decide +kernel
theorem dX5_begins_81 : decode cX5_begins 81 = .ok (.invokevirtual 75, 3) := by decide +kernel
theorem dX5_begins_84 : decode cX5_begins 84 = .ok (.pop, 1) := by decide +kernel
theorem dX5_begins_85 : decode cX5_begins 85 = .ok (.aload_n 2, 1) := by decide +kernel
theorem dX5_begins_86 : decode cX5_begins 86 = .ok (.getfield 69, 3) := by decide +kernel
theorem dX5_begins_89 : decode cX5_begins 89 = .ok (.ireturn, 1) := by decide +kernel
theorem dX5_opens_0 : decode cX5_opens 0 = .ok (.aload_n 0, 1) := by decide +kernel
theorem dX5_opens_1 : decode cX5_opens 1 = .ok (.iload_n 1, 1) := by decide +kernel
theorem dX5_opens_2 : decode cX5_opens 2 = .ok (.iload_n 2, 1) := by decide +kernel
theorem dX5_opens_3 : decode cX5_opens 3 = .ok (.invokevirtual 79, 3) := by decide +kernel
theorem dX5_opens_6 : decode cX5_opens 6 = .ok (.ifCond .eq 10, 3) := by decide +kernel
theorem dX5_opens_9 : decode cX5_opens 9 = .ok (.aload_n 0, 1) := by decide +kernel
theorem dX5_opens_10 : decode cX5_opens 10 = .ok (.bipush (-2), 2) := by decide +kernel
theorem dX5_opens_12 : decode cX5_opens 12 = .ok (.invokevirtual 56, 3) := by decide +kernel
theorem dX5_opens_15 : decode cX5_opens 15 = .ok (.ireturn, 1) := by decide +kernel
theorem dX5_opens_16 : decode cX5_opens 16 = .ok (.aload_n 0, 1) := by decide +kernel
theorem dX5_opens_17 : decode cX5_opens 17 = .ok (.getfield 18, 3) := by decide +kernel
theorem dX5_opens_20 : decode cX5_opens 20 = .ok (.getfield 60, 3) := by decide +kernel
theorem dX5_opens_23 : decode cX5_opens 23 = .ok (.iload_n 1, 1) := by decide +kernel
theorem dX5_opens_24 : decode cX5_opens 24 = .ok (.aaload, 1) := by decide +kernel
theorem dX5_opens_25 : decode cX5_opens 25 = .ok (.astore_n 3, 1) := by decide +kernel
theorem dX5_opens_26 : decode cX5_opens 26 = .ok (.iload_n 2, 1) := by decide +kernel
theorem dX5_opens_27 : decode cX5_opens 27 = .ok (.aload_n 3, 1) := by decide +kernel
theorem dX5_opens_28 : decode cX5_opens 28 = .ok (.getfield 69, 3) := by decide +kernel
theorem dX5_opens_31 : decode cX5_opens 31 = .ok (.if_icmp .ge 10, 3) := by decide +kernel
theorem dX5_opens_34 : decode cX5_opens 34 = .ok (.aload_n 0, 1) := by decide +kernel
theorem dX5_opens_35 : decode cX5_opens 35 = .ok (.bipush (-6), 2) := by decide +kernel
theorem dX5_opens_37 : decode cX5_opens 37 = .ok (.invokevirtual 56, 3) := by decide +kernel
theorem dX5_opens_40 : decode cX5_opens 40 = .ok (.ireturn, 1) := by decide +kernel
theorem dX5_opens_41 : decode cX5_opens 41 = .ok (.aload_n 3, 1) := by decide +kernel
theorem dX5_opens_42 : decode cX5_opens 42 = .ok (.getfield 64, 3) := by decide +kernel
theorem dX5_opens_45 : decode cX5_opens 45 = .ok (.ifCond .eq 10, 3) := by decide +kernel
theorem dX5_opens_48 : decode cX5_opens 48 = .ok (.aload_n 0, 1) := by decide +kernel
theorem dX5_opens_49 : decode cX5_opens 49 = .ok (.bipush (-3), 2) := by decide +kernel
theorem dX5_opens_51 : decode cX5_opens 51 = .ok (.invokevirtual 56, 3) := by decide +kernel
theorem dX5_opens_54 : decode cX5_opens 54 = .ok (.ireturn, 1) := by decide +kernel
theorem dX5_opens_55 : decode cX5_opens 55 = .ok (.aload_n 0, 1) := by decide +kernel
theorem dX5_opens_56 : decode cX5_opens 56 = .ok (.invokevirtual 72, 3) := by decide +kernel
theorem dX5_opens_59 : decode cX5_opens 59 = .ok (.aload_n 3, 1) := by decide +kernel
theorem dX5_opens_60 : decode cX5_opens 60 = .ok (.iconst 1, 1) := by decide +kernel
theorem dX5_opens_61 : decode cX5_opens 61 = .ok (.putfield 64, 3) := by decide +kernel
theorem dX5_opens_64 : decode cX5_opens 64 = .ok (.aload_n 3, 1) := by decide +kernel
theorem dX5_opens_65 : decode cX5_opens 65 = .ok (.aload_n 0, 1) := by decide +kernel
theorem dX5_opens_66 : decode cX5_opens 66 = .ok (.getfield 18, 3) := by decide +kernel
theorem dX5_opens_69 : decode cX5_opens 69 = .ok (.getfield 82, 3) := by decide +kernel
theorem dX5_opens_72 : decode cX5_opens 72 = .ok (.putfield 85, 3) := by decide +kernel
theorem dX5_opens_75 : decode cX5_opens 75 = .ok (.aload_n 0, 1) := by decide +kernel
theorem dX5_opens_76 : decode cX5_opens 76 = .ok (.iconst 1, 1) := by decide +kernel
theorem dX5_opens_77 : decode cX5_opens 77 = .ok (.invokevirtual 88, 3) := by decide +kernel
theorem dX5_opens_80 : decode cX5_opens 80 = .ok (.ireturn, 1) := by decide +kernel
theorem dX5_sends_0 : decode cX5_sends 0 = .ok (.aload_n 0, 1) := by decide +kernel
theorem dX5_sends_1 : decode cX5_sends 1 = .ok (.iload_n 1, 1) := by decide +kernel
theorem dX5_sends_2 : decode cX5_sends 2 = .ok (.iload_n 2, 1) := by decide +kernel
theorem dX5_sends_3 : decode cX5_sends 3 = .ok (.invokevirtual 79, 3) := by decide +kernel
theorem dX5_sends_6 : decode cX5_sends 6 = .ok (.ifCond .ne 31, 3) := by decide +kernel
theorem dX5_sends_9 : decode cX5_sends 9 = .ok (.iload_n 3, 1) := by decide +kernel
theorem dX5_sends_10 : decode cX5_sends 10 = .ok (.iconst 3, 1) := by decide +kernel
theorem dX5_sends_11 : decode cX5_sends 11 = .ok (.invokestatic 52, 3) := by decide +kernel
theorem dX5_sends_14 : decode cX5_sends 14 = .ok (.ifCond .ne 23, 3) := by decide +kernel
theorem dX5_sends_17 : decode cX5_sends 17 = .ok (.iload 4, 2) := by decide +kernel
theorem dX5_sends_19 : decode cX5_sends 19 = .ok (.bipush 100, 2) := by decide +kernel
theorem dX5_sends_21 : decode cX5_sends 21 = .ok (.invokestatic 52, 3) := by decide +kernel
theorem dX5_sends_24 : decode cX5_sends 24 = .ok (.ifCond .ne 13, 3) := by decide +kernel
theorem dX5_sends_27 : decode cX5_sends 27 = .ok (.iload 5, 2) := by decide +kernel
theorem dX5_sends_29 : decode cX5_sends 29 = .ok (.bipush 100, 2) := by decide +kernel
theorem dX5_sends_31 : decode cX5_sends 31 = .ok (.invokestatic 52, 3) := by decide +kernel
theorem dX5_sends_34 : decode cX5_sends 34 = .ok (.ifCond .eq 10, 3) := by decide +kernel
theorem dX5_sends_37 : decode cX5_sends 37 = .ok (.aload_n 0, 1) := by decide +kernel
theorem dX5_sends_38 : decode cX5_sends 38 = .ok (.bipush (-2), 2) := by decide +kernel
theorem dX5_sends_40 : decode cX5_sends 40 = .ok (.invokevirtual 56, 3) := by decide +kernel
theorem dX5_sends_43 : decode cX5_sends 43 = .ok (.ireturn, 1) := by decide +kernel
theorem dX5_sends_44 : decode cX5_sends 44 = .ok (.aload_n 0, 1) := by decide +kernel
theorem dX5_sends_45 : decode cX5_sends 45 = .ok (.getfield 18, 3) := by decide +kernel
theorem dX5_sends_48 : decode cX5_sends 48 = .ok (.getfield 60, 3) := by decide +kernel
theorem dX5_sends_51 : decode cX5_sends 51 = .ok (.iload_n 1, 1) := by decide +kernel
theorem dX5_sends_52 : decode cX5_sends 52 = .ok (.aaload, 1) := by decide +kernel
theorem dX5_sends_53 : decode cX5_sends 53 = .ok (.astore 6, 2) := by decide +kernel
theorem dX5_sends_55 : decode cX5_sends 55 = .ok (.iload_n 2, 1) := by decide +kernel
theorem dX5_sends_56 : decode cX5_sends 56 = .ok (.aload 6, 2) := by decide +kernel
theorem dX5_sends_58 : decode cX5_sends 58 = .ok (.getfield 69, 3) := by decide +kernel
theorem dX5_sends_61 : decode cX5_sends 61 = .ok (.if_icmp .ge 10, 3) := by decide +kernel
theorem dX5_sends_64 : decode cX5_sends 64 = .ok (.aload_n 0, 1) := by decide +kernel
theorem dX5_sends_65 : decode cX5_sends 65 = .ok (.bipush (-6), 2) := by decide +kernel
theorem dX5_sends_67 : decode cX5_sends 67 = .ok (.invokevirtual 56, 3) := by decide +kernel
theorem dX5_sends_70 : decode cX5_sends 70 = .ok (.ireturn, 1) := by decide +kernel
theorem dX5_sends_71 : decode cX5_sends 71 = .ok (.aload 6, 2) := by decide +kernel
theorem dX5_sends_73 : decode cX5_sends 73 = .ok (.getfield 64, 3) := by decide +kernel
theorem dX5_sends_76 : decode cX5_sends 76 = .ok (.iconst 2, 1) := by decide +kernel
theorem dX5_sends_77 : decode cX5_sends 77 = .ok (.if_icmp .ne 10, 3) := by decide +kernel
theorem dX5_sends_80 : decode cX5_sends 80 = .ok (.aload_n 0, 1) := by decide +kernel
theorem dX5_sends_81 : decode cX5_sends 81 = .ok (.bipush (-3), 2) := by decide +kernel
theorem dX5_sends_83 : decode cX5_sends 83 = .ok (.invokevirtual 56, 3) := by decide +kernel
theorem dX5_sends_86 : decode cX5_sends 86 = .ok (.ireturn, 1) := by decide +kernel
theorem dX5_sends_87 : decode cX5_sends 87 = .ok (.aload_n 0, 1) := by decide +kernel
theorem dX5_sends_88 : decode cX5_sends 88 = .ok (.getfield 11, 3) := by decide +kernel
theorem dX5_sends_91 : decode cX5_sends 91 = .ok (.iload_n 3, 1) := by decide +kernel
theorem dX5_sends_92 : decode cX5_sends 92 = .ok (.aaload, 1) := by decide +kernel
theorem dX5_sends_93 : decode cX5_sends 93 = .ok (.astore 7, 2) := by decide +kernel
theorem dX5_sends_95 : decode cX5_sends 95 = .ok (.aload 7, 2) := by decide +kernel
theorem dX5_sends_97 : decode cX5_sends 97 = .ok (.iload_n 1, 1) := by decide +kernel
theorem dX5_sends_98 : decode cX5_sends 98 = .ok (.iload_n 2, 1) := by decide +kernel
theorem dX5_sends_99 : decode cX5_sends 99 = .ok (.iload 4, 2) := by decide +kernel
theorem dX5_sends_101 : decode cX5_sends 101 = .ok (.invokevirtual 91, 3) := by decide +kernel
theorem dX5_sends_104 : decode cX5_sends 104 = .ok (.istore 8, 2) := by decide +kernel
theorem dX5_sends_106 : decode cX5_sends 106 = .ok (.iload 8, 2) := by decide +kernel
theorem dX5_sends_108 : decode cX5_sends 108 = .ok (.iconst (-1), 1) := by decide +kernel
theorem dX5_sends_109 : decode cX5_sends 109 = .ok (.if_icmp .eq 10, 3) := by decide +kernel
theorem dX5_sends_112 : decode cX5_sends 112 = .ok (.sipush 1000, 3) := by decide +kernel
theorem dX5_sends_115 : decode cX5_sends 115 = .ok (.iload 8, 2) := by decide +kernel
theorem dX5_sends_117 : decode cX5_sends 117 = .ok (.iadd, 1) := by decide +kernel
theorem dX5_sends_118 : decode cX5_sends 118 = .ok (.ireturn, 1) := by decide +kernel
theorem dX5_sends_119 : decode cX5_sends 119 = .ok (.iload 4, 2) := by decide +kernel
theorem dX5_sends_121 : decode cX5_sends 121 = .ok (.aload 7, 2) := by decide +kernel
theorem dX5_sends_123 : decode cX5_sends 123 = .ok (.iload_n 1, 1) := by decide +kernel
theorem dX5_sends_124 : decode cX5_sends 124 = .ok (.iload_n 2, 1) := by decide +kernel
theorem dX5_sends_125 : decode cX5_sends 125 = .ok (.invokevirtual 95, 3) := by decide +kernel
theorem dX5_sends_128 : decode cX5_sends 128 = .ok (.if_icmp .eq 10, 3) := by decide +kernel
theorem dX5_sends_131 : decode cX5_sends 131 = .ok (.aload_n 0, 1) := by decide +kernel
theorem dX5_sends_132 : decode cX5_sends 132 = .ok (.bipush (-7), 2) := by decide +kernel
theorem dX5_sends_134 : decode cX5_sends 134 = .ok (.invokevirtual 56, 3) := by decide +kernel
theorem dX5_sends_137 : decode cX5_sends 137 = .ok (.ireturn, 1) := by decide +kernel
theorem dX5_sends_138 : decode cX5_sends 138 = .ok (.aload 7, 2) := by decide +kernel
theorem dX5_sends_140 : decode cX5_sends 140 = .ok (.getfield 99, 3) := by decide +kernel
theorem dX5_sends_143 : decode cX5_sends 143 = .ok (.aload_n 0, 1) := by decide +kernel
theorem dX5_sends_144 : decode cX5_sends 144 = .ok (.iload_n 3, 1) := by decide +kernel
theorem dX5_sends_145 : decode cX5_sends 145 = .ok (.invokevirtual 102, 3) := by decide +kernel
theorem dX5_sends_148 : decode cX5_sends 148 = .ok (.iadd, 1) := by decide +kernel
theorem dX5_sends_149 : decode cX5_sends 149 = .ok (.bipush 48, 2) := by decide +kernel
theorem dX5_sends_151 : decode cX5_sends 151 = .ok (.if_icmp .lt 10, 3) := by decide +kernel
theorem dX5_sends_154 : decode cX5_sends 154 = .ok (.aload_n 0, 1) := by decide +kernel
theorem dX5_sends_155 : decode cX5_sends 155 = .ok (.bipush (-4), 2) := by decide +kernel
theorem dX5_sends_157 : decode cX5_sends 157 = .ok (.invokevirtual 56, 3) := by decide +kernel
theorem dX5_sends_160 : decode cX5_sends 160 = .ok (.ireturn, 1) := by decide +kernel
theorem dX5_sends_161 : decode cX5_sends 161 = .ok (.aload_n 0, 1) := by decide +kernel
theorem dX5_sends_162 : decode cX5_sends 162 = .ok (.invokevirtual 72, 3) := by decide +kernel
theorem dX5_sends_165 : decode cX5_sends 165 = .ok (.aload 6, 2) := by decide +kernel
theorem dX5_sends_167 : decode cX5_sends 167 = .ok (.getfield 64, 3) := by decide +kernel
theorem dX5_sends_170 : decode cX5_sends 170 = .ok (.iconst 1, 1) := by decide +kernel
theorem dX5_sends_171 : decode cX5_sends 171 = .ok (.if_icmp .ne 26, 3) := by decide +kernel
theorem dX5_sends_174 : decode cX5_sends 174 = .ok (.aload 6, 2) := by decide +kernel
theorem dX5_sends_176 : decode cX5_sends 176 = .ok (.getfield 105, 3) := by decide +kernel
theorem dX5_sends_179 : decode cX5_sends 179 = .ok (.iload_n 3, 1) := by decide +kernel
theorem dX5_sends_180 : decode cX5_sends 180 = .ok (.iaload, 1) := by decide +kernel
theorem dX5_sends_181 : decode cX5_sends 181 = .ok (.iconst (-1), 1) := by decide +kernel
theorem dX5_sends_182 : decode cX5_sends 182 = .ok (.if_icmp .ne 15, 3) := by decide +kernel
theorem dX5_sends_185 : decode cX5_sends 185 = .ok (.aload 6, 2) := by decide +kernel
theorem dX5_sends_187 : decode cX5_sends 187 = .ok (.getfield 105, 3) := by decide +kernel
theorem dX5_sends_190 : decode cX5_sends 190 = .ok (.iload_n 3, 1) := by decide +kernel
theorem dX5_sends_191 : decode cX5_sends 191 = .ok (.aload 7, 2) := by decide +kernel
theorem dX5_sends_193 : decode cX5_sends 193 = .ok (.getfield 99, 3) := by decide +kernel
theorem dX5_sends_196 : decode cX5_sends 196 = .ok (.iastore, 1) := by decide +kernel
theorem dX5_sends_197 : decode cX5_sends 197 = .ok (.aload 7, 2) := by decide +kernel
theorem dX5_sends_199 : decode cX5_sends 199 = .ok (.iload_n 1, 1) := by decide +kernel
theorem dX5_sends_200 : decode cX5_sends 200 = .ok (.iload_n 2, 1) := by decide +kernel
theorem dX5_sends_201 : decode cX5_sends 201 = .ok (.iload 4, 2) := by decide +kernel
theorem dX5_sends_203 : decode cX5_sends 203 = .ok (.iload 5, 2) := by decide +kernel
theorem dX5_sends_205 : decode cX5_sends 205 = .ok (.aload 6, 2) := by decide +kernel
theorem dX5_sends_207 : decode cX5_sends 207 = .ok (.getfield 105, 3) := by decide +kernel
theorem dX5_sends_210 : decode cX5_sends 210 = .ok (.iload_n 3, 1) := by decide +kernel
theorem dX5_sends_211 : decode cX5_sends 211 = .ok (.iaload, 1) := by decide +kernel
theorem dX5_sends_212 : decode cX5_sends 212 = .ok (.invokevirtual 108, 3) := by decide +kernel
theorem dX5_sends_215 : decode cX5_sends 215 = .ok (.ireturn, 1) := by decide +kernel
theorem dX5_ends_0 : decode cX5_ends 0 = .ok (.aload_n 0, 1) := by decide +kernel
theorem dX5_ends_1 : decode cX5_ends 1 = .ok (.iload_n 1, 1) := by decide +kernel
theorem dX5_ends_2 : decode cX5_ends 2 = .ok (.iload_n 2, 1) := by decide +kernel
theorem dX5_ends_3 : decode cX5_ends 3 = .ok (.invokevirtual 79, 3) := by decide +kernel
theorem dX5_ends_6 : decode cX5_ends 6 = .ok (.ifCond .ne 11, 3) := by decide +kernel
theorem dX5_ends_9 : decode cX5_ends 9 = .ok (.iload_n 3, 1) := by decide +kernel
theorem dX5_ends_10 : decode cX5_ends 10 = .ok (.iconst 2, 1) := by decide +kernel
theorem dX5_ends_11 : decode cX5_ends 11 = .ok (.invokestatic 52, 3) := by decide +kernel
theorem dX5_ends_14 : decode cX5_ends 14 = .ok (.ifCond .eq 10, 3) := by decide +kernel
theorem dX5_ends_17 : decode cX5_ends 17 = .ok (.aload_n 0, 1) := by decide +kernel
theorem dX5_ends_18 : decode cX5_ends 18 = .ok (.bipush (-2), 2) := by decide +kernel
theorem dX5_ends_20 : decode cX5_ends 20 = .ok (.invokevirtual 56, 3) := by decide +kernel
theorem dX5_ends_23 : decode cX5_ends 23 = .ok (.ireturn, 1) := by decide +kernel
theorem dX5_ends_24 : decode cX5_ends 24 = .ok (.aload_n 0, 1) := by decide +kernel
theorem dX5_ends_25 : decode cX5_ends 25 = .ok (.getfield 18, 3) := by decide +kernel
theorem dX5_ends_28 : decode cX5_ends 28 = .ok (.getfield 60, 3) := by decide +kernel
theorem dX5_ends_31 : decode cX5_ends 31 = .ok (.iload_n 1, 1) := by decide +kernel
theorem dX5_ends_32 : decode cX5_ends 32 = .ok (.aaload, 1) := by decide +kernel
theorem dX5_ends_33 : decode cX5_ends 33 = .ok (.astore 4, 2) := by decide +kernel
theorem dX5_ends_35 : decode cX5_ends 35 = .ok (.iload_n 2, 1) := by decide +kernel
theorem dX5_ends_36 : decode cX5_ends 36 = .ok (.aload 4, 2) := by decide +kernel
theorem dX5_ends_38 : decode cX5_ends 38 = .ok (.getfield 69, 3) := by decide +kernel
theorem dX5_ends_41 : decode cX5_ends 41 = .ok (.if_icmp .ge 10, 3) := by decide +kernel
theorem dX5_ends_44 : decode cX5_ends 44 = .ok (.aload_n 0, 1) := by decide +kernel
theorem dX5_ends_45 : decode cX5_ends 45 = .ok (.bipush (-6), 2) := by decide +kernel
theorem dX5_ends_47 : decode cX5_ends 47 = .ok (.invokevirtual 56, 3) := by decide +kernel
theorem dX5_ends_50 : decode cX5_ends 50 = .ok (.ireturn, 1) := by decide +kernel
theorem dX5_ends_51 : decode cX5_ends 51 = .ok (.aload 4, 2) := by decide +kernel
theorem dX5_ends_53 : decode cX5_ends 53 = .ok (.getfield 64, 3) := by decide +kernel
theorem dX5_ends_56 : decode cX5_ends 56 = .ok (.iconst 1, 1) := by decide +kernel
theorem dX5_ends_57 : decode cX5_ends 57 = .ok (.if_icmp .eq 10, 3) := by decide +kernel
theorem dX5_ends_60 : decode cX5_ends 60 = .ok (.aload_n 0, 1) := by decide +kernel
theorem dX5_ends_61 : decode cX5_ends 61 = .ok (.bipush (-3), 2) := by decide +kernel
theorem dX5_ends_63 : decode cX5_ends 63 = .ok (.invokevirtual 56, 3) := by decide +kernel
theorem dX5_ends_66 : decode cX5_ends 66 = .ok (.ireturn, 1) := by decide +kernel
theorem dX5_ends_67 : decode cX5_ends 67 = .ok (.aload_n 0, 1) := by decide +kernel
theorem dX5_ends_68 : decode cX5_ends 68 = .ok (.invokevirtual 72, 3) := by decide +kernel
theorem dX5_ends_71 : decode cX5_ends 71 = .ok (.aload_n 0, 1) := by decide +kernel
theorem dX5_ends_72 : decode cX5_ends 72 = .ok (.aload 4, 2) := by decide +kernel
theorem dX5_ends_74 : decode cX5_ends 74 = .ok (.iload_n 3, 1) := by decide +kernel
theorem dX5_ends_75 : decode cX5_ends 75 = .ok (.invokevirtual 75, 3) := by decide +kernel
theorem dX5_ends_78 : decode cX5_ends 78 = .ok (.ireturn, 1) := by decide +kernel
theorem dX5_carries_0 : decode cX5_carries 0 = .ok (.aload_n 0, 1) := by decide +kernel
theorem dX5_carries_1 : decode cX5_carries 1 = .ok (.iload_n 1, 1) := by decide +kernel
theorem dX5_carries_2 : decode cX5_carries 2 = .ok (.iload_n 2, 1) := by decide +kernel
theorem dX5_carries_3 : decode cX5_carries 3 = .ok (.invokevirtual 79, 3) := by decide +kernel
theorem dX5_carries_6 : decode cX5_carries 6 = .ok (.ifCond .ne 20, 3) := by decide +kernel
theorem dX5_carries_9 : decode cX5_carries 9 = .ok (.iload_n 3, 1) := by decide +kernel
theorem dX5_carries_10 : decode cX5_carries 10 = .ok (.iconst 2, 1) := by decide +kernel
theorem dX5_carries_11 : decode cX5_carries 11 = .ok (.invokestatic 52, 3) := by decide +kernel
theorem dX5_carries_14 : decode cX5_carries 14 = .ok (.ifCond .ne 12, 3) := by decide +kernel
theorem dX5_carries_17 : decode cX5_carries 17 = .ok (.iload 4, 2) := by decide +kernel
theorem dX5_carries_19 : decode cX5_carries 19 = .ok (.iconst 3, 1) := by decide +kernel
theorem dX5_carries_20 : decode cX5_carries 20 = .ok (.invokestatic 52, 3) := by decide +kernel
theorem dX5_carries_23 : decode cX5_carries 23 = .ok (.ifCond .eq 10, 3) := by decide +kernel
theorem dX5_carries_26 : decode cX5_carries 26 = .ok (.aload_n 0, 1) := by decide +kernel
theorem dX5_carries_27 : decode cX5_carries 27 = .ok (.bipush (-2), 2) := by decide +kernel
theorem dX5_carries_29 : decode cX5_carries 29 = .ok (.invokevirtual 56, 3) := by decide +kernel
theorem dX5_carries_32 : decode cX5_carries 32 = .ok (.ireturn, 1) := by decide +kernel
theorem dX5_carries_33 : decode cX5_carries 33 = .ok (.aload_n 0, 1) := by decide +kernel
theorem dX5_carries_34 : decode cX5_carries 34 = .ok (.getfield 18, 3) := by decide +kernel
theorem dX5_carries_37 : decode cX5_carries 37 = .ok (.getfield 60, 3) := by decide +kernel
theorem dX5_carries_40 : decode cX5_carries 40 = .ok (.iload_n 1, 1) := by decide +kernel
theorem dX5_carries_41 : decode cX5_carries 41 = .ok (.aaload, 1) := by decide +kernel
theorem dX5_carries_42 : decode cX5_carries 42 = .ok (.astore 5, 2) := by decide +kernel
theorem dX5_carries_44 : decode cX5_carries 44 = .ok (.iload_n 2, 1) := by decide +kernel
theorem dX5_carries_45 : decode cX5_carries 45 = .ok (.aload 5, 2) := by decide +kernel
theorem dX5_carries_47 : decode cX5_carries 47 = .ok (.getfield 69, 3) := by decide +kernel
theorem dX5_carries_50 : decode cX5_carries 50 = .ok (.if_icmp .ge 10, 3) := by decide +kernel
theorem dX5_carries_53 : decode cX5_carries 53 = .ok (.aload_n 0, 1) := by decide +kernel
theorem dX5_carries_54 : decode cX5_carries 54 = .ok (.bipush (-6), 2) := by decide +kernel
theorem dX5_carries_56 : decode cX5_carries 56 = .ok (.invokevirtual 56, 3) := by decide +kernel
theorem dX5_carries_59 : decode cX5_carries 59 = .ok (.ireturn, 1) := by decide +kernel
theorem dX5_carries_60 : decode cX5_carries 60 = .ok (.aload 5, 2) := by decide +kernel
theorem dX5_carries_62 : decode cX5_carries 62 = .ok (.getfield 64, 3) := by decide +kernel
theorem dX5_carries_65 : decode cX5_carries 65 = .ok (.iconst 1, 1) := by decide +kernel
theorem dX5_carries_66 : decode cX5_carries 66 = .ok (.if_icmp .eq 10, 3) := by decide +kernel
theorem dX5_carries_69 : decode cX5_carries 69 = .ok (.aload_n 0, 1) := by decide +kernel
theorem dX5_carries_70 : decode cX5_carries 70 = .ok (.bipush (-3), 2) := by decide +kernel
theorem dX5_carries_72 : decode cX5_carries 72 = .ok (.invokevirtual 56, 3) := by decide +kernel
theorem dX5_carries_75 : decode cX5_carries 75 = .ok (.ireturn, 1) := by decide +kernel
theorem dX5_carries_76 : decode cX5_carries 76 = .ok (.aload_n 0, 1) := by decide +kernel
theorem dX5_carries_77 : decode cX5_carries 77 = .ok (.invokevirtual 72, 3) := by decide +kernel
theorem dX5_carries_80 : decode cX5_carries 80 = .ok (.aload_n 0, 1) := by decide +kernel
theorem dX5_carries_81 : decode cX5_carries 81 = .ok (.getfield 18, 3) := by decide +kernel
theorem dX5_carries_84 : decode cX5_carries 84 = .ok (.getfield 112, 3) := by decide +kernel
theorem dX5_carries_87 : decode cX5_carries 87 = .ok (.iload_n 3, 1) := by decide +kernel
theorem dX5_carries_88 : decode cX5_carries 88 = .ok (.aaload, 1) := by decide +kernel
theorem dX5_carries_89 : decode cX5_carries 89 = .ok (.getfield 116, 3) := by decide +kernel
theorem dX5_carries_92 : decode cX5_carries 92 = .ok (.iload 4, 2) := by decide +kernel
theorem dX5_carries_94 : decode cX5_carries 94 = .ok (.iaload, 1) := by decide +kernel
theorem dX5_carries_95 : decode cX5_carries 95 = .ok (.istore 6, 2) := by decide +kernel
theorem dX5_carries_97 : decode cX5_carries 97 = .ok (.aload 5, 2) := by decide +kernel
theorem dX5_carries_99 : decode cX5_carries 99 = .ok (.getfield 121, 3) := by decide +kernel
theorem dX5_carries_102 : decode cX5_carries 102 = .ok (.iload_n 3, 1) := by decide +kernel
theorem dX5_carries_103 : decode cX5_carries 103 = .ok (.iconst 3, 1) := by decide +kernel
theorem dX5_carries_104 : decode cX5_carries 104 = .ok (.imul, 1) := by decide +kernel
theorem dX5_carries_105 : decode cX5_carries 105 = .ok (.iload 4, 2) := by decide +kernel
theorem dX5_carries_107 : decode cX5_carries 107 = .ok (.iadd, 1) := by decide +kernel
theorem dX5_carries_108 : decode cX5_carries 108 = .ok (.iload 6, 2) := by decide +kernel
theorem dX5_carries_110 : decode cX5_carries 110 = .ok (.iastore, 1) := by decide +kernel
theorem dX5_carries_111 : decode cX5_carries 111 = .ok (.iload 6, 2) := by decide +kernel
theorem dX5_carries_113 : decode cX5_carries 113 = .ok (.ireturn, 1) := by decide +kernel
theorem dX5_ticks_0 : decode cX5_ticks 0 = .ok (.iload_n 1, 1) := by decide +kernel
theorem dX5_ticks_1 : decode cX5_ticks 1 = .ok (.iconst 1, 1) := by decide +kernel
theorem dX5_ticks_2 : decode cX5_ticks 2 = .ok (.if_icmp .lt 9, 3) := by decide +kernel
theorem dX5_ticks_5 : decode cX5_ticks 5 = .ok (.iload_n 1, 1) := by decide +kernel
theorem dX5_ticks_6 : decode cX5_ticks 6 = .ok (.bipush 20, 2) := by decide +kernel
theorem dX5_ticks_8 : decode cX5_ticks 8 = .ok (.if_icmp .le 10, 3) := by decide +kernel
theorem dX5_ticks_11 : decode cX5_ticks 11 = .ok (.aload_n 0, 1) := by decide +kernel
theorem dX5_ticks_12 : decode cX5_ticks 12 = .ok (.bipush (-2), 2) := by decide +kernel
theorem dX5_ticks_14 : decode cX5_ticks 14 = .ok (.invokevirtual 56, 3) := by decide +kernel
theorem dX5_ticks_17 : decode cX5_ticks 17 = .ok (.ireturn, 1) := by decide +kernel
theorem dX5_ticks_18 : decode cX5_ticks 18 = .ok (.aload_n 0, 1) := by decide +kernel
theorem dX5_ticks_19 : decode cX5_ticks 19 = .ok (.invokevirtual 72, 3) := by decide +kernel
theorem dX5_ticks_22 : decode cX5_ticks 22 = .ok (.iconst 0, 1) := by decide +kernel
theorem dX5_ticks_23 : decode cX5_ticks 23 = .ok (.istore_n 2, 1) := by decide +kernel
theorem dX5_ticks_24 : decode cX5_ticks 24 = .ok (.iconst 0, 1) := by decide +kernel
theorem dX5_ticks_25 : decode cX5_ticks 25 = .ok (.istore_n 3, 1) := by decide +kernel
theorem dX5_ticks_26 : decode cX5_ticks 26 = .ok (.iload_n 3, 1) := by decide +kernel
theorem dX5_ticks_27 : decode cX5_ticks 27 = .ok (.iload_n 1, 1) := by decide +kernel
theorem dX5_ticks_28 : decode cX5_ticks 28 = .ok (.if_icmp .ge 33, 3) := by decide +kernel
theorem dX5_ticks_31 : decode cX5_ticks 31 = .ok (.aload_n 0, 1) := by decide +kernel
theorem dX5_ticks_32 : decode cX5_ticks 32 = .ok (.getfield 18, 3) := by decide +kernel
theorem dX5_ticks_35 : decode cX5_ticks 35 = .ok (.dup, 1) := by decide +kernel
theorem dX5_ticks_36 : decode cX5_ticks 36 = .ok (.getfield 82, 3) := by decide +kernel
theorem dX5_ticks_39 : decode cX5_ticks 39 = .ok (.iconst 1, 1) := by decide +kernel
theorem dX5_ticks_40 : decode cX5_ticks 40 = .ok (.iadd, 1) := by decide +kernel
theorem dX5_ticks_41 : decode cX5_ticks 41 = .ok (.putfield 82, 3) := by decide +kernel
theorem dX5_ticks_44 : decode cX5_ticks 44 = .ok (.iload_n 2, 1) := by decide +kernel
theorem dX5_ticks_45 : decode cX5_ticks 45 = .ok (.aload_n 0, 1) := by decide +kernel
theorem dX5_ticks_46 : decode cX5_ticks 46 = .ok (.invokevirtual 124, 3) := by decide +kernel
theorem dX5_ticks_49 : decode cX5_ticks 49 = .ok (.iadd, 1) := by decide +kernel
theorem dX5_ticks_50 : decode cX5_ticks 50 = .ok (.istore_n 2, 1) := by decide +kernel
theorem dX5_ticks_51 : decode cX5_ticks 51 = .ok (.aload_n 0, 1) := by decide +kernel
theorem dX5_ticks_52 : decode cX5_ticks 52 = .ok (.invokevirtual 128, 3) := by decide +kernel
theorem dX5_ticks_55 : decode cX5_ticks 55 = .ok (.iinc 3 1, 3) := by decide +kernel
theorem dX5_ticks_58 : decode cX5_ticks 58 = .ok (.goto (-32), 3) := by decide +kernel
theorem dX5_ticks_61 : decode cX5_ticks 61 = .ok (.iload_n 2, 1) := by decide +kernel
theorem dX5_ticks_62 : decode cX5_ticks 62 = .ok (.ireturn, 1) := by decide +kernel
theorem dX5_limit_0 : decode cX5_limit 0 = .ok (.iload_n 1, 1) := by decide +kernel
theorem dX5_limit_1 : decode cX5_limit 1 = .ok (.iconst 1, 1) := by decide +kernel
theorem dX5_limit_2 : decode cX5_limit 2 = .ok (.if_icmp .lt 9, 3) := by decide +kernel
theorem dX5_limit_5 : decode cX5_limit 5 = .ok (.iload_n 1, 1) := by decide +kernel
theorem dX5_limit_6 : decode cX5_limit 6 = .ok (.bipush 20, 2) := by decide +kernel
theorem dX5_limit_8 : decode cX5_limit 8 = .ok (.if_icmp .le 10, 3) := by decide +kernel
theorem dX5_limit_11 : decode cX5_limit 11 = .ok (.aload_n 0, 1) := by decide +kernel
theorem dX5_limit_12 : decode cX5_limit 12 = .ok (.bipush (-2), 2) := by decide +kernel
theorem dX5_limit_14 : decode cX5_limit 14 = .ok (.invokevirtual 56, 3) := by decide +kernel
theorem dX5_limit_17 : decode cX5_limit 17 = .ok (.ireturn, 1) := by decide +kernel
theorem dX5_limit_18 : decode cX5_limit 18 = .ok (.aload_n 0, 1) := by decide +kernel
theorem dX5_limit_19 : decode cX5_limit 19 = .ok (.invokevirtual 72, 3) := by decide +kernel
theorem dX5_limit_22 : decode cX5_limit 22 = .ok (.aload_n 0, 1) := by decide +kernel
theorem dX5_limit_23 : decode cX5_limit 23 = .ok (.getfield 18, 3) := by decide +kernel
theorem dX5_limit_26 : decode cX5_limit 26 = .ok (.getfield 131, 3) := by decide +kernel
theorem dX5_limit_29 : decode cX5_limit 29 = .ok (.istore_n 2, 1) := by decide +kernel
theorem dX5_limit_30 : decode cX5_limit 30 = .ok (.aload_n 0, 1) := by decide +kernel
theorem dX5_limit_31 : decode cX5_limit 31 = .ok (.getfield 18, 3) := by decide +kernel
theorem dX5_limit_34 : decode cX5_limit 34 = .ok (.iload_n 1, 1) := by decide +kernel
theorem dX5_limit_35 : decode cX5_limit 35 = .ok (.putfield 131, 3) := by decide +kernel
theorem dX5_limit_38 : decode cX5_limit 38 = .ok (.iload_n 2, 1) := by decide +kernel
theorem dX5_limit_39 : decode cX5_limit 39 = .ok (.ireturn, 1) := by decide +kernel
theorem dX5_writer_0 : decode cX5_writer 0 = .ok (.iload_n 1, 1) := by decide +kernel
theorem dX5_writer_1 : decode cX5_writer 1 = .ok (.iconst 4, 1) := by decide +kernel
theorem dX5_writer_2 : decode cX5_writer 2 = .ok (.invokestatic 52, 3) := by decide +kernel
theorem dX5_writer_5 : decode cX5_writer 5 = .ok (.ifCond .ne 12, 3) := by decide +kernel
theorem dX5_writer_8 : decode cX5_writer 8 = .ok (.iload_n 2, 1) := by decide +kernel
theorem dX5_writer_9 : decode cX5_writer 9 = .ok (.bipush 9, 2) := by decide +kernel
theorem dX5_writer_11 : decode cX5_writer 11 = .ok (.invokestatic 52, 3) := by decide +kernel
theorem dX5_writer_14 : decode cX5_writer 14 = .ok (.ifCond .eq 10, 3) := by decide +kernel
theorem dX5_writer_17 : decode cX5_writer 17 = .ok (.aload_n 0, 1) := by decide +kernel
theorem dX5_writer_18 : decode cX5_writer 18 = .ok (.bipush (-2), 2) := by decide +kernel
theorem dX5_writer_20 : decode cX5_writer 20 = .ok (.invokevirtual 56, 3) := by decide +kernel
theorem dX5_writer_23 : decode cX5_writer 23 = .ok (.ireturn, 1) := by decide +kernel
theorem dX5_writer_24 : decode cX5_writer 24 = .ok (.aload_n 0, 1) := by decide +kernel
theorem dX5_writer_25 : decode cX5_writer 25 = .ok (.getfield 18, 3) := by decide +kernel
theorem dX5_writer_28 : decode cX5_writer 28 = .ok (.getfield 60, 3) := by decide +kernel
theorem dX5_writer_31 : decode cX5_writer 31 = .ok (.iload_n 1, 1) := by decide +kernel
theorem dX5_writer_32 : decode cX5_writer 32 = .ok (.aaload, 1) := by decide +kernel
theorem dX5_writer_33 : decode cX5_writer 33 = .ok (.astore_n 3, 1) := by decide +kernel
theorem dX5_writer_34 : decode cX5_writer 34 = .ok (.iload_n 2, 1) := by decide +kernel
theorem dX5_writer_35 : decode cX5_writer 35 = .ok (.tableswitch 87 0 5 #[37, 42, 47, 52, 57, 62], 37) := by decide +kernel
theorem dX5_writer_72 : decode cX5_writer 72 = .ok (.aload_n 3, 1) := by decide +kernel
theorem dX5_writer_73 : decode cX5_writer 73 = .ok (.getfield 69, 3) := by decide +kernel
theorem dX5_writer_76 : decode cX5_writer 76 = .ok (.ireturn, 1) := by decide +kernel
theorem dX5_writer_77 : decode cX5_writer 77 = .ok (.aload_n 3, 1) := by decide +kernel
theorem dX5_writer_78 : decode cX5_writer 78 = .ok (.getfield 64, 3) := by decide +kernel
theorem dX5_writer_81 : decode cX5_writer 81 = .ok (.ireturn, 1) := by decide +kernel
theorem dX5_writer_82 : decode cX5_writer 82 = .ok (.aload_n 3, 1) := by decide +kernel
theorem dX5_writer_83 : decode cX5_writer 83 = .ok (.invokevirtual 134, 3) := by decide +kernel
theorem dX5_writer_86 : decode cX5_writer 86 = .ok (.ireturn, 1) := by decide +kernel
theorem dX5_writer_87 : decode cX5_writer 87 = .ok (.aload_n 3, 1) := by decide +kernel
theorem dX5_writer_88 : decode cX5_writer 88 = .ok (.invokevirtual 137, 3) := by decide +kernel
theorem dX5_writer_91 : decode cX5_writer 91 = .ok (.ireturn, 1) := by decide +kernel
theorem dX5_writer_92 : decode cX5_writer 92 = .ok (.aload_n 3, 1) := by decide +kernel
theorem dX5_writer_93 : decode cX5_writer 93 = .ok (.getfield 140, 3) := by decide +kernel
theorem dX5_writer_96 : decode cX5_writer 96 = .ok (.ireturn, 1) := by decide +kernel
theorem dX5_writer_97 : decode cX5_writer 97 = .ok (.aload_n 3, 1) := by decide +kernel
theorem dX5_writer_98 : decode cX5_writer 98 = .ok (.getfield 64, 3) := by decide +kernel
theorem dX5_writer_101 : decode cX5_writer 101 = .ok (.iconst 1, 1) := by decide +kernel
theorem dX5_writer_102 : decode cX5_writer 102 = .ok (.if_icmp .ne 18, 3) := by decide +kernel
theorem dX5_writer_105 : decode cX5_writer 105 = .ok (.aload_n 0, 1) := by decide +kernel
theorem dX5_writer_106 : decode cX5_writer 106 = .ok (.getfield 18, 3) := by decide +kernel
theorem dX5_writer_109 : decode cX5_writer 109 = .ok (.getfield 82, 3) := by decide +kernel
theorem dX5_writer_112 : decode cX5_writer 112 = .ok (.aload_n 3, 1) := by decide +kernel
end
section
theorem dX5_writer_113 : decode cX5_writer 113 = .ok (.getfield 85, 3) := by decide +kernel
theorem dX5_writer_116 : decode cX5_writer 116 = .ok (.isub, 1) := by decide +kernel
theorem dX5_writer_117 : decode cX5_writer 117 = .ok (.goto 4, 3) := by decide +kernel
theorem dX5_writer_120 : decode cX5_writer 120 = .ok (.iconst (-1), 1) := by decide +kernel
theorem dX5_writer_121 : decode cX5_writer 121 = .ok (.ireturn, 1) := by decide +kernel
theorem dX5_writer_122 : decode cX5_writer 122 = .ok (.aload_n 0, 1) := by decide +kernel
theorem dX5_writer_123 : decode cX5_writer 123 = .ok (.getfield 11, 3) := by decide +kernel
theorem dX5_writer_126 : decode cX5_writer 126 = .ok (.iload_n 2, 1) := by decide +kernel
theorem dX5_writer_127 : decode cX5_writer 127 = .ok (.bipush 6, 2) := by decide +kernel
theorem dX5_writer_129 : decode cX5_writer 129 = .ok (.isub, 1) := by decide +kernel
theorem dX5_writer_130 : decode cX5_writer 130 = .ok (.aaload, 1) := by decide +kernel
theorem dX5_writer_131 : decode cX5_writer 131 = .ok (.iload_n 1, 1) := by decide +kernel
theorem dX5_writer_132 : decode cX5_writer 132 = .ok (.aload_n 3, 1) := by decide +kernel
theorem dX5_writer_133 : decode cX5_writer 133 = .ok (.getfield 69, 3) := by decide +kernel
theorem dX5_writer_136 : decode cX5_writer 136 = .ok (.invokevirtual 95, 3) := by decide +kernel
theorem dX5_writer_139 : decode cX5_writer 139 = .ok (.ireturn, 1) := by decide +kernel
theorem dX5_entry_0 : decode cX5_entry 0 = .ok (.iload_n 1, 1) := by decide +kernel
theorem dX5_entry_1 : decode cX5_entry 1 = .ok (.iconst 3, 1) := by decide +kernel
theorem dX5_entry_2 : decode cX5_entry 2 = .ok (.invokestatic 52, 3) := by decide +kernel
theorem dX5_entry_5 : decode cX5_entry 5 = .ok (.ifCond .ne 28, 3) := by decide +kernel
theorem dX5_entry_8 : decode cX5_entry 8 = .ok (.iload_n 2, 1) := by decide +kernel
theorem dX5_entry_9 : decode cX5_entry 9 = .ok (.aload_n 0, 1) := by decide +kernel
theorem dX5_entry_10 : decode cX5_entry 10 = .ok (.getfield 11, 3) := by decide +kernel
theorem dX5_entry_13 : decode cX5_entry 13 = .ok (.iload_n 1, 1) := by decide +kernel
theorem dX5_entry_14 : decode cX5_entry 14 = .ok (.aaload, 1) := by decide +kernel
theorem dX5_entry_15 : decode cX5_entry 15 = .ok (.getfield 99, 3) := by decide +kernel
theorem dX5_entry_18 : decode cX5_entry 18 = .ok (.invokestatic 52, 3) := by decide +kernel
theorem dX5_entry_21 : decode cX5_entry 21 = .ok (.ifCond .ne 12, 3) := by decide +kernel
theorem dX5_entry_24 : decode cX5_entry 24 = .ok (.iload_n 3, 1) := by decide +kernel
theorem dX5_entry_25 : decode cX5_entry 25 = .ok (.bipush 7, 2) := by decide +kernel
theorem dX5_entry_27 : decode cX5_entry 27 = .ok (.invokestatic 52, 3) := by decide +kernel
theorem dX5_entry_30 : decode cX5_entry 30 = .ok (.ifCond .eq 10, 3) := by decide +kernel
theorem dX5_entry_33 : decode cX5_entry 33 = .ok (.aload_n 0, 1) := by decide +kernel
theorem dX5_entry_34 : decode cX5_entry 34 = .ok (.bipush (-2), 2) := by decide +kernel
theorem dX5_entry_36 : decode cX5_entry 36 = .ok (.invokevirtual 56, 3) := by decide +kernel
theorem dX5_entry_39 : decode cX5_entry 39 = .ok (.ireturn, 1) := by decide +kernel
theorem dX5_entry_40 : decode cX5_entry 40 = .ok (.aload_n 0, 1) := by decide +kernel
theorem dX5_entry_41 : decode cX5_entry 41 = .ok (.getfield 11, 3) := by decide +kernel
theorem dX5_entry_44 : decode cX5_entry 44 = .ok (.iload_n 1, 1) := by decide +kernel
theorem dX5_entry_45 : decode cX5_entry 45 = .ok (.aaload, 1) := by decide +kernel
theorem dX5_entry_46 : decode cX5_entry 46 = .ok (.astore 4, 2) := by decide +kernel
theorem dX5_entry_48 : decode cX5_entry 48 = .ok (.iload_n 3, 1) := by decide +kernel
theorem dX5_entry_49 : decode cX5_entry 49 = .ok (.tableswitch 93 0 5 #[39, 54, 62, 70, 78, 86], 39) := by decide +kernel
theorem dX5_entry_88 : decode cX5_entry 88 = .ok (.aload 4, 2) := by decide +kernel
theorem dX5_entry_90 : decode cX5_entry 90 = .ok (.iload_n 2, 1) := by decide +kernel
theorem dX5_entry_91 : decode cX5_entry 91 = .ok (.invokevirtual 143, 3) := by decide +kernel
theorem dX5_entry_94 : decode cX5_entry 94 = .ok (.ifCond .eq 7, 3) := by decide +kernel
theorem dX5_entry_97 : decode cX5_entry 97 = .ok (.iconst 1, 1) := by decide +kernel
theorem dX5_entry_98 : decode cX5_entry 98 = .ok (.goto 4, 3) := by decide +kernel
theorem dX5_entry_101 : decode cX5_entry 101 = .ok (.iconst 0, 1) := by decide +kernel
theorem dX5_entry_102 : decode cX5_entry 102 = .ok (.ireturn, 1) := by decide +kernel
theorem dX5_entry_103 : decode cX5_entry 103 = .ok (.aload 4, 2) := by decide +kernel
theorem dX5_entry_105 : decode cX5_entry 105 = .ok (.getfield 147, 3) := by decide +kernel
theorem dX5_entry_108 : decode cX5_entry 108 = .ok (.iload_n 2, 1) := by decide +kernel
theorem dX5_entry_109 : decode cX5_entry 109 = .ok (.iaload, 1) := by decide +kernel
theorem dX5_entry_110 : decode cX5_entry 110 = .ok (.ireturn, 1) := by decide +kernel
theorem dX5_entry_111 : decode cX5_entry 111 = .ok (.aload 4, 2) := by decide +kernel
theorem dX5_entry_113 : decode cX5_entry 113 = .ok (.getfield 150, 3) := by decide +kernel
theorem dX5_entry_116 : decode cX5_entry 116 = .ok (.iload_n 2, 1) := by decide +kernel
theorem dX5_entry_117 : decode cX5_entry 117 = .ok (.iaload, 1) := by decide +kernel
theorem dX5_entry_118 : decode cX5_entry 118 = .ok (.ireturn, 1) := by decide +kernel
theorem dX5_entry_119 : decode cX5_entry 119 = .ok (.aload 4, 2) := by decide +kernel
theorem dX5_entry_121 : decode cX5_entry 121 = .ok (.getfield 152, 3) := by decide +kernel
theorem dX5_entry_124 : decode cX5_entry 124 = .ok (.iload_n 2, 1) := by decide +kernel
theorem dX5_entry_125 : decode cX5_entry 125 = .ok (.iaload, 1) := by decide +kernel
theorem dX5_entry_126 : decode cX5_entry 126 = .ok (.ireturn, 1) := by decide +kernel
theorem dX5_entry_127 : decode cX5_entry 127 = .ok (.aload 4, 2) := by decide +kernel
theorem dX5_entry_129 : decode cX5_entry 129 = .ok (.getfield 155, 3) := by decide +kernel
theorem dX5_entry_132 : decode cX5_entry 132 = .ok (.iload_n 2, 1) := by decide +kernel
theorem dX5_entry_133 : decode cX5_entry 133 = .ok (.iaload, 1) := by decide +kernel
theorem dX5_entry_134 : decode cX5_entry 134 = .ok (.ireturn, 1) := by decide +kernel
theorem dX5_entry_135 : decode cX5_entry 135 = .ok (.aload 4, 2) := by decide +kernel
theorem dX5_entry_137 : decode cX5_entry 137 = .ok (.iload_n 2, 1) := by decide +kernel
theorem dX5_entry_138 : decode cX5_entry 138 = .ok (.invokevirtual 158, 3) := by decide +kernel
theorem dX5_entry_141 : decode cX5_entry 141 = .ok (.ireturn, 1) := by decide +kernel
theorem dX5_entry_142 : decode cX5_entry 142 = .ok (.aload 4, 2) := by decide +kernel
theorem dX5_entry_144 : decode cX5_entry 144 = .ok (.iload_n 2, 1) := by decide +kernel
theorem dX5_entry_145 : decode cX5_entry 145 = .ok (.aload_n 0, 1) := by decide +kernel
theorem dX5_entry_146 : decode cX5_entry 146 = .ok (.iload_n 1, 1) := by decide +kernel
theorem dX5_entry_147 : decode cX5_entry 147 = .ok (.invokevirtual 161, 3) := by decide +kernel
theorem dX5_entry_150 : decode cX5_entry 150 = .ok (.invokevirtual 164, 3) := by decide +kernel
theorem dX5_entry_153 : decode cX5_entry 153 = .ok (.ifCond .eq 7, 3) := by decide +kernel
theorem dX5_entry_156 : decode cX5_entry 156 = .ok (.iconst 1, 1) := by decide +kernel
theorem dX5_entry_157 : decode cX5_entry 157 = .ok (.goto 4, 3) := by decide +kernel
theorem dX5_entry_160 : decode cX5_entry 160 = .ok (.iconst 0, 1) := by decide +kernel
theorem dX5_entry_161 : decode cX5_entry 161 = .ok (.ireturn, 1) := by decide +kernel
theorem dX5_part_0 : decode cX5_part 0 = .ok (.iload_n 1, 1) := by decide +kernel
theorem dX5_part_1 : decode cX5_part 1 = .ok (.iconst 3, 1) := by decide +kernel
theorem dX5_part_2 : decode cX5_part 2 = .ok (.invokestatic 52, 3) := by decide +kernel
theorem dX5_part_5 : decode cX5_part 5 = .ok (.ifCond .ne 12, 3) := by decide +kernel
theorem dX5_part_8 : decode cX5_part 8 = .ok (.iload_n 2, 1) := by decide +kernel
theorem dX5_part_9 : decode cX5_part 9 = .ok (.bipush 6, 2) := by decide +kernel
theorem dX5_part_11 : decode cX5_part 11 = .ok (.invokestatic 52, 3) := by decide +kernel
theorem dX5_part_14 : decode cX5_part 14 = .ok (.ifCond .eq 10, 3) := by decide +kernel
theorem dX5_part_17 : decode cX5_part 17 = .ok (.aload_n 0, 1) := by decide +kernel
theorem dX5_part_18 : decode cX5_part 18 = .ok (.bipush (-2), 2) := by decide +kernel
theorem dX5_part_20 : decode cX5_part 20 = .ok (.invokevirtual 56, 3) := by decide +kernel
theorem dX5_part_23 : decode cX5_part 23 = .ok (.ireturn, 1) := by decide +kernel
theorem dX5_part_24 : decode cX5_part 24 = .ok (.iload_n 2, 1) := by decide +kernel
theorem dX5_part_25 : decode cX5_part 25 = .ok (.tableswitch 79 0 4 #[35, 45, 51, 67, 73], 35) := by decide +kernel
theorem dX5_part_60 : decode cX5_part 60 = .ok (.aload_n 0, 1) := by decide +kernel
theorem dX5_part_61 : decode cX5_part 61 = .ok (.getfield 11, 3) := by decide +kernel
theorem dX5_part_64 : decode cX5_part 64 = .ok (.iload_n 1, 1) := by decide +kernel
theorem dX5_part_65 : decode cX5_part 65 = .ok (.aaload, 1) := by decide +kernel
theorem dX5_part_66 : decode cX5_part 66 = .ok (.getfield 99, 3) := by decide +kernel
theorem dX5_part_69 : decode cX5_part 69 = .ok (.ireturn, 1) := by decide +kernel
theorem dX5_part_70 : decode cX5_part 70 = .ok (.aload_n 0, 1) := by decide +kernel
theorem dX5_part_71 : decode cX5_part 71 = .ok (.iload_n 1, 1) := by decide +kernel
theorem dX5_part_72 : decode cX5_part 72 = .ok (.invokevirtual 161, 3) := by decide +kernel
theorem dX5_part_75 : decode cX5_part 75 = .ok (.ireturn, 1) := by decide +kernel
theorem dX5_part_76 : decode cX5_part 76 = .ok (.aload_n 0, 1) := by decide +kernel
theorem dX5_part_77 : decode cX5_part 77 = .ok (.getfield 11, 3) := by decide +kernel
theorem dX5_part_80 : decode cX5_part 80 = .ok (.iload_n 1, 1) := by decide +kernel
theorem dX5_part_81 : decode cX5_part 81 = .ok (.aaload, 1) := by decide +kernel
theorem dX5_part_82 : decode cX5_part 82 = .ok (.iconst 0, 1) := by decide +kernel
theorem dX5_part_83 : decode cX5_part 83 = .ok (.aload_n 0, 1) := by decide +kernel
theorem dX5_part_84 : decode cX5_part 84 = .ok (.iload_n 1, 1) := by decide +kernel
theorem dX5_part_85 : decode cX5_part 85 = .ok (.invokevirtual 161, 3) := by decide +kernel
theorem dX5_part_88 : decode cX5_part 88 = .ok (.invokevirtual 167, 3) := by decide +kernel
theorem dX5_part_91 : decode cX5_part 91 = .ok (.ireturn, 1) := by decide +kernel
theorem dX5_part_92 : decode cX5_part 92 = .ok (.aload_n 0, 1) := by decide +kernel
theorem dX5_part_93 : decode cX5_part 93 = .ok (.iload_n 1, 1) := by decide +kernel
theorem dX5_part_94 : decode cX5_part 94 = .ok (.invokevirtual 102, 3) := by decide +kernel
theorem dX5_part_97 : decode cX5_part 97 = .ok (.ireturn, 1) := by decide +kernel
theorem dX5_part_98 : decode cX5_part 98 = .ok (.aload_n 0, 1) := by decide +kernel
theorem dX5_part_99 : decode cX5_part 99 = .ok (.iload_n 1, 1) := by decide +kernel
theorem dX5_part_100 : decode cX5_part 100 = .ok (.invokevirtual 170, 3) := by decide +kernel
theorem dX5_part_103 : decode cX5_part 103 = .ok (.ireturn, 1) := by decide +kernel
theorem dX5_part_104 : decode cX5_part 104 = .ok (.aload_n 0, 1) := by decide +kernel
theorem dX5_part_105 : decode cX5_part 105 = .ok (.getfield 11, 3) := by decide +kernel
theorem dX5_part_108 : decode cX5_part 108 = .ok (.iload_n 1, 1) := by decide +kernel
theorem dX5_part_109 : decode cX5_part 109 = .ok (.aaload, 1) := by decide +kernel
theorem dX5_part_110 : decode cX5_part 110 = .ok (.invokevirtual 173, 3) := by decide +kernel
theorem dX5_part_113 : decode cX5_part 113 = .ok (.ireturn, 1) := by decide +kernel
theorem dX5_aborted_0 : decode cX5_aborted 0 = .ok (.iload_n 1, 1) := by decide +kernel
theorem dX5_aborted_1 : decode cX5_aborted 1 = .ok (.iconst 3, 1) := by decide +kernel
theorem dX5_aborted_2 : decode cX5_aborted 2 = .ok (.invokestatic 52, 3) := by decide +kernel
theorem dX5_aborted_5 : decode cX5_aborted 5 = .ok (.ifCond .ne 15, 3) := by decide +kernel
theorem dX5_aborted_8 : decode cX5_aborted 8 = .ok (.iload_n 2, 1) := by decide +kernel
theorem dX5_aborted_9 : decode cX5_aborted 9 = .ok (.ifCond .lt 11, 3) := by decide +kernel
theorem dX5_aborted_12 : decode cX5_aborted 12 = .ok (.iload_n 3, 1) := by decide +kernel
theorem dX5_aborted_13 : decode cX5_aborted 13 = .ok (.iconst 3, 1) := by decide +kernel
theorem dX5_aborted_14 : decode cX5_aborted 14 = .ok (.invokestatic 52, 3) := by decide +kernel
theorem dX5_aborted_17 : decode cX5_aborted 17 = .ok (.ifCond .eq 10, 3) := by decide +kernel
theorem dX5_aborted_20 : decode cX5_aborted 20 = .ok (.aload_n 0, 1) := by decide +kernel
theorem dX5_aborted_21 : decode cX5_aborted 21 = .ok (.bipush (-2), 2) := by decide +kernel
theorem dX5_aborted_23 : decode cX5_aborted 23 = .ok (.invokevirtual 56, 3) := by decide +kernel
theorem dX5_aborted_26 : decode cX5_aborted 26 = .ok (.ireturn, 1) := by decide +kernel
theorem dX5_aborted_27 : decode cX5_aborted 27 = .ok (.aload_n 0, 1) := by decide +kernel
theorem dX5_aborted_28 : decode cX5_aborted 28 = .ok (.getfield 11, 3) := by decide +kernel
theorem dX5_aborted_31 : decode cX5_aborted 31 = .ok (.iload_n 1, 1) := by decide +kernel
theorem dX5_aborted_32 : decode cX5_aborted 32 = .ok (.aaload, 1) := by decide +kernel
theorem dX5_aborted_33 : decode cX5_aborted 33 = .ok (.astore 4, 2) := by decide +kernel
theorem dX5_aborted_35 : decode cX5_aborted 35 = .ok (.aload 4, 2) := by decide +kernel
theorem dX5_aborted_37 : decode cX5_aborted 37 = .ok (.iload_n 2, 1) := by decide +kernel
theorem dX5_aborted_38 : decode cX5_aborted 38 = .ok (.invokevirtual 176, 3) := by decide +kernel
theorem dX5_aborted_41 : decode cX5_aborted 41 = .ok (.istore 5, 2) := by decide +kernel
theorem dX5_aborted_43 : decode cX5_aborted 43 = .ok (.iload 5, 2) := by decide +kernel
theorem dX5_aborted_45 : decode cX5_aborted 45 = .ok (.iconst (-1), 1) := by decide +kernel
theorem dX5_aborted_46 : decode cX5_aborted 46 = .ok (.if_icmp .ne 5, 3) := by decide +kernel
theorem dX5_aborted_49 : decode cX5_aborted 49 = .ok (.iconst (-1), 1) := by decide +kernel
theorem dX5_aborted_50 : decode cX5_aborted 50 = .ok (.ireturn, 1) := by decide +kernel
theorem dX5_aborted_51 : decode cX5_aborted 51 = .ok (.iload_n 3, 1) := by decide +kernel
theorem dX5_aborted_52 : decode cX5_aborted 52 = .ok (.lookupswitch 40 #[(0, 28), (1, 37)], 28) := by decide +kernel
theorem dX5_aborted_80 : decode cX5_aborted 80 = .ok (.aload 4, 2) := by decide +kernel
theorem dX5_aborted_82 : decode cX5_aborted 82 = .ok (.getfield 147, 3) := by decide +kernel
theorem dX5_aborted_85 : decode cX5_aborted 85 = .ok (.iload 5, 2) := by decide +kernel
theorem dX5_aborted_87 : decode cX5_aborted 87 = .ok (.iaload, 1) := by decide +kernel
theorem dX5_aborted_88 : decode cX5_aborted 88 = .ok (.ireturn, 1) := by decide +kernel
theorem dX5_aborted_89 : decode cX5_aborted 89 = .ok (.iload 5, 2) := by decide +kernel
theorem dX5_aborted_91 : decode cX5_aborted 91 = .ok (.ireturn, 1) := by decide +kernel
theorem dX5_aborted_92 : decode cX5_aborted 92 = .ok (.aload 4, 2) := by decide +kernel
theorem dX5_aborted_94 : decode cX5_aborted 94 = .ok (.getfield 179, 3) := by decide +kernel
theorem dX5_aborted_97 : decode cX5_aborted 97 = .ok (.iload 5, 2) := by decide +kernel
theorem dX5_aborted_99 : decode cX5_aborted 99 = .ok (.iaload, 1) := by decide +kernel
theorem dX5_aborted_100 : decode cX5_aborted 100 = .ok (.ireturn, 1) := by decide +kernel
theorem dX5_reads_0 : decode cX5_reads 0 = .ok (.iload_n 1, 1) := by decide +kernel
theorem dX5_reads_1 : decode cX5_reads 1 = .ok (.iconst 2, 1) := by decide +kernel
theorem dX5_reads_2 : decode cX5_reads 2 = .ok (.invokestatic 52, 3) := by decide +kernel
theorem dX5_reads_5 : decode cX5_reads 5 = .ok (.ifCond .ne 11, 3) := by decide +kernel
theorem dX5_reads_8 : decode cX5_reads 8 = .ok (.iload_n 2, 1) := by decide +kernel
theorem dX5_reads_9 : decode cX5_reads 9 = .ok (.iconst 3, 1) := by decide +kernel
theorem dX5_reads_10 : decode cX5_reads 10 = .ok (.invokestatic 52, 3) := by decide +kernel
theorem dX5_reads_13 : decode cX5_reads 13 = .ok (.ifCond .eq 10, 3) := by decide +kernel
theorem dX5_reads_16 : decode cX5_reads 16 = .ok (.aload_n 0, 1) := by decide +kernel
theorem dX5_reads_17 : decode cX5_reads 17 = .ok (.bipush (-2), 2) := by decide +kernel
theorem dX5_reads_19 : decode cX5_reads 19 = .ok (.invokevirtual 56, 3) := by decide +kernel
theorem dX5_reads_22 : decode cX5_reads 22 = .ok (.ireturn, 1) := by decide +kernel
theorem dX5_reads_23 : decode cX5_reads 23 = .ok (.aload_n 0, 1) := by decide +kernel
theorem dX5_reads_24 : decode cX5_reads 24 = .ok (.getfield 18, 3) := by decide +kernel
theorem dX5_reads_27 : decode cX5_reads 27 = .ok (.getfield 112, 3) := by decide +kernel
theorem dX5_reads_30 : decode cX5_reads 30 = .ok (.iload_n 1, 1) := by decide +kernel
theorem dX5_reads_31 : decode cX5_reads 31 = .ok (.aaload, 1) := by decide +kernel
theorem dX5_reads_32 : decode cX5_reads 32 = .ok (.astore_n 3, 1) := by decide +kernel
theorem dX5_reads_33 : decode cX5_reads 33 = .ok (.aload_n 0, 1) := by decide +kernel
theorem dX5_reads_34 : decode cX5_reads 34 = .ok (.getfield 11, 3) := by decide +kernel
theorem dX5_reads_37 : decode cX5_reads 37 = .ok (.iload_n 2, 1) := by decide +kernel
theorem dX5_reads_38 : decode cX5_reads 38 = .ok (.aaload, 1) := by decide +kernel
theorem dX5_reads_39 : decode cX5_reads 39 = .ok (.aload_n 3, 1) := by decide +kernel
theorem dX5_reads_40 : decode cX5_reads 40 = .ok (.getfield 116, 3) := by decide +kernel
theorem dX5_reads_43 : decode cX5_reads 43 = .ok (.iload_n 2, 1) := by decide +kernel
theorem dX5_reads_44 : decode cX5_reads 44 = .ok (.iaload, 1) := by decide +kernel
theorem dX5_reads_45 : decode cX5_reads 45 = .ok (.aload_n 0, 1) := by decide +kernel
theorem dX5_reads_46 : decode cX5_reads 46 = .ok (.iload_n 2, 1) := by decide +kernel
theorem dX5_reads_47 : decode cX5_reads 47 = .ok (.invokevirtual 161, 3) := by decide +kernel
theorem dX5_reads_50 : decode cX5_reads 50 = .ok (.invokevirtual 182, 3) := by decide +kernel
theorem dX5_reads_53 : decode cX5_reads 53 = .ok (.istore 4, 2) := by decide +kernel
theorem dX5_reads_55 : decode cX5_reads 55 = .ok (.iload 4, 2) := by decide +kernel
theorem dX5_reads_57 : decode cX5_reads 57 = .ok (.iconst (-1), 1) := by decide +kernel
theorem dX5_reads_58 : decode cX5_reads 58 = .ok (.if_icmp .ne 5, 3) := by decide +kernel
theorem dX5_reads_61 : decode cX5_reads 61 = .ok (.iconst (-1), 1) := by decide +kernel
theorem dX5_reads_62 : decode cX5_reads 62 = .ok (.ireturn, 1) := by decide +kernel
theorem dX5_reads_63 : decode cX5_reads 63 = .ok (.aload_n 0, 1) := by decide +kernel
theorem dX5_reads_64 : decode cX5_reads 64 = .ok (.invokevirtual 72, 3) := by decide +kernel
theorem dX5_reads_67 : decode cX5_reads 67 = .ok (.aload_n 3, 1) := by decide +kernel
theorem dX5_reads_68 : decode cX5_reads 68 = .ok (.getfield 116, 3) := by decide +kernel
theorem dX5_reads_71 : decode cX5_reads 71 = .ok (.iload_n 2, 1) := by decide +kernel
theorem dX5_reads_72 : decode cX5_reads 72 = .ok (.iload 4, 2) := by decide +kernel
theorem dX5_reads_74 : decode cX5_reads 74 = .ok (.iconst 1, 1) := by decide +kernel
theorem dX5_reads_75 : decode cX5_reads 75 = .ok (.iadd, 1) := by decide +kernel
theorem dX5_reads_76 : decode cX5_reads 76 = .ok (.iastore, 1) := by decide +kernel
theorem dX5_reads_77 : decode cX5_reads 77 = .ok (.aload_n 0, 1) := by decide +kernel
theorem dX5_reads_78 : decode cX5_reads 78 = .ok (.getfield 11, 3) := by decide +kernel
theorem dX5_reads_81 : decode cX5_reads 81 = .ok (.iload_n 2, 1) := by decide +kernel
theorem dX5_reads_82 : decode cX5_reads 82 = .ok (.aaload, 1) := by decide +kernel
theorem dX5_reads_83 : decode cX5_reads 83 = .ok (.getfield 155, 3) := by decide +kernel
theorem dX5_reads_86 : decode cX5_reads 86 = .ok (.iload 4, 2) := by decide +kernel
theorem dX5_reads_88 : decode cX5_reads 88 = .ok (.iaload, 1) := by decide +kernel
theorem dX5_reads_89 : decode cX5_reads 89 = .ok (.ireturn, 1) := by decide +kernel
theorem dX5_rewinds_0 : decode cX5_rewinds 0 = .ok (.iload_n 1, 1) := by decide +kernel
theorem dX5_rewinds_1 : decode cX5_rewinds 1 = .ok (.iconst 2, 1) := by decide +kernel
theorem dX5_rewinds_2 : decode cX5_rewinds 2 = .ok (.invokestatic 52, 3) := by decide +kernel
theorem dX5_rewinds_5 : decode cX5_rewinds 5 = .ok (.ifCond .eq 10, 3) := by decide +kernel
theorem dX5_rewinds_8 : decode cX5_rewinds 8 = .ok (.aload_n 0, 1) := by decide +kernel
theorem dX5_rewinds_9 : decode cX5_rewinds 9 = .ok (.bipush (-2), 2) := by decide +kernel
theorem dX5_rewinds_11 : decode cX5_rewinds 11 = .ok (.invokevirtual 56, 3) := by decide +kernel
theorem dX5_rewinds_14 : decode cX5_rewinds 14 = .ok (.ireturn, 1) := by decide +kernel
theorem dX5_rewinds_15 : decode cX5_rewinds 15 = .ok (.aload_n 0, 1) := by decide +kernel
theorem dX5_rewinds_16 : decode cX5_rewinds 16 = .ok (.invokevirtual 72, 3) := by decide +kernel
theorem dX5_rewinds_19 : decode cX5_rewinds 19 = .ok (.aload_n 0, 1) := by decide +kernel
theorem dX5_rewinds_20 : decode cX5_rewinds 20 = .ok (.getfield 18, 3) := by decide +kernel
theorem dX5_rewinds_23 : decode cX5_rewinds 23 = .ok (.getfield 112, 3) := by decide +kernel
theorem dX5_rewinds_26 : decode cX5_rewinds 26 = .ok (.iload_n 1, 1) := by decide +kernel
theorem dX5_rewinds_27 : decode cX5_rewinds 27 = .ok (.aaload, 1) := by decide +kernel
theorem dX5_rewinds_28 : decode cX5_rewinds 28 = .ok (.invokevirtual 185, 3) := by decide +kernel
theorem dX5_rewinds_31 : decode cX5_rewinds 31 = .ok (.ireturn, 1) := by decide +kernel
theorem dX5_reader_0 : decode cX5_reader 0 = .ok (.iload_n 1, 1) := by decide +kernel
theorem dX5_reader_1 : decode cX5_reader 1 = .ok (.iconst 2, 1) := by decide +kernel
theorem dX5_reader_2 : decode cX5_reader 2 = .ok (.invokestatic 52, 3) := by decide +kernel
theorem dX5_reader_5 : decode cX5_reader 5 = .ok (.ifCond .ne 19, 3) := by decide +kernel
theorem dX5_reader_8 : decode cX5_reader 8 = .ok (.iload_n 2, 1) := by decide +kernel
theorem dX5_reader_9 : decode cX5_reader 9 = .ok (.iconst 3, 1) := by decide +kernel
theorem dX5_reader_10 : decode cX5_reader 10 = .ok (.invokestatic 52, 3) := by decide +kernel
theorem dX5_reader_13 : decode cX5_reader 13 = .ok (.ifCond .ne 11, 3) := by decide +kernel
theorem dX5_reader_16 : decode cX5_reader 16 = .ok (.iload_n 3, 1) := by decide +kernel
theorem dX5_reader_17 : decode cX5_reader 17 = .ok (.iconst 4, 1) := by decide +kernel
theorem dX5_reader_18 : decode cX5_reader 18 = .ok (.invokestatic 52, 3) := by decide +kernel
theorem dX5_reader_21 : decode cX5_reader 21 = .ok (.ifCond .eq 10, 3) := by decide +kernel
theorem dX5_reader_24 : decode cX5_reader 24 = .ok (.aload_n 0, 1) := by decide +kernel
theorem dX5_reader_25 : decode cX5_reader 25 = .ok (.bipush (-2), 2) := by decide +kernel
theorem dX5_reader_27 : decode cX5_reader 27 = .ok (.invokevirtual 56, 3) := by decide +kernel
theorem dX5_reader_30 : decode cX5_reader 30 = .ok (.ireturn, 1) := by decide +kernel
theorem dX5_reader_31 : decode cX5_reader 31 = .ok (.aload_n 0, 1) := by decide +kernel
theorem dX5_reader_32 : decode cX5_reader 32 = .ok (.getfield 18, 3) := by decide +kernel
theorem dX5_reader_35 : decode cX5_reader 35 = .ok (.getfield 112, 3) := by decide +kernel
theorem dX5_reader_38 : decode cX5_reader 38 = .ok (.iload_n 1, 1) := by decide +kernel
theorem dX5_reader_39 : decode cX5_reader 39 = .ok (.aaload, 1) := by decide +kernel
theorem dX5_reader_40 : decode cX5_reader 40 = .ok (.astore 4, 2) := by decide +kernel
theorem dX5_reader_42 : decode cX5_reader 42 = .ok (.iload_n 3, 1) := by decide +kernel
theorem dX5_reader_43 : decode cX5_reader 43 = .ok (.tableswitch 63 0 2 #[25, 33, 41], 25) := by decide +kernel
theorem dX5_reader_68 : decode cX5_reader 68 = .ok (.aload 4, 2) := by decide +kernel
theorem dX5_reader_70 : decode cX5_reader 70 = .ok (.getfield 116, 3) := by decide +kernel
theorem dX5_reader_73 : decode cX5_reader 73 = .ok (.iload_n 2, 1) := by decide +kernel
theorem dX5_reader_74 : decode cX5_reader 74 = .ok (.iaload, 1) := by decide +kernel
theorem dX5_reader_75 : decode cX5_reader 75 = .ok (.ireturn, 1) := by decide +kernel
theorem dX5_reader_76 : decode cX5_reader 76 = .ok (.aload 4, 2) := by decide +kernel
theorem dX5_reader_78 : decode cX5_reader 78 = .ok (.getfield 188, 3) := by decide +kernel
theorem dX5_reader_81 : decode cX5_reader 81 = .ok (.iload_n 2, 1) := by decide +kernel
theorem dX5_reader_82 : decode cX5_reader 82 = .ok (.iaload, 1) := by decide +kernel
theorem dX5_reader_83 : decode cX5_reader 83 = .ok (.ireturn, 1) := by decide +kernel
theorem dX5_reader_84 : decode cX5_reader 84 = .ok (.aload_n 0, 1) := by decide +kernel
theorem dX5_reader_85 : decode cX5_reader 85 = .ok (.getfield 11, 3) := by decide +kernel
theorem dX5_reader_88 : decode cX5_reader 88 = .ok (.iload_n 2, 1) := by decide +kernel
theorem dX5_reader_89 : decode cX5_reader 89 = .ok (.aaload, 1) := by decide +kernel
theorem dX5_reader_90 : decode cX5_reader 90 = .ok (.aload 4, 2) := by decide +kernel
theorem dX5_reader_92 : decode cX5_reader 92 = .ok (.getfield 116, 3) := by decide +kernel
theorem dX5_reader_95 : decode cX5_reader 95 = .ok (.iload_n 2, 1) := by decide +kernel
theorem dX5_reader_96 : decode cX5_reader 96 = .ok (.iaload, 1) := by decide +kernel
theorem dX5_reader_97 : decode cX5_reader 97 = .ok (.aload_n 0, 1) := by decide +kernel
theorem dX5_reader_98 : decode cX5_reader 98 = .ok (.iload_n 2, 1) := by decide +kernel
theorem dX5_reader_99 : decode cX5_reader 99 = .ok (.invokevirtual 161, 3) := by decide +kernel
theorem dX5_reader_102 : decode cX5_reader 102 = .ok (.invokevirtual 167, 3) := by decide +kernel
theorem dX5_reader_105 : decode cX5_reader 105 = .ok (.ireturn, 1) := by decide +kernel
theorem dX5_reader_106 : decode cX5_reader 106 = .ok (.aload_n 0, 1) := by decide +kernel
theorem dX5_reader_107 : decode cX5_reader 107 = .ok (.getfield 11, 3) := by decide +kernel
theorem dX5_reader_110 : decode cX5_reader 110 = .ok (.iload_n 2, 1) := by decide +kernel
theorem dX5_reader_111 : decode cX5_reader 111 = .ok (.aaload, 1) := by decide +kernel
theorem dX5_reader_112 : decode cX5_reader 112 = .ok (.aload 4, 2) := by decide +kernel
theorem dX5_reader_114 : decode cX5_reader 114 = .ok (.getfield 116, 3) := by decide +kernel
theorem dX5_reader_117 : decode cX5_reader 117 = .ok (.iload_n 2, 1) := by decide +kernel
theorem dX5_reader_118 : decode cX5_reader 118 = .ok (.iaload, 1) := by decide +kernel
theorem dX5_reader_119 : decode cX5_reader 119 = .ok (.aload_n 0, 1) := by decide +kernel
theorem dX5_reader_120 : decode cX5_reader 120 = .ok (.iload_n 2, 1) := by decide +kernel
theorem dX5_reader_121 : decode cX5_reader 121 = .ok (.invokevirtual 161, 3) := by decide +kernel
theorem dX5_reader_124 : decode cX5_reader 124 = .ok (.invokevirtual 182, 3) := by decide +kernel
theorem dX5_reader_127 : decode cX5_reader 127 = .ok (.ireturn, 1) := by decide +kernel
theorem dX5_type_0 : decode cX5_type 0 = .ok (.iload_n 1, 1) := by decide +kernel
theorem dX5_type_1 : decode cX5_type 1 = .ok (.sipush 128, 3) := by decide +kernel
theorem dX5_type_4 : decode cX5_type 4 = .ok (.invokestatic 52, 3) := by decide +kernel
theorem dX5_type_7 : decode cX5_type 7 = .ok (.ifCond .eq 10, 3) := by decide +kernel
theorem dX5_type_10 : decode cX5_type 10 = .ok (.aload_n 0, 1) := by decide +kernel
theorem dX5_type_11 : decode cX5_type 11 = .ok (.bipush (-2), 2) := by decide +kernel
theorem dX5_type_13 : decode cX5_type 13 = .ok (.invokevirtual 56, 3) := by decide +kernel
theorem dX5_type_16 : decode cX5_type 16 = .ok (.ireturn, 1) := by decide +kernel
theorem dX5_type_17 : decode cX5_type 17 = .ok (.aload_n 0, 1) := by decide +kernel
theorem dX5_type_18 : decode cX5_type 18 = .ok (.getfield 36, 3) := by decide +kernel
theorem dX5_type_21 : decode cX5_type 21 = .ok (.getfield 191, 3) := by decide +kernel
theorem dX5_type_24 : decode cX5_type 24 = .ok (.bipush 120, 2) := by decide +kernel
theorem dX5_type_26 : decode cX5_type 26 = .ok (.if_icmp .lt 10, 3) := by decide +kernel
theorem dX5_type_29 : decode cX5_type 29 = .ok (.aload_n 0, 1) := by decide +kernel
theorem dX5_type_30 : decode cX5_type 30 = .ok (.bipush (-4), 2) := by decide +kernel
theorem dX5_type_32 : decode cX5_type 32 = .ok (.invokevirtual 56, 3) := by decide +kernel
theorem dX5_type_35 : decode cX5_type 35 = .ok (.ireturn, 1) := by decide +kernel
theorem dX5_type_36 : decode cX5_type 36 = .ok (.aload_n 0, 1) := by decide +kernel
theorem dX5_type_37 : decode cX5_type 37 = .ok (.getfield 36, 3) := by decide +kernel
theorem dX5_type_40 : decode cX5_type 40 = .ok (.getfield 192, 3) := by decide +kernel
theorem dX5_type_43 : decode cX5_type 43 = .ok (.aload_n 0, 1) := by decide +kernel
theorem dX5_type_44 : decode cX5_type 44 = .ok (.getfield 36, 3) := by decide +kernel
theorem dX5_type_47 : decode cX5_type 47 = .ok (.getfield 191, 3) := by decide +kernel
theorem dX5_type_50 : decode cX5_type 50 = .ok (.iload_n 1, 1) := by decide +kernel
theorem dX5_type_51 : decode cX5_type 51 = .ok (.iastore, 1) := by decide +kernel
theorem dX5_type_52 : decode cX5_type 52 = .ok (.aload_n 0, 1) := by decide +kernel
theorem dX5_type_53 : decode cX5_type 53 = .ok (.getfield 36, 3) := by decide +kernel
theorem dX5_type_56 : decode cX5_type 56 = .ok (.dup, 1) := by decide +kernel
theorem dX5_type_57 : decode cX5_type 57 = .ok (.getfield 191, 3) := by decide +kernel
theorem dX5_type_60 : decode cX5_type 60 = .ok (.iconst 1, 1) := by decide +kernel
theorem dX5_type_61 : decode cX5_type 61 = .ok (.iadd, 1) := by decide +kernel
theorem dX5_type_62 : decode cX5_type 62 = .ok (.putfield 191, 3) := by decide +kernel
theorem dX5_type_65 : decode cX5_type 65 = .ok (.aload_n 0, 1) := by decide +kernel
theorem dX5_type_66 : decode cX5_type 66 = .ok (.getfield 36, 3) := by decide +kernel
theorem dX5_type_69 : decode cX5_type 69 = .ok (.getfield 191, 3) := by decide +kernel
theorem dX5_type_72 : decode cX5_type 72 = .ok (.ireturn, 1) := by decide +kernel
theorem dX5_clear_0 : decode cX5_clear 0 = .ok (.aload_n 0, 1) := by decide +kernel
theorem dX5_clear_1 : decode cX5_clear 1 = .ok (.getfield 36, 3) := by decide +kernel
theorem dX5_clear_4 : decode cX5_clear 4 = .ok (.getfield 191, 3) := by decide +kernel
theorem dX5_clear_7 : decode cX5_clear 7 = .ok (.istore_n 1, 1) := by decide +kernel
theorem dX5_clear_8 : decode cX5_clear 8 = .ok (.aload_n 0, 1) := by decide +kernel
theorem dX5_clear_9 : decode cX5_clear 9 = .ok (.getfield 36, 3) := by decide +kernel
theorem dX5_clear_12 : decode cX5_clear 12 = .ok (.iconst 0, 1) := by decide +kernel
theorem dX5_clear_13 : decode cX5_clear 13 = .ok (.putfield 191, 3) := by decide +kernel
theorem dX5_clear_16 : decode cX5_clear 16 = .ok (.iload_n 1, 1) := by decide +kernel
theorem dX5_clear_17 : decode cX5_clear 17 = .ok (.ireturn, 1) := by decide +kernel
theorem dX5_does_0 : decode cX5_does 0 = .ok (.aload_n 0, 1) := by decide +kernel
theorem dX5_does_1 : decode cX5_does 1 = .ok (.getfield 36, 3) := by decide +kernel
theorem dX5_does_4 : decode cX5_does 4 = .ok (.invokevirtual 195, 3) := by decide +kernel
theorem dX5_does_7 : decode cX5_does 7 = .ok (.istore_n 1, 1) := by decide +kernel
theorem dX5_does_8 : decode cX5_does 8 = .ok (.iload_n 1, 1) := by decide +kernel
theorem dX5_does_9 : decode cX5_does 9 = .ok (.iconst (-1), 1) := by decide +kernel
theorem dX5_does_10 : decode cX5_does 10 = .ok (.if_icmp .eq 8, 3) := by decide +kernel
theorem dX5_does_13 : decode cX5_does 13 = .ok (.bipush (-10), 2) := by decide +kernel
theorem dX5_does_15 : decode cX5_does 15 = .ok (.iload_n 1, 1) := by decide +kernel
theorem dX5_does_16 : decode cX5_does 16 = .ok (.isub, 1) := by decide +kernel
theorem dX5_does_17 : decode cX5_does 17 = .ok (.ireturn, 1) := by decide +kernel
theorem dX5_does_18 : decode cX5_does 18 = .ok (.aload_n 0, 1) := by decide +kernel
theorem dX5_does_19 : decode cX5_does 19 = .ok (.invokevirtual 72, 3) := by decide +kernel
theorem dX5_does_22 : decode cX5_does 22 = .ok (.aload_n 0, 1) := by decide +kernel
theorem dX5_does_23 : decode cX5_does 23 = .ok (.iconst 1, 1) := by decide +kernel
theorem dX5_does_24 : decode cX5_does 24 = .ok (.putfield 47, 3) := by decide +kernel
theorem dX5_does_27 : decode cX5_does 27 = .ok (.iconst 0, 1) := by decide +kernel
theorem dX5_does_28 : decode cX5_does 28 = .ok (.istore_n 2, 1) := by decide +kernel
theorem dX5_does_29 : decode cX5_does 29 = .ok (.iconst 0, 1) := by decide +kernel
theorem dX5_does_30 : decode cX5_does 30 = .ok (.istore_n 3, 1) := by decide +kernel
theorem dX5_does_31 : decode cX5_does 31 = .ok (.iload_n 3, 1) := by decide +kernel
theorem dX5_does_32 : decode cX5_does 32 = .ok (.aload_n 0, 1) := by decide +kernel
theorem dX5_does_33 : decode cX5_does 33 = .ok (.getfield 36, 3) := by decide +kernel
theorem dX5_does_36 : decode cX5_does 36 = .ok (.getfield 198, 3) := by decide +kernel
theorem dX5_does_39 : decode cX5_does 39 = .ok (.if_icmp .ge 28, 3) := by decide +kernel
theorem dX5_does_42 : decode cX5_does 42 = .ok (.aload_n 0, 1) := by decide +kernel
theorem dX5_does_43 : decode cX5_does 43 = .ok (.aload_n 0, 1) := by decide +kernel
theorem dX5_does_44 : decode cX5_does 44 = .ok (.iload_n 3, 1) := by decide +kernel
theorem dX5_does_45 : decode cX5_does 45 = .ok (.invokevirtual 201, 3) := by decide +kernel
theorem dX5_does_48 : decode cX5_does 48 = .ok (.putfield 44, 3) := by decide +kernel
theorem dX5_does_51 : decode cX5_does 51 = .ok (.aload_n 0, 1) := by decide +kernel
theorem dX5_does_52 : decode cX5_does 52 = .ok (.getfield 44, 3) := by decide +kernel
theorem dX5_does_55 : decode cX5_does 55 = .ok (.ifCond .lt 6, 3) := by decide +kernel
theorem dX5_does_58 : decode cX5_does 58 = .ok (.iinc 2 1, 3) := by decide +kernel
theorem dX5_does_61 : decode cX5_does 61 = .ok (.iinc 3 1, 3) := by decide +kernel
theorem dX5_does_64 : decode cX5_does 64 = .ok (.goto (-33), 3) := by decide +kernel
theorem dX5_does_67 : decode cX5_does 67 = .ok (.aload_n 0, 1) := by decide +kernel
theorem dX5_does_68 : decode cX5_does 68 = .ok (.iconst 0, 1) := by decide +kernel
theorem dX5_does_69 : decode cX5_does 69 = .ok (.putfield 47, 3) := by decide +kernel
theorem dX5_does_72 : decode cX5_does 72 = .ok (.iload_n 2, 1) := by decide +kernel
theorem dX5_does_73 : decode cX5_does 73 = .ok (.ireturn, 1) := by decide +kernel
theorem dX5_asked_0 : decode cX5_asked 0 = .ok (.aload_n 0, 1) := by decide +kernel
theorem dX5_asked_1 : decode cX5_asked 1 = .ok (.getfield 44, 3) := by decide +kernel
theorem dX5_asked_4 : decode cX5_asked 4 = .ok (.ireturn, 1) := by decide +kernel
theorem dX5_all_0 : decode cX5_all 0 = .ok (.iload_n 1, 1) := by decide +kernel
theorem dX5_all_1 : decode cX5_all 1 = .ok (.bipush 8, 2) := by decide +kernel
theorem dX5_all_3 : decode cX5_all 3 = .ok (.invokestatic 52, 3) := by decide +kernel
theorem dX5_all_6 : decode cX5_all 6 = .ok (.ifCond .eq 10, 3) := by decide +kernel
theorem dX5_all_9 : decode cX5_all 9 = .ok (.aload_n 0, 1) := by decide +kernel
theorem dX5_all_10 : decode cX5_all 10 = .ok (.bipush (-2), 2) := by decide +kernel
theorem dX5_all_12 : decode cX5_all 12 = .ok (.invokevirtual 56, 3) := by decide +kernel
theorem dX5_all_15 : decode cX5_all 15 = .ok (.ireturn, 1) := by decide +kernel
theorem dX5_all_16 : decode cX5_all 16 = .ok (.iload_n 1, 1) := by decide +kernel
theorem dX5_all_17 : decode cX5_all 17 = .ok (.tableswitch 86 0 6 #[43, 51, 59, 65, 71, 76, 81], 43) := by decide +kernel
theorem dX5_all_60 : decode cX5_all 60 = .ok (.aload_n 0, 1) := by decide +kernel
theorem dX5_all_61 : decode cX5_all 61 = .ok (.getfield 18, 3) := by decide +kernel
theorem dX5_all_64 : decode cX5_all 64 = .ok (.getfield 82, 3) := by decide +kernel
theorem dX5_all_67 : decode cX5_all 67 = .ok (.ireturn, 1) := by decide +kernel
theorem dX5_all_68 : decode cX5_all 68 = .ok (.aload_n 0, 1) := by decide +kernel
theorem dX5_all_69 : decode cX5_all 69 = .ok (.getfield 18, 3) := by decide +kernel
theorem dX5_all_72 : decode cX5_all 72 = .ok (.getfield 131, 3) := by decide +kernel
theorem dX5_all_75 : decode cX5_all 75 = .ok (.ireturn, 1) := by decide +kernel
theorem dX5_all_76 : decode cX5_all 76 = .ok (.aload_n 0, 1) := by decide +kernel
theorem dX5_all_77 : decode cX5_all 77 = .ok (.iconst 1, 1) := by decide +kernel
theorem dX5_all_78 : decode cX5_all 78 = .ok (.invokevirtual 88, 3) := by decide +kernel
theorem dX5_all_81 : decode cX5_all 81 = .ok (.ireturn, 1) := by decide +kernel
theorem dX5_all_82 : decode cX5_all 82 = .ok (.aload_n 0, 1) := by decide +kernel
theorem dX5_all_83 : decode cX5_all 83 = .ok (.iconst 2, 1) := by decide +kernel
theorem dX5_all_84 : decode cX5_all 84 = .ok (.invokevirtual 88, 3) := by decide +kernel
theorem dX5_all_87 : decode cX5_all 87 = .ok (.ireturn, 1) := by decide +kernel
theorem dX5_all_88 : decode cX5_all 88 = .ok (.aload_n 0, 1) := by decide +kernel
theorem dX5_all_89 : decode cX5_all 89 = .ok (.invokevirtual 204, 3) := by decide +kernel
theorem dX5_all_92 : decode cX5_all 92 = .ok (.ireturn, 1) := by decide +kernel
theorem dX5_all_93 : decode cX5_all 93 = .ok (.aload_n 0, 1) := by decide +kernel
theorem dX5_all_94 : decode cX5_all 94 = .ok (.invokevirtual 207, 3) := by decide +kernel
theorem dX5_all_97 : decode cX5_all 97 = .ok (.ireturn, 1) := by decide +kernel
theorem dX5_all_98 : decode cX5_all 98 = .ok (.aload_n 0, 1) := by decide +kernel
theorem dX5_all_99 : decode cX5_all 99 = .ok (.invokevirtual 210, 3) := by decide +kernel
theorem dX5_all_102 : decode cX5_all 102 = .ok (.ireturn, 1) := by decide +kernel
theorem dX5_all_103 : decode cX5_all 103 = .ok (.aload_n 0, 1) := by decide +kernel
theorem dX5_all_104 : decode cX5_all 104 = .ok (.invokevirtual 213, 3) := by decide +kernel
theorem dX5_all_107 : decode cX5_all 107 = .ok (.ireturn, 1) := by decide +kernel
theorem dX5_back_0 : decode cX5_back 0 = .ok (.aload_n 0, 1) := by decide +kernel
theorem dX5_back_1 : decode cX5_back 1 = .ok (.getfield 26, 3) := by decide +kernel
theorem dX5_back_4 : decode cX5_back 4 = .ok (.ifCond .ne 10, 3) := by decide +kernel
theorem dX5_back_7 : decode cX5_back 7 = .ok (.aload_n 0, 1) := by decide +kernel
theorem dX5_back_8 : decode cX5_back 8 = .ok (.bipush (-3), 2) := by decide +kernel
theorem dX5_back_10 : decode cX5_back 10 = .ok (.invokevirtual 56, 3) := by decide +kernel
theorem dX5_back_13 : decode cX5_back 13 = .ok (.ireturn, 1) := by decide +kernel
theorem dX5_back_14 : decode cX5_back 14 = .ok (.aload_n 0, 1) := by decide +kernel
theorem dX5_back_15 : decode cX5_back 15 = .ok (.dup, 1) := by decide +kernel
theorem dX5_back_16 : decode cX5_back 16 = .ok (.getfield 26, 3) := by decide +kernel
theorem dX5_back_19 : decode cX5_back 19 = .ok (.iconst 1, 1) := by decide +kernel
theorem dX5_back_20 : decode cX5_back 20 = .ok (.isub, 1) := by decide +kernel
theorem dX5_back_21 : decode cX5_back 21 = .ok (.putfield 26, 3) := by decide +kernel
theorem dX5_back_24 : decode cX5_back 24 = .ok (.aload_n 0, 1) := by decide +kernel
theorem dX5_back_25 : decode cX5_back 25 = .ok (.aload_n 0, 1) := by decide +kernel
theorem dX5_back_26 : decode cX5_back 26 = .ok (.getfield 30, 3) := by decide +kernel
theorem dX5_back_29 : decode cX5_back 29 = .ok (.bipush 6, 2) := by decide +kernel
theorem dX5_back_31 : decode cX5_back 31 = .ok (.iadd, 1) := by decide +kernel
theorem dX5_back_32 : decode cX5_back 32 = .ok (.iconst 1, 1) := by decide +kernel
theorem dX5_back_33 : decode cX5_back 33 = .ok (.isub, 1) := by decide +kernel
theorem dX5_back_34 : decode cX5_back 34 = .ok (.bipush 6, 2) := by decide +kernel
theorem dX5_back_36 : decode cX5_back 36 = .ok (.irem, 1) := by decide +kernel
theorem dX5_back_37 : decode cX5_back 37 = .ok (.putfield 30, 3) := by decide +kernel
theorem dX5_back_40 : decode cX5_back 40 = .ok (.aload_n 0, 1) := by decide +kernel
theorem dX5_back_41 : decode cX5_back 41 = .ok (.getfield 18, 3) := by decide +kernel
theorem dX5_back_44 : decode cX5_back 44 = .ok (.aload_n 0, 1) := by decide +kernel
theorem dX5_back_45 : decode cX5_back 45 = .ok (.getfield 22, 3) := by decide +kernel
theorem dX5_back_48 : decode cX5_back 48 = .ok (.aload_n 0, 1) := by decide +kernel
theorem dX5_back_49 : decode cX5_back 49 = .ok (.getfield 30, 3) := by decide +kernel
theorem dX5_back_52 : decode cX5_back 52 = .ok (.aaload, 1) := by decide +kernel
theorem dX5_back_53 : decode cX5_back 53 = .ok (.invokevirtual 216, 3) := by decide +kernel
theorem dX5_back_56 : decode cX5_back 56 = .ok (.iconst 0, 1) := by decide +kernel
theorem dX5_back_57 : decode cX5_back 57 = .ok (.istore_n 1, 1) := by decide +kernel
theorem dX5_back_58 : decode cX5_back 58 = .ok (.iload_n 1, 1) := by decide +kernel
theorem dX5_back_59 : decode cX5_back 59 = .ok (.iconst 3, 1) := by decide +kernel
theorem dX5_back_60 : decode cX5_back 60 = .ok (.if_icmp .ge 27, 3) := by decide +kernel
theorem dX5_back_63 : decode cX5_back 63 = .ok (.aload_n 0, 1) := by decide +kernel
theorem dX5_back_64 : decode cX5_back 64 = .ok (.getfield 11, 3) := by decide +kernel
theorem dX5_back_67 : decode cX5_back 67 = .ok (.iload_n 1, 1) := by decide +kernel
theorem dX5_back_68 : decode cX5_back 68 = .ok (.aaload, 1) := by decide +kernel
theorem dX5_back_69 : decode cX5_back 69 = .ok (.aload_n 0, 1) := by decide +kernel
theorem dX5_back_70 : decode cX5_back 70 = .ok (.getfield 18, 3) := by decide +kernel
theorem dX5_back_73 : decode cX5_back 73 = .ok (.getfield 220, 3) := by decide +kernel
theorem dX5_back_76 : decode cX5_back 76 = .ok (.iload_n 1, 1) := by decide +kernel
theorem dX5_back_77 : decode cX5_back 77 = .ok (.iaload, 1) := by decide +kernel
theorem dX5_back_78 : decode cX5_back 78 = .ok (.invokevirtual 223, 3) := by decide +kernel
theorem dX5_back_81 : decode cX5_back 81 = .ok (.iinc 1 1, 3) := by decide +kernel
theorem dX5_back_84 : decode cX5_back 84 = .ok (.goto (-26), 3) := by decide +kernel
theorem dX5_back_87 : decode cX5_back 87 = .ok (.aload_n 0, 1) := by decide +kernel
theorem dX5_back_88 : decode cX5_back 88 = .ok (.getfield 26, 3) := by decide +kernel
theorem dX5_back_91 : decode cX5_back 91 = .ok (.ireturn, 1) := by decide +kernel
theorem dX5_told_0 : decode cX5_told 0 = .ok (.iload_n 1, 1) := by decide +kernel
theorem dX5_told_1 : decode cX5_told 1 = .ok (.bipush 7, 2) := by decide +kernel
theorem dX5_told_3 : decode cX5_told 3 = .ok (.invokestatic 52, 3) := by decide +kernel
theorem dX5_told_6 : decode cX5_told 6 = .ok (.ifCond .eq 10, 3) := by decide +kernel
theorem dX5_told_9 : decode cX5_told 9 = .ok (.aload_n 0, 1) := by decide +kernel
theorem dX5_told_10 : decode cX5_told 10 = .ok (.bipush (-2), 2) := by decide +kernel
theorem dX5_told_12 : decode cX5_told 12 = .ok (.invokevirtual 56, 3) := by decide +kernel
theorem dX5_told_15 : decode cX5_told 15 = .ok (.ireturn, 1) := by decide +kernel
theorem dX5_told_16 : decode cX5_told 16 = .ok (.iload_n 1, 1) := by decide +kernel
theorem dX5_told_17 : decode cX5_told 17 = .ok (.iconst 5, 1) := by decide +kernel
theorem dX5_told_18 : decode cX5_told 18 = .ok (.if_icmp .ge 10, 3) := by decide +kernel
theorem dX5_told_21 : decode cX5_told 21 = .ok (.aload_n 0, 1) := by decide +kernel
theorem dX5_told_22 : decode cX5_told 22 = .ok (.getfield 40, 3) := by decide +kernel
theorem dX5_told_25 : decode cX5_told 25 = .ok (.iload_n 1, 1) := by decide +kernel
theorem dX5_told_26 : decode cX5_told 26 = .ok (.iaload, 1) := by decide +kernel
theorem dX5_told_27 : decode cX5_told 27 = .ok (.ireturn, 1) := by decide +kernel
theorem dX5_told_28 : decode cX5_told 28 = .ok (.iload_n 1, 1) := by decide +kernel
theorem dX5_told_29 : decode cX5_told 29 = .ok (.iconst 5, 1) := by decide +kernel
theorem dX5_told_30 : decode cX5_told 30 = .ok (.if_icmp .ne 13, 3) := by decide +kernel
theorem dX5_told_33 : decode cX5_told 33 = .ok (.aload_n 0, 1) := by decide +kernel
theorem dX5_told_34 : decode cX5_told 34 = .ok (.getfield 36, 3) := by decide +kernel
theorem dX5_told_37 : decode cX5_told 37 = .ok (.getfield 191, 3) := by decide +kernel
theorem dX5_told_40 : decode cX5_told 40 = .ok (.goto 7, 3) := by decide +kernel
theorem dX5_told_43 : decode cX5_told 43 = .ok (.aload_n 0, 1) := by decide +kernel
theorem dX5_told_44 : decode cX5_told 44 = .ok (.getfield 26, 3) := by decide +kernel
theorem dX5_told_47 : decode cX5_told 47 = .ok (.ireturn, 1) := by decide +kernel
theorem dX5_digest_0 : decode cX5_digest 0 = .ok (.ldc2_w 227, 3) := by decide +kernel
theorem dX5_digest_3 : decode cX5_digest 3 = .ok (.lstore_n 1, 1) := by decide +kernel
theorem dX5_digest_4 : decode cX5_digest 4 = .ok (.iconst 0, 1) := by decide +kernel
theorem dX5_digest_5 : decode cX5_digest 5 = .ok (.istore_n 3, 1) := by decide +kernel
theorem dX5_digest_6 : decode cX5_digest 6 = .ok (.iload_n 3, 1) := by decide +kernel
theorem dX5_digest_7 : decode cX5_digest 7 = .ok (.bipush 6, 2) := by decide +kernel
theorem dX5_digest_9 : decode cX5_digest 9 = .ok (.if_icmp .gt 22, 3) := by decide +kernel
theorem dX5_digest_12 : decode cX5_digest 12 = .ok (.ldc2_w 229, 3) := by decide +kernel
theorem dX5_digest_15 : decode cX5_digest 15 = .ok (.lload_n 1, 1) := by decide +kernel
theorem dX5_digest_16 : decode cX5_digest 16 = .ok (.lmul, 1) := by decide +kernel
theorem dX5_digest_17 : decode cX5_digest 17 = .ok (.aload_n 0, 1) := by decide +kernel
theorem dX5_digest_18 : decode cX5_digest 18 = .ok (.iload_n 3, 1) := by decide +kernel
theorem dX5_digest_19 : decode cX5_digest 19 = .ok (.invokevirtual 231, 3) := by decide +kernel
theorem dX5_digest_22 : decode cX5_digest 22 = .ok (.i2l, 1) := by decide +kernel
theorem dX5_digest_23 : decode cX5_digest 23 = .ok (.ladd, 1) := by decide +kernel
theorem dX5_digest_24 : decode cX5_digest 24 = .ok (.lstore_n 1, 1) := by decide +kernel
theorem dX5_digest_25 : decode cX5_digest 25 = .ok (.iinc 3 1, 3) := by decide +kernel
theorem dX5_digest_28 : decode cX5_digest 28 = .ok (.goto (-22), 3) := by decide +kernel
theorem dX5_digest_31 : decode cX5_digest 31 = .ok (.iconst 0, 1) := by decide +kernel
theorem dX5_digest_32 : decode cX5_digest 32 = .ok (.istore_n 3, 1) := by decide +kernel
theorem dX5_digest_33 : decode cX5_digest 33 = .ok (.iload_n 3, 1) := by decide +kernel
theorem dX5_digest_34 : decode cX5_digest 34 = .ok (.bipush 7, 2) := by decide +kernel
theorem dX5_digest_36 : decode cX5_digest 36 = .ok (.if_icmp .gt 22, 3) := by decide +kernel
theorem dX5_digest_39 : decode cX5_digest 39 = .ok (.ldc2_w 229, 3) := by decide +kernel
theorem dX5_digest_42 : decode cX5_digest 42 = .ok (.lload_n 1, 1) := by decide +kernel
theorem dX5_digest_43 : decode cX5_digest 43 = .ok (.lmul, 1) := by decide +kernel
theorem dX5_digest_44 : decode cX5_digest 44 = .ok (.aload_n 0, 1) := by decide +kernel
theorem dX5_digest_45 : decode cX5_digest 45 = .ok (.iload_n 3, 1) := by decide +kernel
theorem dX5_digest_46 : decode cX5_digest 46 = .ok (.invokevirtual 234, 3) := by decide +kernel
theorem dX5_digest_49 : decode cX5_digest 49 = .ok (.i2l, 1) := by decide +kernel
theorem dX5_digest_50 : decode cX5_digest 50 = .ok (.ladd, 1) := by decide +kernel
theorem dX5_digest_51 : decode cX5_digest 51 = .ok (.lstore_n 1, 1) := by decide +kernel
theorem dX5_digest_52 : decode cX5_digest 52 = .ok (.iinc 3 1, 3) := by decide +kernel
theorem dX5_digest_55 : decode cX5_digest 55 = .ok (.goto (-22), 3) := by decide +kernel
theorem dX5_digest_58 : decode cX5_digest 58 = .ok (.iconst 0, 1) := by decide +kernel
theorem dX5_digest_59 : decode cX5_digest 59 = .ok (.istore_n 3, 1) := by decide +kernel
theorem dX5_digest_60 : decode cX5_digest 60 = .ok (.iload_n 3, 1) := by decide +kernel
theorem dX5_digest_61 : decode cX5_digest 61 = .ok (.iconst 4, 1) := by decide +kernel
theorem dX5_digest_62 : decode cX5_digest 62 = .ok (.if_icmp .ge 40, 3) := by decide +kernel
theorem dX5_digest_65 : decode cX5_digest 65 = .ok (.iconst 0, 1) := by decide +kernel
theorem dX5_digest_66 : decode cX5_digest 66 = .ok (.istore 4, 2) := by decide +kernel
theorem dX5_digest_68 : decode cX5_digest 68 = .ok (.iload 4, 2) := by decide +kernel
theorem dX5_digest_70 : decode cX5_digest 70 = .ok (.bipush 8, 2) := by decide +kernel
theorem dX5_digest_72 : decode cX5_digest 72 = .ok (.if_icmp .gt 24, 3) := by decide +kernel
theorem dX5_digest_75 : decode cX5_digest 75 = .ok (.ldc2_w 229, 3) := by decide +kernel
theorem dX5_digest_78 : decode cX5_digest 78 = .ok (.lload_n 1, 1) := by decide +kernel
theorem dX5_digest_79 : decode cX5_digest 79 = .ok (.lmul, 1) := by decide +kernel
theorem dX5_digest_80 : decode cX5_digest 80 = .ok (.aload_n 0, 1) := by decide +kernel
theorem dX5_digest_81 : decode cX5_digest 81 = .ok (.iload_n 3, 1) := by decide +kernel
theorem dX5_digest_82 : decode cX5_digest 82 = .ok (.iload 4, 2) := by decide +kernel
theorem dX5_digest_84 : decode cX5_digest 84 = .ok (.invokevirtual 237, 3) := by decide +kernel
theorem dX5_digest_87 : decode cX5_digest 87 = .ok (.i2l, 1) := by decide +kernel
theorem dX5_digest_88 : decode cX5_digest 88 = .ok (.ladd, 1) := by decide +kernel
theorem dX5_digest_89 : decode cX5_digest 89 = .ok (.lstore_n 1, 1) := by decide +kernel
theorem dX5_digest_90 : decode cX5_digest 90 = .ok (.iinc 4 1, 3) := by decide +kernel
theorem dX5_digest_93 : decode cX5_digest 93 = .ok (.goto (-25), 3) := by decide +kernel
theorem dX5_digest_96 : decode cX5_digest 96 = .ok (.iinc 3 1, 3) := by decide +kernel
theorem dX5_digest_99 : decode cX5_digest 99 = .ok (.goto (-39), 3) := by decide +kernel
theorem dX5_digest_102 : decode cX5_digest 102 = .ok (.iconst 0, 1) := by decide +kernel
theorem dX5_digest_103 : decode cX5_digest 103 = .ok (.istore_n 3, 1) := by decide +kernel
theorem dX5_digest_104 : decode cX5_digest 104 = .ok (.iload_n 3, 1) := by decide +kernel
theorem dX5_digest_105 : decode cX5_digest 105 = .ok (.iconst 3, 1) := by decide +kernel
theorem dX5_digest_106 : decode cX5_digest 106 = .ok (.if_icmp .ge 16, 3) := by decide +kernel
theorem dX5_digest_109 : decode cX5_digest 109 = .ok (.aload_n 0, 1) := by decide +kernel
theorem dX5_digest_110 : decode cX5_digest 110 = .ok (.lload_n 1, 1) := by decide +kernel
theorem dX5_digest_111 : decode cX5_digest 111 = .ok (.iload_n 3, 1) := by decide +kernel
theorem dX5_digest_112 : decode cX5_digest 112 = .ok (.invokevirtual 239, 3) := by decide +kernel
theorem dX5_digest_115 : decode cX5_digest 115 = .ok (.lstore_n 1, 1) := by decide +kernel
theorem dX5_digest_116 : decode cX5_digest 116 = .ok (.iinc 3 1, 3) := by decide +kernel
theorem dX5_digest_119 : decode cX5_digest 119 = .ok (.goto (-15), 3) := by decide +kernel
theorem dX5_digest_122 : decode cX5_digest 122 = .ok (.iconst 0, 1) := by decide +kernel
theorem dX5_digest_123 : decode cX5_digest 123 = .ok (.istore_n 3, 1) := by decide +kernel
theorem dX5_digest_124 : decode cX5_digest 124 = .ok (.iload_n 3, 1) := by decide +kernel
theorem dX5_digest_125 : decode cX5_digest 125 = .ok (.iconst 2, 1) := by decide +kernel
theorem dX5_digest_126 : decode cX5_digest 126 = .ok (.if_icmp .ge 16, 3) := by decide +kernel
theorem dX5_digest_129 : decode cX5_digest 129 = .ok (.aload_n 0, 1) := by decide +kernel
theorem dX5_digest_130 : decode cX5_digest 130 = .ok (.lload_n 1, 1) := by decide +kernel
theorem dX5_digest_131 : decode cX5_digest 131 = .ok (.iload_n 3, 1) := by decide +kernel
theorem dX5_digest_132 : decode cX5_digest 132 = .ok (.invokevirtual 243, 3) := by decide +kernel
theorem dX5_digest_135 : decode cX5_digest 135 = .ok (.lstore_n 1, 1) := by decide +kernel
theorem dX5_digest_136 : decode cX5_digest 136 = .ok (.iinc 3 1, 3) := by decide +kernel
theorem dX5_digest_139 : decode cX5_digest 139 = .ok (.goto (-15), 3) := by decide +kernel
theorem dX5_digest_142 : decode cX5_digest 142 = .ok (.lload_n 1, 1) := by decide +kernel
theorem dX5_digest_143 : decode cX5_digest 143 = .ok (.lreturn, 1) := by decide +kernel
theorem dX5_outside_0 : decode cX5_outside 0 = .ok (.iload_n 0, 1) := by decide +kernel
theorem dX5_outside_1 : decode cX5_outside 1 = .ok (.ifCond .lt 8, 3) := by decide +kernel
theorem dX5_outside_4 : decode cX5_outside 4 = .ok (.iload_n 0, 1) := by decide +kernel
theorem dX5_outside_5 : decode cX5_outside 5 = .ok (.iload_n 1, 1) := by decide +kernel
theorem dX5_outside_6 : decode cX5_outside 6 = .ok (.if_icmp .lt 7, 3) := by decide +kernel
theorem dX5_outside_9 : decode cX5_outside 9 = .ok (.iconst 1, 1) := by decide +kernel
theorem dX5_outside_10 : decode cX5_outside 10 = .ok (.goto 4, 3) := by decide +kernel
theorem dX5_outside_13 : decode cX5_outside 13 = .ok (.iconst 0, 1) := by decide +kernel
theorem dX5_outside_14 : decode cX5_outside 14 = .ok (.ireturn, 1) := by decide +kernel
theorem dX5_wrongAge_0 : decode cX5_wrongAge 0 = .ok (.iload_n 1, 1) := by decide +kernel
theorem dX5_wrongAge_1 : decode cX5_wrongAge 1 = .ok (.iconst 4, 1) := by decide +kernel
theorem dX5_wrongAge_2 : decode cX5_wrongAge 2 = .ok (.invokestatic 52, 3) := by decide +kernel
theorem dX5_wrongAge_5 : decode cX5_wrongAge 5 = .ok (.ifCond .ne 23, 3) := by decide +kernel
theorem dX5_wrongAge_8 : decode cX5_wrongAge 8 = .ok (.iload_n 2, 1) := by decide +kernel
theorem dX5_wrongAge_9 : decode cX5_wrongAge 9 = .ok (.ifCond .lt 19, 3) := by decide +kernel
theorem dX5_wrongAge_12 : decode cX5_wrongAge 12 = .ok (.iload_n 2, 1) := by decide +kernel
theorem dX5_wrongAge_13 : decode cX5_wrongAge 13 = .ok (.aload_n 0, 1) := by decide +kernel
theorem dX5_wrongAge_14 : decode cX5_wrongAge 14 = .ok (.getfield 18, 3) := by decide +kernel
theorem dX5_wrongAge_17 : decode cX5_wrongAge 17 = .ok (.getfield 60, 3) := by decide +kernel
theorem dX5_wrongAge_20 : decode cX5_wrongAge 20 = .ok (.iload_n 1, 1) := by decide +kernel
theorem dX5_wrongAge_21 : decode cX5_wrongAge 21 = .ok (.aaload, 1) := by decide +kernel
theorem dX5_wrongAge_22 : decode cX5_wrongAge 22 = .ok (.getfield 69, 3) := by decide +kernel
theorem dX5_wrongAge_25 : decode cX5_wrongAge 25 = .ok (.if_icmp .le 7, 3) := by decide +kernel
theorem dX5_wrongAge_28 : decode cX5_wrongAge 28 = .ok (.iconst 1, 1) := by decide +kernel
theorem dX5_wrongAge_29 : decode cX5_wrongAge 29 = .ok (.goto 4, 3) := by decide +kernel
theorem dX5_wrongAge_32 : decode cX5_wrongAge 32 = .ok (.iconst 0, 1) := by decide +kernel
theorem dX5_wrongAge_33 : decode cX5_wrongAge 33 = .ok (.ireturn, 1) := by decide +kernel
theorem dX5_failed_0 : decode cX5_failed 0 = .ok (.iload_n 1, 1) := by decide +kernel
theorem dX5_failed_1 : decode cX5_failed 1 = .ok (.tableswitch 91 (-7) (-2) #[78, 52, 91, 91, 65, 39], 39) := by decide +kernel
theorem dX5_failed_40 : decode cX5_failed 40 = .ok (.aload_n 0, 1) := by decide +kernel
theorem dX5_failed_41 : decode cX5_failed 41 = .ok (.getfield 40, 3) := by decide +kernel
theorem dX5_failed_44 : decode cX5_failed 44 = .ok (.iconst 0, 1) := by decide +kernel
theorem dX5_failed_45 : decode cX5_failed 45 = .ok (.dup2, 1) := by decide +kernel
theorem dX5_failed_46 : decode cX5_failed 46 = .ok (.iaload, 1) := by decide +kernel
theorem dX5_failed_47 : decode cX5_failed 47 = .ok (.iconst 1, 1) := by decide +kernel
theorem dX5_failed_48 : decode cX5_failed 48 = .ok (.iadd, 1) := by decide +kernel
theorem dX5_failed_49 : decode cX5_failed 49 = .ok (.iastore, 1) := by decide +kernel
theorem dX5_failed_50 : decode cX5_failed 50 = .ok (.goto 52, 3) := by decide +kernel
theorem dX5_failed_53 : decode cX5_failed 53 = .ok (.aload_n 0, 1) := by decide +kernel
theorem dX5_failed_54 : decode cX5_failed 54 = .ok (.getfield 40, 3) := by decide +kernel
theorem dX5_failed_57 : decode cX5_failed 57 = .ok (.iconst 1, 1) := by decide +kernel
theorem dX5_failed_58 : decode cX5_failed 58 = .ok (.dup2, 1) := by decide +kernel
theorem dX5_failed_59 : decode cX5_failed 59 = .ok (.iaload, 1) := by decide +kernel
theorem dX5_failed_60 : decode cX5_failed 60 = .ok (.iconst 1, 1) := by decide +kernel
theorem dX5_failed_61 : decode cX5_failed 61 = .ok (.iadd, 1) := by decide +kernel
theorem dX5_failed_62 : decode cX5_failed 62 = .ok (.iastore, 1) := by decide +kernel
theorem dX5_failed_63 : decode cX5_failed 63 = .ok (.goto 39, 3) := by decide +kernel
theorem dX5_failed_66 : decode cX5_failed 66 = .ok (.aload_n 0, 1) := by decide +kernel
theorem dX5_failed_67 : decode cX5_failed 67 = .ok (.getfield 40, 3) := by decide +kernel
theorem dX5_failed_70 : decode cX5_failed 70 = .ok (.iconst 2, 1) := by decide +kernel
theorem dX5_failed_71 : decode cX5_failed 71 = .ok (.dup2, 1) := by decide +kernel
theorem dX5_failed_72 : decode cX5_failed 72 = .ok (.iaload, 1) := by decide +kernel
theorem dX5_failed_73 : decode cX5_failed 73 = .ok (.iconst 1, 1) := by decide +kernel
theorem dX5_failed_74 : decode cX5_failed 74 = .ok (.iadd, 1) := by decide +kernel
theorem dX5_failed_75 : decode cX5_failed 75 = .ok (.iastore, 1) := by decide +kernel
theorem dX5_failed_76 : decode cX5_failed 76 = .ok (.goto 26, 3) := by decide +kernel
theorem dX5_failed_79 : decode cX5_failed 79 = .ok (.aload_n 0, 1) := by decide +kernel
theorem dX5_failed_80 : decode cX5_failed 80 = .ok (.getfield 40, 3) := by decide +kernel
theorem dX5_failed_83 : decode cX5_failed 83 = .ok (.iconst 3, 1) := by decide +kernel
theorem dX5_failed_84 : decode cX5_failed 84 = .ok (.dup2, 1) := by decide +kernel
theorem dX5_failed_85 : decode cX5_failed 85 = .ok (.iaload, 1) := by decide +kernel
theorem dX5_failed_86 : decode cX5_failed 86 = .ok (.iconst 1, 1) := by decide +kernel
theorem dX5_failed_87 : decode cX5_failed 87 = .ok (.iadd, 1) := by decide +kernel
theorem dX5_failed_88 : decode cX5_failed 88 = .ok (.iastore, 1) := by decide +kernel
theorem dX5_failed_89 : decode cX5_failed 89 = .ok (.goto 13, 3) := by decide +kernel
theorem dX5_failed_92 : decode cX5_failed 92 = .ok (.aload_n 0, 1) := by decide +kernel
theorem dX5_failed_93 : decode cX5_failed 93 = .ok (.getfield 40, 3) := by decide +kernel
theorem dX5_failed_96 : decode cX5_failed 96 = .ok (.iconst 4, 1) := by decide +kernel
theorem dX5_failed_97 : decode cX5_failed 97 = .ok (.dup2, 1) := by decide +kernel
theorem dX5_failed_98 : decode cX5_failed 98 = .ok (.iaload, 1) := by decide +kernel
theorem dX5_failed_99 : decode cX5_failed 99 = .ok (.iconst 1, 1) := by decide +kernel
theorem dX5_failed_100 : decode cX5_failed 100 = .ok (.iadd, 1) := by decide +kernel
theorem dX5_failed_101 : decode cX5_failed 101 = .ok (.iastore, 1) := by decide +kernel
theorem dX5_failed_102 : decode cX5_failed 102 = .ok (.iload_n 1, 1) := by decide +kernel
theorem dX5_failed_103 : decode cX5_failed 103 = .ok (.ireturn, 1) := by decide +kernel
theorem dX5_keep_0 : decode cX5_keep 0 = .ok (.aload_n 0, 1) := by decide +kernel
theorem dX5_keep_1 : decode cX5_keep 1 = .ok (.getfield 47, 3) := by decide +kernel
theorem dX5_keep_4 : decode cX5_keep 4 = .ok (.ifCond .eq 4, 3) := by decide +kernel
theorem dX5_keep_7 : decode cX5_keep 7 = .ok (.return_, 1) := by decide +kernel
theorem dX5_keep_8 : decode cX5_keep 8 = .ok (.iconst 0, 1) := by decide +kernel
theorem dX5_keep_9 : decode cX5_keep 9 = .ok (.istore_n 1, 1) := by decide +kernel
theorem dX5_keep_10 : decode cX5_keep 10 = .ok (.iload_n 1, 1) := by decide +kernel
theorem dX5_keep_11 : decode cX5_keep 11 = .ok (.iconst 3, 1) := by decide +kernel
theorem dX5_keep_12 : decode cX5_keep 12 = .ok (.if_icmp .ge 27, 3) := by decide +kernel
theorem dX5_keep_15 : decode cX5_keep 15 = .ok (.aload_n 0, 1) := by decide +kernel
theorem dX5_keep_16 : decode cX5_keep 16 = .ok (.getfield 18, 3) := by decide +kernel
theorem dX5_keep_19 : decode cX5_keep 19 = .ok (.getfield 220, 3) := by decide +kernel
theorem dX5_keep_22 : decode cX5_keep 22 = .ok (.iload_n 1, 1) := by decide +kernel
theorem dX5_keep_23 : decode cX5_keep 23 = .ok (.aload_n 0, 1) := by decide +kernel
theorem dX5_keep_24 : decode cX5_keep 24 = .ok (.getfield 11, 3) := by decide +kernel
theorem dX5_keep_27 : decode cX5_keep 27 = .ok (.iload_n 1, 1) := by decide +kernel
theorem dX5_keep_28 : decode cX5_keep 28 = .ok (.aaload, 1) := by decide +kernel
theorem dX5_keep_29 : decode cX5_keep 29 = .ok (.getfield 99, 3) := by decide +kernel
theorem dX5_keep_32 : decode cX5_keep 32 = .ok (.iastore, 1) := by decide +kernel
theorem dX5_keep_33 : decode cX5_keep 33 = .ok (.iinc 1 1, 3) := by decide +kernel
theorem dX5_keep_36 : decode cX5_keep 36 = .ok (.goto (-26), 3) := by decide +kernel
theorem dX5_keep_39 : decode cX5_keep 39 = .ok (.aload_n 0, 1) := by decide +kernel
theorem dX5_keep_40 : decode cX5_keep 40 = .ok (.getfield 22, 3) := by decide +kernel
theorem dX5_keep_43 : decode cX5_keep 43 = .ok (.aload_n 0, 1) := by decide +kernel
theorem dX5_keep_44 : decode cX5_keep 44 = .ok (.getfield 30, 3) := by decide +kernel
theorem dX5_keep_47 : decode cX5_keep 47 = .ok (.aaload, 1) := by decide +kernel
theorem dX5_keep_48 : decode cX5_keep 48 = .ok (.aload_n 0, 1) := by decide +kernel
theorem dX5_keep_49 : decode cX5_keep 49 = .ok (.getfield 18, 3) := by decide +kernel
theorem dX5_keep_52 : decode cX5_keep 52 = .ok (.invokevirtual 216, 3) := by decide +kernel
theorem dX5_keep_55 : decode cX5_keep 55 = .ok (.aload_n 0, 1) := by decide +kernel
theorem dX5_keep_56 : decode cX5_keep 56 = .ok (.aload_n 0, 1) := by decide +kernel
theorem dX5_keep_57 : decode cX5_keep 57 = .ok (.getfield 30, 3) := by decide +kernel
theorem dX5_keep_60 : decode cX5_keep 60 = .ok (.iconst 1, 1) := by decide +kernel
theorem dX5_keep_61 : decode cX5_keep 61 = .ok (.iadd, 1) := by decide +kernel
theorem dX5_keep_62 : decode cX5_keep 62 = .ok (.bipush 6, 2) := by decide +kernel
theorem dX5_keep_64 : decode cX5_keep 64 = .ok (.irem, 1) := by decide +kernel
theorem dX5_keep_65 : decode cX5_keep 65 = .ok (.putfield 30, 3) := by decide +kernel
theorem dX5_keep_68 : decode cX5_keep 68 = .ok (.aload_n 0, 1) := by decide +kernel
theorem dX5_keep_69 : decode cX5_keep 69 = .ok (.aload_n 0, 1) := by decide +kernel
theorem dX5_keep_70 : decode cX5_keep 70 = .ok (.getfield 26, 3) := by decide +kernel
theorem dX5_keep_73 : decode cX5_keep 73 = .ok (.iconst 1, 1) := by decide +kernel
theorem dX5_keep_74 : decode cX5_keep 74 = .ok (.iadd, 1) := by decide +kernel
theorem dX5_keep_75 : decode cX5_keep 75 = .ok (.bipush 6, 2) := by decide +kernel
theorem dX5_keep_77 : decode cX5_keep 77 = .ok (.invokestatic 246, 3) := by decide +kernel
theorem dX5_keep_80 : decode cX5_keep 80 = .ok (.putfield 26, 3) := by decide +kernel
theorem dX5_keep_83 : decode cX5_keep 83 = .ok (.return_, 1) := by decide +kernel
theorem dX5_endDeed_0 : decode cX5_endDeed 0 = .ok (.aload_n 1, 1) := by decide +kernel
theorem dX5_endDeed_1 : decode cX5_endDeed 1 = .ok (.iconst 2, 1) := by decide +kernel
theorem dX5_endDeed_2 : decode cX5_endDeed 2 = .ok (.putfield 64, 3) := by decide +kernel
theorem dX5_endDeed_5 : decode cX5_endDeed 5 = .ok (.aload_n 1, 1) := by decide +kernel
theorem dX5_endDeed_6 : decode cX5_endDeed 6 = .ok (.iload_n 2, 1) := by decide +kernel
theorem dX5_endDeed_7 : decode cX5_endDeed 7 = .ok (.putfield 140, 3) := by decide +kernel
theorem dX5_endDeed_10 : decode cX5_endDeed 10 = .ok (.aload_n 1, 1) := by decide +kernel
theorem dX5_endDeed_11 : decode cX5_endDeed 11 = .ok (.aload_n 0, 1) := by decide +kernel
theorem dX5_endDeed_12 : decode cX5_endDeed 12 = .ok (.getfield 18, 3) := by decide +kernel
theorem dX5_endDeed_15 : decode cX5_endDeed 15 = .ok (.getfield 82, 3) := by decide +kernel
theorem dX5_endDeed_18 : decode cX5_endDeed 18 = .ok (.invokevirtual 251, 3) := by decide +kernel
theorem dX5_endDeed_21 : decode cX5_endDeed 21 = .ok (.istore_n 3, 1) := by decide +kernel
theorem dX5_endDeed_22 : decode cX5_endDeed 22 = .ok (.iload_n 3, 1) := by decide +kernel
theorem dX5_endDeed_23 : decode cX5_endDeed 23 = .ok (.ifCond .ne 8, 3) := by decide +kernel
theorem dX5_endDeed_26 : decode cX5_endDeed 26 = .ok (.aload_n 0, 1) := by decide +kernel
theorem dX5_endDeed_27 : decode cX5_endDeed 27 = .ok (.aload_n 1, 1) := by decide +kernel
theorem dX5_endDeed_28 : decode cX5_endDeed 28 = .ok (.invokevirtual 254, 3) := by decide +kernel
theorem dX5_endDeed_31 : decode cX5_endDeed 31 = .ok (.iload_n 3, 1) := by decide +kernel
theorem dX5_endDeed_32 : decode cX5_endDeed 32 = .ok (.ireturn, 1) := by decide +kernel
theorem dX5_finishDeed_0 : decode cX5_finishDeed 0 = .ok (.aload_n 1, 1) := by decide +kernel
theorem dX5_finishDeed_1 : decode cX5_finishDeed 1 = .ok (.getfield 140, 3) := by decide +kernel
theorem dX5_finishDeed_4 : decode cX5_finishDeed 4 = .ok (.iconst 1, 1) := by decide +kernel
theorem dX5_finishDeed_5 : decode cX5_finishDeed 5 = .ok (.if_icmp .ne 35, 3) := by decide +kernel
theorem dX5_finishDeed_8 : decode cX5_finishDeed 8 = .ok (.iconst 0, 1) := by decide +kernel
theorem dX5_finishDeed_9 : decode cX5_finishDeed 9 = .ok (.istore_n 2, 1) := by decide +kernel
theorem dX5_finishDeed_10 : decode cX5_finishDeed 10 = .ok (.iload_n 2, 1) := by decide +kernel
theorem dX5_finishDeed_11 : decode cX5_finishDeed 11 = .ok (.iconst 2, 1) := by decide +kernel
theorem dX5_finishDeed_12 : decode cX5_finishDeed 12 = .ok (.if_icmp .ge 28, 3) := by decide +kernel
theorem dX5_finishDeed_15 : decode cX5_finishDeed 15 = .ok (.aload_n 0, 1) := by decide +kernel
theorem dX5_finishDeed_16 : decode cX5_finishDeed 16 = .ok (.getfield 18, 3) := by decide +kernel
theorem dX5_finishDeed_19 : decode cX5_finishDeed 19 = .ok (.getfield 112, 3) := by decide +kernel
theorem dX5_finishDeed_22 : decode cX5_finishDeed 22 = .ok (.iload_n 2, 1) := by decide +kernel
theorem dX5_finishDeed_23 : decode cX5_finishDeed 23 = .ok (.aaload, 1) := by decide +kernel
theorem dX5_finishDeed_24 : decode cX5_finishDeed 24 = .ok (.aload_n 1, 1) := by decide +kernel
theorem dX5_finishDeed_25 : decode cX5_finishDeed 25 = .ok (.getfield 121, 3) := by decide +kernel
theorem dX5_finishDeed_28 : decode cX5_finishDeed 28 = .ok (.iload_n 2, 1) := by decide +kernel
theorem dX5_finishDeed_29 : decode cX5_finishDeed 29 = .ok (.iconst 3, 1) := by decide +kernel
theorem dX5_finishDeed_30 : decode cX5_finishDeed 30 = .ok (.imul, 1) := by decide +kernel
theorem dX5_finishDeed_31 : decode cX5_finishDeed 31 = .ok (.invokevirtual 258, 3) := by decide +kernel
theorem dX5_finishDeed_34 : decode cX5_finishDeed 34 = .ok (.iinc 2 1, 3) := by decide +kernel
theorem dX5_finishDeed_37 : decode cX5_finishDeed 37 = .ok (.goto (-27), 3) := by decide +kernel
theorem dX5_finishDeed_40 : decode cX5_finishDeed 40 = .ok (.aload_n 1, 1) := by decide +kernel
theorem dX5_finishDeed_41 : decode cX5_finishDeed 41 = .ok (.invokevirtual 262, 3) := by decide +kernel
theorem dX5_finishDeed_44 : decode cX5_finishDeed 44 = .ok (.return_, 1) := by decide +kernel
theorem dX5_writeMarkers_0 : decode cX5_writeMarkers 0 = .ok (.iconst 0, 1) := by decide +kernel
theorem dX5_writeMarkers_1 : decode cX5_writeMarkers 1 = .ok (.istore_n 1, 1) := by decide +kernel
theorem dX5_writeMarkers_2 : decode cX5_writeMarkers 2 = .ok (.iconst 0, 1) := by decide +kernel
theorem dX5_writeMarkers_3 : decode cX5_writeMarkers 3 = .ok (.istore_n 2, 1) := by decide +kernel
theorem dX5_writeMarkers_4 : decode cX5_writeMarkers 4 = .ok (.iload_n 2, 1) := by decide +kernel
theorem dX5_writeMarkers_5 : decode cX5_writeMarkers 5 = .ok (.iconst 4, 1) := by decide +kernel
theorem dX5_writeMarkers_6 : decode cX5_writeMarkers 6 = .ok (.if_icmp .ge 87, 3) := by decide +kernel
theorem dX5_writeMarkers_9 : decode cX5_writeMarkers 9 = .ok (.aload_n 0, 1) := by decide +kernel
theorem dX5_writeMarkers_10 : decode cX5_writeMarkers 10 = .ok (.getfield 18, 3) := by decide +kernel
theorem dX5_writeMarkers_13 : decode cX5_writeMarkers 13 = .ok (.getfield 60, 3) := by decide +kernel
theorem dX5_writeMarkers_16 : decode cX5_writeMarkers 16 = .ok (.iload_n 2, 1) := by decide +kernel
theorem dX5_writeMarkers_17 : decode cX5_writeMarkers 17 = .ok (.aaload, 1) := by decide +kernel
theorem dX5_writeMarkers_18 : decode cX5_writeMarkers 18 = .ok (.astore_n 3, 1) := by decide +kernel
theorem dX5_writeMarkers_19 : decode cX5_writeMarkers 19 = .ok (.aload_n 3, 1) := by decide +kernel
theorem dX5_writeMarkers_20 : decode cX5_writeMarkers 20 = .ok (.aload_n 0, 1) := by decide +kernel
theorem dX5_writeMarkers_21 : decode cX5_writeMarkers 21 = .ok (.getfield 18, 3) := by decide +kernel
theorem dX5_writeMarkers_24 : decode cX5_writeMarkers 24 = .ok (.getfield 82, 3) := by decide +kernel
theorem dX5_writeMarkers_27 : decode cX5_writeMarkers 27 = .ok (.invokevirtual 265, 3) := by decide +kernel
theorem dX5_writeMarkers_30 : decode cX5_writeMarkers 30 = .ok (.istore 4, 2) := by decide +kernel
theorem dX5_writeMarkers_32 : decode cX5_writeMarkers 32 = .ok (.iload 4, 2) := by decide +kernel
theorem dX5_writeMarkers_34 : decode cX5_writeMarkers 34 = .ok (.iconst (-1), 1) := by decide +kernel
theorem dX5_writeMarkers_35 : decode cX5_writeMarkers 35 = .ok (.if_icmp .eq 52, 3) := by decide +kernel
theorem dX5_writeMarkers_38 : decode cX5_writeMarkers 38 = .ok (.aload_n 0, 1) := by decide +kernel
theorem dX5_writeMarkers_39 : decode cX5_writeMarkers 39 = .ok (.getfield 11, 3) := by decide +kernel
theorem dX5_writeMarkers_42 : decode cX5_writeMarkers 42 = .ok (.iload 4, 2) := by decide +kernel
theorem dX5_writeMarkers_44 : decode cX5_writeMarkers 44 = .ok (.aaload, 1) := by decide +kernel
theorem dX5_writeMarkers_45 : decode cX5_writeMarkers 45 = .ok (.iload_n 2, 1) := by decide +kernel
theorem dX5_writeMarkers_46 : decode cX5_writeMarkers 46 = .ok (.aload_n 3, 1) := by decide +kernel
theorem dX5_writeMarkers_47 : decode cX5_writeMarkers 47 = .ok (.getfield 69, 3) := by decide +kernel
theorem dX5_writeMarkers_50 : decode cX5_writeMarkers 50 = .ok (.aload_n 3, 1) := by decide +kernel
theorem dX5_writeMarkers_51 : decode cX5_writeMarkers 51 = .ok (.getfield 140, 3) := by decide +kernel
theorem dX5_writeMarkers_54 : decode cX5_writeMarkers 54 = .ok (.aload_n 3, 1) := by decide +kernel
theorem dX5_writeMarkers_55 : decode cX5_writeMarkers 55 = .ok (.getfield 105, 3) := by decide +kernel
theorem dX5_writeMarkers_58 : decode cX5_writeMarkers 58 = .ok (.iload 4, 2) := by decide +kernel
theorem dX5_writeMarkers_60 : decode cX5_writeMarkers 60 = .ok (.iaload, 1) := by decide +kernel
theorem dX5_writeMarkers_61 : decode cX5_writeMarkers 61 = .ok (.invokevirtual 268, 3) := by decide +kernel
theorem dX5_writeMarkers_64 : decode cX5_writeMarkers 64 = .ok (.aload_n 3, 1) := by decide +kernel
theorem dX5_writeMarkers_65 : decode cX5_writeMarkers 65 = .ok (.getfield 272, 3) := by decide +kernel
theorem dX5_writeMarkers_68 : decode cX5_writeMarkers 68 = .ok (.iload 4, 2) := by decide +kernel
theorem dX5_writeMarkers_70 : decode cX5_writeMarkers 70 = .ok (.iconst 0, 1) := by decide +kernel
theorem dX5_writeMarkers_71 : decode cX5_writeMarkers 71 = .ok (.iastore, 1) := by decide +kernel
theorem dX5_writeMarkers_72 : decode cX5_writeMarkers 72 = .ok (.iinc 1 1, 3) := by decide +kernel
theorem dX5_writeMarkers_75 : decode cX5_writeMarkers 75 = .ok (.aload_n 3, 1) := by decide +kernel
theorem dX5_writeMarkers_76 : decode cX5_writeMarkers 76 = .ok (.invokevirtual 137, 3) := by decide +kernel
theorem dX5_writeMarkers_79 : decode cX5_writeMarkers 79 = .ok (.ifCond .ne 8, 3) := by decide +kernel
theorem dX5_writeMarkers_82 : decode cX5_writeMarkers 82 = .ok (.aload_n 0, 1) := by decide +kernel
theorem dX5_writeMarkers_83 : decode cX5_writeMarkers 83 = .ok (.aload_n 3, 1) := by decide +kernel
theorem dX5_writeMarkers_84 : decode cX5_writeMarkers 84 = .ok (.invokevirtual 254, 3) := by decide +kernel
theorem dX5_writeMarkers_87 : decode cX5_writeMarkers 87 = .ok (.iinc 2 1, 3) := by decide +kernel
theorem dX5_writeMarkers_90 : decode cX5_writeMarkers 90 = .ok (.goto (-86), 3) := by decide +kernel
theorem dX5_writeMarkers_93 : decode cX5_writeMarkers 93 = .ok (.iload_n 1, 1) := by decide +kernel
theorem dX5_writeMarkers_94 : decode cX5_writeMarkers 94 = .ok (.ireturn, 1) := by decide +kernel
theorem dX5_abortHanging_0 : decode cX5_abortHanging 0 = .ok (.iconst 0, 1) := by decide +kernel
theorem dX5_abortHanging_1 : decode cX5_abortHanging 1 = .ok (.istore_n 1, 1) := by decide +kernel
theorem dX5_abortHanging_2 : decode cX5_abortHanging 2 = .ok (.iload_n 1, 1) := by decide +kernel
theorem dX5_abortHanging_3 : decode cX5_abortHanging 3 = .ok (.iconst 4, 1) := by decide +kernel
theorem dX5_abortHanging_4 : decode cX5_abortHanging 4 = .ok (.if_icmp .ge 66, 3) := by decide +kernel
theorem dX5_abortHanging_7 : decode cX5_abortHanging 7 = .ok (.aload_n 0, 1) := by decide +kernel
theorem dX5_abortHanging_8 : decode cX5_abortHanging 8 = .ok (.getfield 18, 3) := by decide +kernel
theorem dX5_abortHanging_11 : decode cX5_abortHanging 11 = .ok (.getfield 60, 3) := by decide +kernel
theorem dX5_abortHanging_14 : decode cX5_abortHanging 14 = .ok (.iload_n 1, 1) := by decide +kernel
theorem dX5_abortHanging_15 : decode cX5_abortHanging 15 = .ok (.aaload, 1) := by decide +kernel
theorem dX5_abortHanging_16 : decode cX5_abortHanging 16 = .ok (.astore_n 2, 1) := by decide +kernel
theorem dX5_abortHanging_17 : decode cX5_abortHanging 17 = .ok (.aload_n 2, 1) := by decide +kernel
theorem dX5_abortHanging_18 : decode cX5_abortHanging 18 = .ok (.getfield 64, 3) := by decide +kernel
theorem dX5_abortHanging_21 : decode cX5_abortHanging 21 = .ok (.iconst 1, 1) := by decide +kernel
theorem dX5_abortHanging_22 : decode cX5_abortHanging 22 = .ok (.if_icmp .ne 42, 3) := by decide +kernel
theorem dX5_abortHanging_25 : decode cX5_abortHanging 25 = .ok (.aload_n 0, 1) := by decide +kernel
theorem dX5_abortHanging_26 : decode cX5_abortHanging 26 = .ok (.getfield 18, 3) := by decide +kernel
theorem dX5_abortHanging_29 : decode cX5_abortHanging 29 = .ok (.getfield 82, 3) := by decide +kernel
theorem dX5_abortHanging_32 : decode cX5_abortHanging 32 = .ok (.aload_n 2, 1) := by decide +kernel
theorem dX5_abortHanging_33 : decode cX5_abortHanging 33 = .ok (.getfield 85, 3) := by decide +kernel
theorem dX5_abortHanging_36 : decode cX5_abortHanging 36 = .ok (.isub, 1) := by decide +kernel
theorem dX5_abortHanging_37 : decode cX5_abortHanging 37 = .ok (.aload_n 0, 1) := by decide +kernel
theorem dX5_abortHanging_38 : decode cX5_abortHanging 38 = .ok (.getfield 18, 3) := by decide +kernel
theorem dX5_abortHanging_41 : decode cX5_abortHanging 41 = .ok (.getfield 131, 3) := by decide +kernel
theorem dX5_abortHanging_44 : decode cX5_abortHanging 44 = .ok (.if_icmp .lt 20, 3) := by decide +kernel
theorem dX5_abortHanging_47 : decode cX5_abortHanging 47 = .ok (.aload_n 2, 1) := by decide +kernel
theorem dX5_abortHanging_48 : decode cX5_abortHanging 48 = .ok (.dup, 1) := by decide +kernel
theorem dX5_abortHanging_49 : decode cX5_abortHanging 49 = .ok (.getfield 69, 3) := by decide +kernel
theorem dX5_abortHanging_52 : decode cX5_abortHanging 52 = .ok (.iconst 1, 1) := by decide +kernel
theorem dX5_abortHanging_53 : decode cX5_abortHanging 53 = .ok (.iadd, 1) := by decide +kernel
theorem dX5_abortHanging_54 : decode cX5_abortHanging 54 = .ok (.putfield 69, 3) := by decide +kernel
theorem dX5_abortHanging_57 : decode cX5_abortHanging 57 = .ok (.aload_n 0, 1) := by decide +kernel
theorem dX5_abortHanging_58 : decode cX5_abortHanging 58 = .ok (.aload_n 2, 1) := by decide +kernel
theorem dX5_abortHanging_59 : decode cX5_abortHanging 59 = .ok (.iconst 0, 1) := by decide +kernel
theorem dX5_abortHanging_60 : decode cX5_abortHanging 60 = .ok (.invokevirtual 75, 3) := by decide +kernel
theorem dX5_abortHanging_63 : decode cX5_abortHanging 63 = .ok (.pop, 1) := by decide +kernel
theorem dX5_abortHanging_64 : decode cX5_abortHanging 64 = .ok (.iinc 1 1, 3) := by decide +kernel
theorem dX5_abortHanging_67 : decode cX5_abortHanging 67 = .ok (.goto (-65), 3) := by decide +kernel
theorem dX5_abortHanging_70 : decode cX5_abortHanging 70 = .ok (.return_, 1) := by decide +kernel
theorem dX5_producersIn_0 : decode cX5_producersIn 0 = .ok (.iconst 0, 1) := by decide +kernel
theorem dX5_producersIn_1 : decode cX5_producersIn 1 = .ok (.istore_n 2, 1) := by decide +kernel
theorem dX5_producersIn_2 : decode cX5_producersIn 2 = .ok (.iconst 0, 1) := by decide +kernel
theorem dX5_producersIn_3 : decode cX5_producersIn 3 = .ok (.istore_n 3, 1) := by decide +kernel
theorem dX5_producersIn_4 : decode cX5_producersIn 4 = .ok (.iload_n 3, 1) := by decide +kernel
theorem dX5_producersIn_5 : decode cX5_producersIn 5 = .ok (.iconst 4, 1) := by decide +kernel
theorem dX5_producersIn_6 : decode cX5_producersIn 6 = .ok (.if_icmp .ge 28, 3) := by decide +kernel
theorem dX5_producersIn_9 : decode cX5_producersIn 9 = .ok (.aload_n 0, 1) := by decide +kernel
theorem dX5_producersIn_10 : decode cX5_producersIn 10 = .ok (.getfield 18, 3) := by decide +kernel
theorem dX5_producersIn_13 : decode cX5_producersIn 13 = .ok (.getfield 60, 3) := by decide +kernel
theorem dX5_producersIn_16 : decode cX5_producersIn 16 = .ok (.iload_n 3, 1) := by decide +kernel
theorem dX5_producersIn_17 : decode cX5_producersIn 17 = .ok (.aaload, 1) := by decide +kernel
theorem dX5_producersIn_18 : decode cX5_producersIn 18 = .ok (.getfield 64, 3) := by decide +kernel
theorem dX5_producersIn_21 : decode cX5_producersIn 21 = .ok (.iload_n 1, 1) := by decide +kernel
theorem dX5_producersIn_22 : decode cX5_producersIn 22 = .ok (.if_icmp .ne 6, 3) := by decide +kernel
theorem dX5_producersIn_25 : decode cX5_producersIn 25 = .ok (.iinc 2 1, 3) := by decide +kernel
theorem dX5_producersIn_28 : decode cX5_producersIn 28 = .ok (.iinc 3 1, 3) := by decide +kernel
theorem dX5_producersIn_31 : decode cX5_producersIn 31 = .ok (.goto (-27), 3) := by decide +kernel
theorem dX5_producersIn_34 : decode cX5_producersIn 34 = .ok (.iload_n 2, 1) := by decide +kernel
theorem dX5_producersIn_35 : decode cX5_producersIn 35 = .ok (.ireturn, 1) := by decide +kernel
theorem dX5_reserve_0 : decode cX5_reserve 0 = .ok (.aload_n 0, 1) := by decide +kernel
theorem dX5_reserve_1 : decode cX5_reserve 1 = .ok (.iconst 1, 1) := by decide +kernel
theorem dX5_reserve_2 : decode cX5_reserve 2 = .ok (.invokevirtual 88, 3) := by decide +kernel
theorem dX5_reserve_5 : decode cX5_reserve 5 = .ok (.istore_n 2, 1) := by decide +kernel
theorem dX5_reserve_6 : decode cX5_reserve 6 = .ok (.iconst 0, 1) := by decide +kernel
theorem dX5_reserve_7 : decode cX5_reserve 7 = .ok (.istore_n 3, 1) := by decide +kernel
theorem dX5_reserve_8 : decode cX5_reserve 8 = .ok (.iload_n 3, 1) := by decide +kernel
theorem dX5_reserve_9 : decode cX5_reserve 9 = .ok (.iconst 4, 1) := by decide +kernel
theorem dX5_reserve_10 : decode cX5_reserve 10 = .ok (.if_icmp .ge 29, 3) := by decide +kernel
theorem dX5_reserve_13 : decode cX5_reserve 13 = .ok (.aload_n 0, 1) := by decide +kernel
theorem dX5_reserve_14 : decode cX5_reserve 14 = .ok (.getfield 18, 3) := by decide +kernel
theorem dX5_reserve_17 : decode cX5_reserve 17 = .ok (.getfield 60, 3) := by decide +kernel
theorem dX5_reserve_20 : decode cX5_reserve 20 = .ok (.iload_n 3, 1) := by decide +kernel
theorem dX5_reserve_21 : decode cX5_reserve 21 = .ok (.aaload, 1) := by decide +kernel
theorem dX5_reserve_22 : decode cX5_reserve 22 = .ok (.getfield 272, 3) := by decide +kernel
theorem dX5_reserve_25 : decode cX5_reserve 25 = .ok (.iload_n 1, 1) := by decide +kernel
theorem dX5_reserve_26 : decode cX5_reserve 26 = .ok (.iaload, 1) := by decide +kernel
theorem dX5_reserve_27 : decode cX5_reserve 27 = .ok (.ifCond .eq 6, 3) := by decide +kernel
theorem dX5_reserve_30 : decode cX5_reserve 30 = .ok (.iinc 2 1, 3) := by decide +kernel
theorem dX5_reserve_33 : decode cX5_reserve 33 = .ok (.iinc 3 1, 3) := by decide +kernel
theorem dX5_reserve_36 : decode cX5_reserve 36 = .ok (.goto (-28), 3) := by decide +kernel
theorem dX5_reserve_39 : decode cX5_reserve 39 = .ok (.iload_n 2, 1) := by decide +kernel
theorem dX5_reserve_40 : decode cX5_reserve 40 = .ok (.ireturn, 1) := by decide +kernel
theorem dX5_holder_0 : decode cX5_holder 0 = .ok (.iconst (-1), 1) := by decide +kernel
theorem dX5_holder_1 : decode cX5_holder 1 = .ok (.istore_n 2, 1) := by decide +kernel
theorem dX5_holder_2 : decode cX5_holder 2 = .ok (.bipush 48, 2) := by decide +kernel
theorem dX5_holder_4 : decode cX5_holder 4 = .ok (.istore_n 3, 1) := by decide +kernel
theorem dX5_holder_5 : decode cX5_holder 5 = .ok (.iconst 0, 1) := by decide +kernel
theorem dX5_holder_6 : decode cX5_holder 6 = .ok (.istore 4, 2) := by decide +kernel
theorem dX5_holder_8 : decode cX5_holder 8 = .ok (.iload 4, 2) := by decide +kernel
theorem dX5_holder_10 : decode cX5_holder 10 = .ok (.iconst 4, 1) := by decide +kernel
theorem dX5_holder_11 : decode cX5_holder 11 = .ok (.if_icmp .ge 52, 3) := by decide +kernel
theorem dX5_holder_14 : decode cX5_holder 14 = .ok (.aload_n 0, 1) := by decide +kernel
theorem dX5_holder_15 : decode cX5_holder 15 = .ok (.getfield 18, 3) := by decide +kernel
theorem dX5_holder_18 : decode cX5_holder 18 = .ok (.getfield 60, 3) := by decide +kernel
theorem dX5_holder_21 : decode cX5_holder 21 = .ok (.iload 4, 2) := by decide +kernel
theorem dX5_holder_23 : decode cX5_holder 23 = .ok (.aaload, 1) := by decide +kernel
theorem dX5_holder_24 : decode cX5_holder 24 = .ok (.astore 5, 2) := by decide +kernel
theorem dX5_holder_26 : decode cX5_holder 26 = .ok (.aload 5, 2) := by decide +kernel
theorem dX5_holder_28 : decode cX5_holder 28 = .ok (.iload_n 1, 1) := by decide +kernel
theorem dX5_holder_29 : decode cX5_holder 29 = .ok (.invokevirtual 275, 3) := by decide +kernel
theorem dX5_holder_32 : decode cX5_holder 32 = .ok (.ifCond .eq 25, 3) := by decide +kernel
theorem dX5_holder_35 : decode cX5_holder 35 = .ok (.aload 5, 2) := by decide +kernel
theorem dX5_holder_37 : decode cX5_holder 37 = .ok (.getfield 105, 3) := by decide +kernel
theorem dX5_holder_40 : decode cX5_holder 40 = .ok (.iload_n 1, 1) := by decide +kernel
theorem dX5_holder_41 : decode cX5_holder 41 = .ok (.iaload, 1) := by decide +kernel
theorem dX5_holder_42 : decode cX5_holder 42 = .ok (.iload_n 3, 1) := by decide +kernel
theorem dX5_holder_43 : decode cX5_holder 43 = .ok (.if_icmp .ge 14, 3) := by decide +kernel
theorem dX5_holder_46 : decode cX5_holder 46 = .ok (.iload 4, 2) := by decide +kernel
theorem dX5_holder_48 : decode cX5_holder 48 = .ok (.istore_n 2, 1) := by decide +kernel
theorem dX5_holder_49 : decode cX5_holder 49 = .ok (.aload 5, 2) := by decide +kernel
theorem dX5_holder_51 : decode cX5_holder 51 = .ok (.getfield 105, 3) := by decide +kernel
theorem dX5_holder_54 : decode cX5_holder 54 = .ok (.iload_n 1, 1) := by decide +kernel
theorem dX5_holder_55 : decode cX5_holder 55 = .ok (.iaload, 1) := by decide +kernel
theorem dX5_holder_56 : decode cX5_holder 56 = .ok (.istore_n 3, 1) := by decide +kernel
theorem dX5_holder_57 : decode cX5_holder 57 = .ok (.iinc 4 1, 3) := by decide +kernel
theorem dX5_holder_60 : decode cX5_holder 60 = .ok (.goto (-52), 3) := by decide +kernel
theorem dX5_holder_63 : decode cX5_holder 63 = .ok (.iload_n 2, 1) := by decide +kernel
theorem dX5_holder_64 : decode cX5_holder 64 = .ok (.ireturn, 1) := by decide +kernel
theorem dX5_stable_0 : decode cX5_stable 0 = .ok (.aload_n 0, 1) := by decide +kernel
theorem dX5_stable_1 : decode cX5_stable 1 = .ok (.iload_n 1, 1) := by decide +kernel
theorem dX5_stable_2 : decode cX5_stable 2 = .ok (.invokevirtual 170, 3) := by decide +kernel
theorem dX5_stable_5 : decode cX5_stable 5 = .ok (.istore_n 2, 1) := by decide +kernel
theorem dX5_stable_6 : decode cX5_stable 6 = .ok (.iload_n 2, 1) := by decide +kernel
theorem dX5_stable_7 : decode cX5_stable 7 = .ok (.iconst (-1), 1) := by decide +kernel
theorem dX5_stable_8 : decode cX5_stable 8 = .ok (.if_icmp .ne 15, 3) := by decide +kernel
theorem dX5_stable_11 : decode cX5_stable 11 = .ok (.aload_n 0, 1) := by decide +kernel
theorem dX5_stable_12 : decode cX5_stable 12 = .ok (.getfield 11, 3) := by decide +kernel
theorem dX5_stable_15 : decode cX5_stable 15 = .ok (.iload_n 1, 1) := by decide +kernel
theorem dX5_stable_16 : decode cX5_stable 16 = .ok (.aaload, 1) := by decide +kernel
theorem dX5_stable_17 : decode cX5_stable 17 = .ok (.getfield 99, 3) := by decide +kernel
theorem dX5_stable_20 : decode cX5_stable 20 = .ok (.goto 17, 3) := by decide +kernel
theorem dX5_stable_23 : decode cX5_stable 23 = .ok (.aload_n 0, 1) := by decide +kernel
theorem dX5_stable_24 : decode cX5_stable 24 = .ok (.getfield 18, 3) := by decide +kernel
theorem dX5_stable_27 : decode cX5_stable 27 = .ok (.getfield 60, 3) := by decide +kernel
theorem dX5_stable_30 : decode cX5_stable 30 = .ok (.iload_n 2, 1) := by decide +kernel
theorem dX5_stable_31 : decode cX5_stable 31 = .ok (.aaload, 1) := by decide +kernel
theorem dX5_stable_32 : decode cX5_stable 32 = .ok (.getfield 105, 3) := by decide +kernel
theorem dX5_stable_35 : decode cX5_stable 35 = .ok (.iload_n 1, 1) := by decide +kernel
theorem dX5_stable_36 : decode cX5_stable 36 = .ok (.iaload, 1) := by decide +kernel
theorem dX5_stable_37 : decode cX5_stable 37 = .ok (.ireturn, 1) := by decide +kernel
theorem dX5_entriesOfAll_0 : decode cX5_entriesOfAll 0 = .ok (.iconst 0, 1) := by decide +kernel
theorem dX5_entriesOfAll_1 : decode cX5_entriesOfAll 1 = .ok (.istore_n 1, 1) := by decide +kernel
theorem dX5_entriesOfAll_2 : decode cX5_entriesOfAll 2 = .ok (.iconst 0, 1) := by decide +kernel
theorem dX5_entriesOfAll_3 : decode cX5_entriesOfAll 3 = .ok (.istore_n 2, 1) := by decide +kernel
theorem dX5_entriesOfAll_4 : decode cX5_entriesOfAll 4 = .ok (.iload_n 2, 1) := by decide +kernel
theorem dX5_entriesOfAll_5 : decode cX5_entriesOfAll 5 = .ok (.iconst 3, 1) := by decide +kernel
theorem dX5_entriesOfAll_6 : decode cX5_entriesOfAll 6 = .ok (.if_icmp .ge 21, 3) := by decide +kernel
theorem dX5_entriesOfAll_9 : decode cX5_entriesOfAll 9 = .ok (.iload_n 1, 1) := by decide +kernel
theorem dX5_entriesOfAll_10 : decode cX5_entriesOfAll 10 = .ok (.aload_n 0, 1) := by decide +kernel
theorem dX5_entriesOfAll_11 : decode cX5_entriesOfAll 11 = .ok (.getfield 11, 3) := by decide +kernel
theorem dX5_entriesOfAll_14 : decode cX5_entriesOfAll 14 = .ok (.iload_n 2, 1) := by decide +kernel
theorem dX5_entriesOfAll_15 : decode cX5_entriesOfAll 15 = .ok (.aaload, 1) := by decide +kernel
theorem dX5_entriesOfAll_16 : decode cX5_entriesOfAll 16 = .ok (.getfield 99, 3) := by decide +kernel
theorem dX5_entriesOfAll_19 : decode cX5_entriesOfAll 19 = .ok (.iadd, 1) := by decide +kernel
theorem dX5_entriesOfAll_20 : decode cX5_entriesOfAll 20 = .ok (.istore_n 1, 1) := by decide +kernel
theorem dX5_entriesOfAll_21 : decode cX5_entriesOfAll 21 = .ok (.iinc 2 1, 3) := by decide +kernel
theorem dX5_entriesOfAll_24 : decode cX5_entriesOfAll 24 = .ok (.goto (-20), 3) := by decide +kernel
theorem dX5_entriesOfAll_27 : decode cX5_entriesOfAll 27 = .ok (.iload_n 1, 1) := by decide +kernel
theorem dX5_entriesOfAll_28 : decode cX5_entriesOfAll 28 = .ok (.ireturn, 1) := by decide +kernel
theorem dX5_markersOfAll_0 : decode cX5_markersOfAll 0 = .ok (.iconst 0, 1) := by decide +kernel
theorem dX5_markersOfAll_1 : decode cX5_markersOfAll 1 = .ok (.istore_n 1, 1) := by decide +kernel
theorem dX5_markersOfAll_2 : decode cX5_markersOfAll 2 = .ok (.iconst 0, 1) := by decide +kernel
theorem dX5_markersOfAll_3 : decode cX5_markersOfAll 3 = .ok (.istore_n 2, 1) := by decide +kernel
theorem dX5_markersOfAll_4 : decode cX5_markersOfAll 4 = .ok (.iload_n 2, 1) := by decide +kernel
theorem dX5_markersOfAll_5 : decode cX5_markersOfAll 5 = .ok (.iconst 3, 1) := by decide +kernel
theorem dX5_markersOfAll_6 : decode cX5_markersOfAll 6 = .ok (.if_icmp .ge 21, 3) := by decide +kernel
theorem dX5_markersOfAll_9 : decode cX5_markersOfAll 9 = .ok (.iload_n 1, 1) := by decide +kernel
theorem dX5_markersOfAll_10 : decode cX5_markersOfAll 10 = .ok (.aload_n 0, 1) := by decide +kernel
theorem dX5_markersOfAll_11 : decode cX5_markersOfAll 11 = .ok (.getfield 11, 3) := by decide +kernel
theorem dX5_markersOfAll_14 : decode cX5_markersOfAll 14 = .ok (.iload_n 2, 1) := by decide +kernel
theorem dX5_markersOfAll_15 : decode cX5_markersOfAll 15 = .ok (.aaload, 1) := by decide +kernel
theorem dX5_markersOfAll_16 : decode cX5_markersOfAll 16 = .ok (.invokevirtual 278, 3) := by decide +kernel
theorem dX5_markersOfAll_19 : decode cX5_markersOfAll 19 = .ok (.iadd, 1) := by decide +kernel
theorem dX5_markersOfAll_20 : decode cX5_markersOfAll 20 = .ok (.istore_n 1, 1) := by decide +kernel
theorem dX5_markersOfAll_21 : decode cX5_markersOfAll 21 = .ok (.iinc 2 1, 3) := by decide +kernel
theorem dX5_markersOfAll_24 : decode cX5_markersOfAll 24 = .ok (.goto (-20), 3) := by decide +kernel
theorem dX5_markersOfAll_27 : decode cX5_markersOfAll 27 = .ok (.iload_n 1, 1) := by decide +kernel
theorem dX5_markersOfAll_28 : decode cX5_markersOfAll 28 = .ok (.ireturn, 1) := by decide +kernel
theorem dX5_visibleOfAll_0 : decode cX5_visibleOfAll 0 = .ok (.iconst 0, 1) := by decide +kernel
theorem dX5_visibleOfAll_1 : decode cX5_visibleOfAll 1 = .ok (.istore_n 1, 1) := by decide +kernel
theorem dX5_visibleOfAll_2 : decode cX5_visibleOfAll 2 = .ok (.iconst 0, 1) := by decide +kernel
theorem dX5_visibleOfAll_3 : decode cX5_visibleOfAll 3 = .ok (.istore_n 2, 1) := by decide +kernel
theorem dX5_visibleOfAll_4 : decode cX5_visibleOfAll 4 = .ok (.iload_n 2, 1) := by decide +kernel
theorem dX5_visibleOfAll_5 : decode cX5_visibleOfAll 5 = .ok (.iconst 3, 1) := by decide +kernel
theorem dX5_visibleOfAll_6 : decode cX5_visibleOfAll 6 = .ok (.if_icmp .ge 27, 3) := by decide +kernel
theorem dX5_visibleOfAll_9 : decode cX5_visibleOfAll 9 = .ok (.iload_n 1, 1) := by decide +kernel
theorem dX5_visibleOfAll_10 : decode cX5_visibleOfAll 10 = .ok (.aload_n 0, 1) := by decide +kernel
theorem dX5_visibleOfAll_11 : decode cX5_visibleOfAll 11 = .ok (.getfield 11, 3) := by decide +kernel
theorem dX5_visibleOfAll_14 : decode cX5_visibleOfAll 14 = .ok (.iload_n 2, 1) := by decide +kernel
theorem dX5_visibleOfAll_15 : decode cX5_visibleOfAll 15 = .ok (.aaload, 1) := by decide +kernel
theorem dX5_visibleOfAll_16 : decode cX5_visibleOfAll 16 = .ok (.iconst 0, 1) := by decide +kernel
theorem dX5_visibleOfAll_17 : decode cX5_visibleOfAll 17 = .ok (.aload_n 0, 1) := by decide +kernel
theorem dX5_visibleOfAll_18 : decode cX5_visibleOfAll 18 = .ok (.iload_n 2, 1) := by decide +kernel
theorem dX5_visibleOfAll_19 : decode cX5_visibleOfAll 19 = .ok (.invokevirtual 161, 3) := by decide +kernel
theorem dX5_visibleOfAll_22 : decode cX5_visibleOfAll 22 = .ok (.invokevirtual 167, 3) := by decide +kernel
theorem dX5_visibleOfAll_25 : decode cX5_visibleOfAll 25 = .ok (.iadd, 1) := by decide +kernel
theorem dX5_visibleOfAll_26 : decode cX5_visibleOfAll 26 = .ok (.istore_n 1, 1) := by decide +kernel
theorem dX5_visibleOfAll_27 : decode cX5_visibleOfAll 27 = .ok (.iinc 2 1, 3) := by decide +kernel
theorem dX5_visibleOfAll_30 : decode cX5_visibleOfAll 30 = .ok (.goto (-26), 3) := by decide +kernel
theorem dX5_visibleOfAll_33 : decode cX5_visibleOfAll 33 = .ok (.iload_n 1, 1) := by decide +kernel
theorem dX5_visibleOfAll_34 : decode cX5_visibleOfAll 34 = .ok (.ireturn, 1) := by decide +kernel
theorem dX5_dueOfAll_0 : decode cX5_dueOfAll 0 = .ok (.iconst 0, 1) := by decide +kernel
theorem dX5_dueOfAll_1 : decode cX5_dueOfAll 1 = .ok (.istore_n 1, 1) := by decide +kernel
theorem dX5_dueOfAll_2 : decode cX5_dueOfAll 2 = .ok (.iconst 0, 1) := by decide +kernel
theorem dX5_dueOfAll_3 : decode cX5_dueOfAll 3 = .ok (.istore_n 2, 1) := by decide +kernel
theorem dX5_dueOfAll_4 : decode cX5_dueOfAll 4 = .ok (.iload_n 2, 1) := by decide +kernel
theorem dX5_dueOfAll_5 : decode cX5_dueOfAll 5 = .ok (.iconst 4, 1) := by decide +kernel
theorem dX5_dueOfAll_6 : decode cX5_dueOfAll 6 = .ok (.if_icmp .ge 24, 3) := by decide +kernel
theorem dX5_dueOfAll_9 : decode cX5_dueOfAll 9 = .ok (.iload_n 1, 1) := by decide +kernel
theorem dX5_dueOfAll_10 : decode cX5_dueOfAll 10 = .ok (.aload_n 0, 1) := by decide +kernel
theorem dX5_dueOfAll_11 : decode cX5_dueOfAll 11 = .ok (.getfield 18, 3) := by decide +kernel
theorem dX5_dueOfAll_14 : decode cX5_dueOfAll 14 = .ok (.getfield 60, 3) := by decide +kernel
theorem dX5_dueOfAll_17 : decode cX5_dueOfAll 17 = .ok (.iload_n 2, 1) := by decide +kernel
theorem dX5_dueOfAll_18 : decode cX5_dueOfAll 18 = .ok (.aaload, 1) := by decide +kernel
theorem dX5_dueOfAll_19 : decode cX5_dueOfAll 19 = .ok (.invokevirtual 137, 3) := by decide +kernel
theorem dX5_dueOfAll_22 : decode cX5_dueOfAll 22 = .ok (.iadd, 1) := by decide +kernel
theorem dX5_dueOfAll_23 : decode cX5_dueOfAll 23 = .ok (.istore_n 1, 1) := by decide +kernel
theorem dX5_dueOfAll_24 : decode cX5_dueOfAll 24 = .ok (.iinc 2 1, 3) := by decide +kernel
theorem dX5_dueOfAll_27 : decode cX5_dueOfAll 27 = .ok (.goto (-23), 3) := by decide +kernel
theorem dX5_dueOfAll_30 : decode cX5_dueOfAll 30 = .ok (.iload_n 1, 1) := by decide +kernel
theorem dX5_dueOfAll_31 : decode cX5_dueOfAll 31 = .ok (.ireturn, 1) := by decide +kernel
theorem dX5_mixPart_0 : decode cX5_mixPart 0 = .ok (.lload_n 1, 1) := by decide +kernel
theorem dX5_mixPart_1 : decode cX5_mixPart 1 = .ok (.lstore 4, 2) := by decide +kernel
theorem dX5_mixPart_3 : decode cX5_mixPart 3 = .ok (.iconst 0, 1) := by decide +kernel
theorem dX5_mixPart_4 : decode cX5_mixPart 4 = .ok (.istore 6, 2) := by decide +kernel
theorem dX5_mixPart_6 : decode cX5_mixPart 6 = .ok (.iload 6, 2) := by decide +kernel
theorem dX5_mixPart_8 : decode cX5_mixPart 8 = .ok (.iconst 5, 1) := by decide +kernel
theorem dX5_mixPart_9 : decode cX5_mixPart 9 = .ok (.if_icmp .gt 26, 3) := by decide +kernel
theorem dX5_mixPart_12 : decode cX5_mixPart 12 = .ok (.ldc2_w 229, 3) := by decide +kernel
theorem dX5_mixPart_15 : decode cX5_mixPart 15 = .ok (.lload 4, 2) := by decide +kernel
theorem dX5_mixPart_17 : decode cX5_mixPart 17 = .ok (.lmul, 1) := by decide +kernel
theorem dX5_mixPart_18 : decode cX5_mixPart 18 = .ok (.aload_n 0, 1) := by decide +kernel
theorem dX5_mixPart_19 : decode cX5_mixPart 19 = .ok (.iload_n 3, 1) := by decide +kernel
theorem dX5_mixPart_20 : decode cX5_mixPart 20 = .ok (.iload 6, 2) := by decide +kernel
theorem dX5_mixPart_22 : decode cX5_mixPart 22 = .ok (.invokevirtual 281, 3) := by decide +kernel
theorem dX5_mixPart_25 : decode cX5_mixPart 25 = .ok (.i2l, 1) := by decide +kernel
theorem dX5_mixPart_26 : decode cX5_mixPart 26 = .ok (.ladd, 1) := by decide +kernel
theorem dX5_mixPart_27 : decode cX5_mixPart 27 = .ok (.lstore 4, 2) := by decide +kernel
theorem dX5_mixPart_29 : decode cX5_mixPart 29 = .ok (.iinc 6 1, 3) := by decide +kernel
theorem dX5_mixPart_32 : decode cX5_mixPart 32 = .ok (.goto (-26), 3) := by decide +kernel
theorem dX5_mixPart_35 : decode cX5_mixPart 35 = .ok (.iconst 0, 1) := by decide +kernel
theorem dX5_mixPart_36 : decode cX5_mixPart 36 = .ok (.istore 6, 2) := by decide +kernel
theorem dX5_mixPart_38 : decode cX5_mixPart 38 = .ok (.iload 6, 2) := by decide +kernel
theorem dX5_mixPart_40 : decode cX5_mixPart 40 = .ok (.aload_n 0, 1) := by decide +kernel
theorem dX5_mixPart_41 : decode cX5_mixPart 41 = .ok (.getfield 11, 3) := by decide +kernel
theorem dX5_mixPart_44 : decode cX5_mixPart 44 = .ok (.iload_n 3, 1) := by decide +kernel
theorem dX5_mixPart_45 : decode cX5_mixPart 45 = .ok (.aaload, 1) := by decide +kernel
theorem dX5_mixPart_46 : decode cX5_mixPart 46 = .ok (.getfield 99, 3) := by decide +kernel
theorem dX5_mixPart_49 : decode cX5_mixPart 49 = .ok (.if_icmp .ge 44, 3) := by decide +kernel
theorem dX5_mixPart_52 : decode cX5_mixPart 52 = .ok (.iconst 0, 1) := by decide +kernel
theorem dX5_mixPart_53 : decode cX5_mixPart 53 = .ok (.istore 7, 2) := by decide +kernel
theorem dX5_mixPart_55 : decode cX5_mixPart 55 = .ok (.iload 7, 2) := by decide +kernel
theorem dX5_mixPart_57 : decode cX5_mixPart 57 = .ok (.bipush 6, 2) := by decide +kernel
theorem dX5_mixPart_59 : decode cX5_mixPart 59 = .ok (.if_icmp .gt 28, 3) := by decide +kernel
theorem dX5_mixPart_62 : decode cX5_mixPart 62 = .ok (.ldc2_w 229, 3) := by decide +kernel
theorem dX5_mixPart_65 : decode cX5_mixPart 65 = .ok (.lload 4, 2) := by decide +kernel
theorem dX5_mixPart_67 : decode cX5_mixPart 67 = .ok (.lmul, 1) := by decide +kernel
theorem dX5_mixPart_68 : decode cX5_mixPart 68 = .ok (.aload_n 0, 1) := by decide +kernel
theorem dX5_mixPart_69 : decode cX5_mixPart 69 = .ok (.iload_n 3, 1) := by decide +kernel
theorem dX5_mixPart_70 : decode cX5_mixPart 70 = .ok (.iload 6, 2) := by decide +kernel
theorem dX5_mixPart_72 : decode cX5_mixPart 72 = .ok (.iload 7, 2) := by decide +kernel
theorem dX5_mixPart_74 : decode cX5_mixPart 74 = .ok (.invokevirtual 284, 3) := by decide +kernel
theorem dX5_mixPart_77 : decode cX5_mixPart 77 = .ok (.i2l, 1) := by decide +kernel
theorem dX5_mixPart_78 : decode cX5_mixPart 78 = .ok (.ladd, 1) := by decide +kernel
theorem dX5_mixPart_79 : decode cX5_mixPart 79 = .ok (.lstore 4, 2) := by decide +kernel
theorem dX5_mixPart_81 : decode cX5_mixPart 81 = .ok (.iinc 7 1, 3) := by decide +kernel
theorem dX5_mixPart_84 : decode cX5_mixPart 84 = .ok (.goto (-29), 3) := by decide +kernel
theorem dX5_mixPart_87 : decode cX5_mixPart 87 = .ok (.iinc 6 1, 3) := by decide +kernel
theorem dX5_mixPart_90 : decode cX5_mixPart 90 = .ok (.goto (-52), 3) := by decide +kernel
theorem dX5_mixPart_93 : decode cX5_mixPart 93 = .ok (.aload_n 0, 1) := by decide +kernel
theorem dX5_mixPart_94 : decode cX5_mixPart 94 = .ok (.getfield 11, 3) := by decide +kernel
theorem dX5_mixPart_97 : decode cX5_mixPart 97 = .ok (.iload_n 3, 1) := by decide +kernel
theorem dX5_mixPart_98 : decode cX5_mixPart 98 = .ok (.aaload, 1) := by decide +kernel
theorem dX5_mixPart_99 : decode cX5_mixPart 99 = .ok (.invokevirtual 173, 3) := by decide +kernel
theorem dX5_mixPart_102 : decode cX5_mixPart 102 = .ok (.istore 6, 2) := by decide +kernel
theorem dX5_mixPart_104 : decode cX5_mixPart 104 = .ok (.iconst 0, 1) := by decide +kernel
theorem dX5_mixPart_105 : decode cX5_mixPart 105 = .ok (.istore 7, 2) := by decide +kernel
theorem dX5_mixPart_107 : decode cX5_mixPart 107 = .ok (.iload 7, 2) := by decide +kernel
theorem dX5_mixPart_109 : decode cX5_mixPart 109 = .ok (.iload 6, 2) := by decide +kernel
theorem dX5_mixPart_111 : decode cX5_mixPart 111 = .ok (.if_icmp .ge 43, 3) := by decide +kernel
theorem dX5_mixPart_114 : decode cX5_mixPart 114 = .ok (.iconst 0, 1) := by decide +kernel
theorem dX5_mixPart_115 : decode cX5_mixPart 115 = .ok (.istore 8, 2) := by decide +kernel
theorem dX5_mixPart_117 : decode cX5_mixPart 117 = .ok (.iload 8, 2) := by decide +kernel
theorem dX5_mixPart_119 : decode cX5_mixPart 119 = .ok (.iconst 2, 1) := by decide +kernel
theorem dX5_mixPart_120 : decode cX5_mixPart 120 = .ok (.if_icmp .gt 28, 3) := by decide +kernel
theorem dX5_mixPart_123 : decode cX5_mixPart 123 = .ok (.ldc2_w 229, 3) := by decide +kernel
theorem dX5_mixPart_126 : decode cX5_mixPart 126 = .ok (.lload 4, 2) := by decide +kernel
theorem dX5_mixPart_128 : decode cX5_mixPart 128 = .ok (.lmul, 1) := by decide +kernel
theorem dX5_mixPart_129 : decode cX5_mixPart 129 = .ok (.aload_n 0, 1) := by decide +kernel
theorem dX5_mixPart_130 : decode cX5_mixPart 130 = .ok (.iload_n 3, 1) := by decide +kernel
theorem dX5_mixPart_131 : decode cX5_mixPart 131 = .ok (.iload 7, 2) := by decide +kernel
theorem dX5_mixPart_133 : decode cX5_mixPart 133 = .ok (.iload 8, 2) := by decide +kernel
theorem dX5_mixPart_135 : decode cX5_mixPart 135 = .ok (.invokevirtual 287, 3) := by decide +kernel
theorem dX5_mixPart_138 : decode cX5_mixPart 138 = .ok (.i2l, 1) := by decide +kernel
theorem dX5_mixPart_139 : decode cX5_mixPart 139 = .ok (.ladd, 1) := by decide +kernel
theorem dX5_mixPart_140 : decode cX5_mixPart 140 = .ok (.lstore 4, 2) := by decide +kernel
theorem dX5_mixPart_142 : decode cX5_mixPart 142 = .ok (.iinc 8 1, 3) := by decide +kernel
theorem dX5_mixPart_145 : decode cX5_mixPart 145 = .ok (.goto (-28), 3) := by decide +kernel
theorem dX5_mixPart_148 : decode cX5_mixPart 148 = .ok (.iinc 7 1, 3) := by decide +kernel
theorem dX5_mixPart_151 : decode cX5_mixPart 151 = .ok (.goto (-44), 3) := by decide +kernel
theorem dX5_mixPart_154 : decode cX5_mixPart 154 = .ok (.lload 4, 2) := by decide +kernel
theorem dX5_mixPart_156 : decode cX5_mixPart 156 = .ok (.lreturn, 1) := by decide +kernel
theorem dX5_mixReader_0 : decode cX5_mixReader 0 = .ok (.lload_n 1, 1) := by decide +kernel
theorem dX5_mixReader_1 : decode cX5_mixReader 1 = .ok (.lstore 4, 2) := by decide +kernel
theorem dX5_mixReader_3 : decode cX5_mixReader 3 = .ok (.iconst 0, 1) := by decide +kernel
theorem dX5_mixReader_4 : decode cX5_mixReader 4 = .ok (.istore 6, 2) := by decide +kernel
theorem dX5_mixReader_6 : decode cX5_mixReader 6 = .ok (.iload 6, 2) := by decide +kernel
theorem dX5_mixReader_8 : decode cX5_mixReader 8 = .ok (.iconst 3, 1) := by decide +kernel
theorem dX5_mixReader_9 : decode cX5_mixReader 9 = .ok (.if_icmp .ge 43, 3) := by decide +kernel
theorem dX5_mixReader_12 : decode cX5_mixReader 12 = .ok (.iconst 0, 1) := by decide +kernel
theorem dX5_mixReader_13 : decode cX5_mixReader 13 = .ok (.istore 7, 2) := by decide +kernel
theorem dX5_mixReader_15 : decode cX5_mixReader 15 = .ok (.iload 7, 2) := by decide +kernel
theorem dX5_mixReader_17 : decode cX5_mixReader 17 = .ok (.iconst 3, 1) := by decide +kernel
theorem dX5_mixReader_18 : decode cX5_mixReader 18 = .ok (.if_icmp .gt 28, 3) := by decide +kernel
theorem dX5_mixReader_21 : decode cX5_mixReader 21 = .ok (.ldc2_w 229, 3) := by decide +kernel
theorem dX5_mixReader_24 : decode cX5_mixReader 24 = .ok (.lload 4, 2) := by decide +kernel
theorem dX5_mixReader_26 : decode cX5_mixReader 26 = .ok (.lmul, 1) := by decide +kernel
theorem dX5_mixReader_27 : decode cX5_mixReader 27 = .ok (.aload_n 0, 1) := by decide +kernel
theorem dX5_mixReader_28 : decode cX5_mixReader 28 = .ok (.iload_n 3, 1) := by decide +kernel
theorem dX5_mixReader_29 : decode cX5_mixReader 29 = .ok (.iload 6, 2) := by decide +kernel
theorem dX5_mixReader_31 : decode cX5_mixReader 31 = .ok (.iload 7, 2) := by decide +kernel
theorem dX5_mixReader_33 : decode cX5_mixReader 33 = .ok (.invokevirtual 290, 3) := by decide +kernel
theorem dX5_mixReader_36 : decode cX5_mixReader 36 = .ok (.i2l, 1) := by decide +kernel
theorem dX5_mixReader_37 : decode cX5_mixReader 37 = .ok (.ladd, 1) := by decide +kernel
theorem dX5_mixReader_38 : decode cX5_mixReader 38 = .ok (.lstore 4, 2) := by decide +kernel
theorem dX5_mixReader_40 : decode cX5_mixReader 40 = .ok (.iinc 7 1, 3) := by decide +kernel
theorem dX5_mixReader_43 : decode cX5_mixReader 43 = .ok (.goto (-28), 3) := by decide +kernel
theorem dX5_mixReader_46 : decode cX5_mixReader 46 = .ok (.iinc 6 1, 3) := by decide +kernel
theorem dX5_mixReader_49 : decode cX5_mixReader 49 = .ok (.goto (-43), 3) := by decide +kernel
theorem dX5_mixReader_52 : decode cX5_mixReader 52 = .ok (.lload 4, 2) := by decide +kernel
theorem dX5_mixReader_54 : decode cX5_mixReader 54 = .ok (.lreturn, 1) := by decide +kernel
theorem dX5_carryOut_0 : decode cX5_carryOut 0 = .ok (.aload_n 0, 1) := by decide +kernel
theorem dX5_carryOut_1 : decode cX5_carryOut 1 = .ok (.getfield 36, 3) := by decide +kernel
theorem dX5_carryOut_4 : decode cX5_carryOut 4 = .ok (.getfield 293, 3) := by decide +kernel
theorem dX5_carryOut_7 : decode cX5_carryOut 7 = .ok (.astore_n 2, 1) := by decide +kernel
theorem dX5_carryOut_8 : decode cX5_carryOut 8 = .ok (.iload_n 1, 1) := by decide +kernel
theorem dX5_carryOut_9 : decode cX5_carryOut 9 = .ok (.iconst 5, 1) := by decide +kernel
theorem dX5_carryOut_10 : decode cX5_carryOut 10 = .ok (.imul, 1) := by decide +kernel
theorem dX5_carryOut_11 : decode cX5_carryOut 11 = .ok (.istore_n 3, 1) := by decide +kernel
theorem dX5_carryOut_12 : decode cX5_carryOut 12 = .ok (.aload_n 0, 1) := by decide +kernel
theorem dX5_carryOut_13 : decode cX5_carryOut 13 = .ok (.getfield 36, 3) := by decide +kernel
theorem dX5_carryOut_16 : decode cX5_carryOut 16 = .ok (.getfield 296, 3) := by decide +kernel
theorem dX5_carryOut_19 : decode cX5_carryOut 19 = .ok (.iload_n 1, 1) := by decide +kernel
theorem dX5_carryOut_20 : decode cX5_carryOut 20 = .ok (.iaload, 1) := by decide +kernel
theorem dX5_carryOut_21 : decode cX5_carryOut 21 = .ok (.tableswitch 179 98 116 #[91, 179, 179, 140, 179, 179, 179, 179, 179, 179, 179, 179, 179, 99, 179, 179, 166, 112, 158], 91) := by decide +kernel
theorem dX5_carryOut_112 : decode cX5_carryOut 112 = .ok (.aload_n 0, 1) := by decide +kernel
theorem dX5_carryOut_113 : decode cX5_carryOut 113 = .ok (.aload_n 2, 1) := by decide +kernel
theorem dX5_carryOut_114 : decode cX5_carryOut 114 = .ok (.iload_n 3, 1) := by decide +kernel
theorem dX5_carryOut_115 : decode cX5_carryOut 115 = .ok (.iaload, 1) := by decide +kernel
theorem dX5_carryOut_116 : decode cX5_carryOut 116 = .ok (.invokevirtual 299, 3) := by decide +kernel
theorem dX5_carryOut_119 : decode cX5_carryOut 119 = .ok (.ireturn, 1) := by decide +kernel
theorem dX5_carryOut_120 : decode cX5_carryOut 120 = .ok (.aload_n 0, 1) := by decide +kernel
theorem dX5_carryOut_121 : decode cX5_carryOut 121 = .ok (.aload_n 2, 1) := by decide +kernel
theorem dX5_carryOut_122 : decode cX5_carryOut 122 = .ok (.iload_n 3, 1) := by decide +kernel
theorem dX5_carryOut_123 : decode cX5_carryOut 123 = .ok (.iaload, 1) := by decide +kernel
theorem dX5_carryOut_124 : decode cX5_carryOut 124 = .ok (.aload_n 2, 1) := by decide +kernel
theorem dX5_carryOut_125 : decode cX5_carryOut 125 = .ok (.iload_n 3, 1) := by decide +kernel
theorem dX5_carryOut_126 : decode cX5_carryOut 126 = .ok (.iconst 1, 1) := by decide +kernel
theorem dX5_carryOut_127 : decode cX5_carryOut 127 = .ok (.iadd, 1) := by decide +kernel
theorem dX5_carryOut_128 : decode cX5_carryOut 128 = .ok (.iaload, 1) := by decide +kernel
theorem dX5_carryOut_129 : decode cX5_carryOut 129 = .ok (.invokevirtual 302, 3) := by decide +kernel
theorem dX5_carryOut_132 : decode cX5_carryOut 132 = .ok (.ireturn, 1) := by decide +kernel
theorem dX5_carryOut_133 : decode cX5_carryOut 133 = .ok (.aload_n 0, 1) := by decide +kernel
theorem dX5_carryOut_134 : decode cX5_carryOut 134 = .ok (.aload_n 2, 1) := by decide +kernel
theorem dX5_carryOut_135 : decode cX5_carryOut 135 = .ok (.iload_n 3, 1) := by decide +kernel
theorem dX5_carryOut_136 : decode cX5_carryOut 136 = .ok (.iaload, 1) := by decide +kernel
theorem dX5_carryOut_137 : decode cX5_carryOut 137 = .ok (.aload_n 2, 1) := by decide +kernel
theorem dX5_carryOut_138 : decode cX5_carryOut 138 = .ok (.iload_n 3, 1) := by decide +kernel
theorem dX5_carryOut_139 : decode cX5_carryOut 139 = .ok (.iconst 1, 1) := by decide +kernel
theorem dX5_carryOut_140 : decode cX5_carryOut 140 = .ok (.iadd, 1) := by decide +kernel
theorem dX5_carryOut_141 : decode cX5_carryOut 141 = .ok (.iaload, 1) := by decide +kernel
theorem dX5_carryOut_142 : decode cX5_carryOut 142 = .ok (.aload_n 2, 1) := by decide +kernel
theorem dX5_carryOut_143 : decode cX5_carryOut 143 = .ok (.iload_n 3, 1) := by decide +kernel
theorem dX5_carryOut_144 : decode cX5_carryOut 144 = .ok (.iconst 2, 1) := by decide +kernel
theorem dX5_carryOut_145 : decode cX5_carryOut 145 = .ok (.iadd, 1) := by decide +kernel
theorem dX5_carryOut_146 : decode cX5_carryOut 146 = .ok (.iaload, 1) := by decide +kernel
theorem dX5_carryOut_147 : decode cX5_carryOut 147 = .ok (.aload_n 2, 1) := by decide +kernel
theorem dX5_carryOut_148 : decode cX5_carryOut 148 = .ok (.iload_n 3, 1) := by decide +kernel
theorem dX5_carryOut_149 : decode cX5_carryOut 149 = .ok (.iconst 3, 1) := by decide +kernel
theorem dX5_carryOut_150 : decode cX5_carryOut 150 = .ok (.iadd, 1) := by decide +kernel
theorem dX5_carryOut_151 : decode cX5_carryOut 151 = .ok (.iaload, 1) := by decide +kernel
theorem dX5_carryOut_152 : decode cX5_carryOut 152 = .ok (.aload_n 2, 1) := by decide +kernel
theorem dX5_carryOut_153 : decode cX5_carryOut 153 = .ok (.iload_n 3, 1) := by decide +kernel
theorem dX5_carryOut_154 : decode cX5_carryOut 154 = .ok (.iconst 4, 1) := by decide +kernel
theorem dX5_carryOut_155 : decode cX5_carryOut 155 = .ok (.iadd, 1) := by decide +kernel
theorem dX5_carryOut_156 : decode cX5_carryOut 156 = .ok (.iaload, 1) := by decide +kernel
theorem dX5_carryOut_157 : decode cX5_carryOut 157 = .ok (.invokevirtual 305, 3) := by decide +kernel
theorem dX5_carryOut_160 : decode cX5_carryOut 160 = .ok (.ireturn, 1) := by decide +kernel
theorem dX5_carryOut_161 : decode cX5_carryOut 161 = .ok (.aload_n 0, 1) := by decide +kernel
theorem dX5_carryOut_162 : decode cX5_carryOut 162 = .ok (.aload_n 2, 1) := by decide +kernel
theorem dX5_carryOut_163 : decode cX5_carryOut 163 = .ok (.iload_n 3, 1) := by decide +kernel
theorem dX5_carryOut_164 : decode cX5_carryOut 164 = .ok (.iaload, 1) := by decide +kernel
theorem dX5_carryOut_165 : decode cX5_carryOut 165 = .ok (.aload_n 2, 1) := by decide +kernel
theorem dX5_carryOut_166 : decode cX5_carryOut 166 = .ok (.iload_n 3, 1) := by decide +kernel
theorem dX5_carryOut_167 : decode cX5_carryOut 167 = .ok (.iconst 1, 1) := by decide +kernel
theorem dX5_carryOut_168 : decode cX5_carryOut 168 = .ok (.iadd, 1) := by decide +kernel
theorem dX5_carryOut_169 : decode cX5_carryOut 169 = .ok (.iaload, 1) := by decide +kernel
theorem dX5_carryOut_170 : decode cX5_carryOut 170 = .ok (.aload_n 2, 1) := by decide +kernel
theorem dX5_carryOut_171 : decode cX5_carryOut 171 = .ok (.iload_n 3, 1) := by decide +kernel
theorem dX5_carryOut_172 : decode cX5_carryOut 172 = .ok (.iconst 2, 1) := by decide +kernel
theorem dX5_carryOut_173 : decode cX5_carryOut 173 = .ok (.iadd, 1) := by decide +kernel
theorem dX5_carryOut_174 : decode cX5_carryOut 174 = .ok (.iaload, 1) := by decide +kernel
theorem dX5_carryOut_175 : decode cX5_carryOut 175 = .ok (.invokevirtual 308, 3) := by decide +kernel
theorem dX5_carryOut_178 : decode cX5_carryOut 178 = .ok (.ireturn, 1) := by decide +kernel
theorem dX5_carryOut_179 : decode cX5_carryOut 179 = .ok (.aload_n 0, 1) := by decide +kernel
theorem dX5_carryOut_180 : decode cX5_carryOut 180 = .ok (.aload_n 2, 1) := by decide +kernel
theorem dX5_carryOut_181 : decode cX5_carryOut 181 = .ok (.iload_n 3, 1) := by decide +kernel
theorem dX5_carryOut_182 : decode cX5_carryOut 182 = .ok (.iaload, 1) := by decide +kernel
theorem dX5_carryOut_183 : decode cX5_carryOut 183 = .ok (.invokevirtual 311, 3) := by decide +kernel
theorem dX5_carryOut_186 : decode cX5_carryOut 186 = .ok (.ireturn, 1) := by decide +kernel
theorem dX5_carryOut_187 : decode cX5_carryOut 187 = .ok (.aload_n 0, 1) := by decide +kernel
theorem dX5_carryOut_188 : decode cX5_carryOut 188 = .ok (.aload_n 2, 1) := by decide +kernel
theorem dX5_carryOut_189 : decode cX5_carryOut 189 = .ok (.iload_n 3, 1) := by decide +kernel
theorem dX5_carryOut_190 : decode cX5_carryOut 190 = .ok (.iaload, 1) := by decide +kernel
theorem dX5_carryOut_191 : decode cX5_carryOut 191 = .ok (.aload_n 2, 1) := by decide +kernel
theorem dX5_carryOut_192 : decode cX5_carryOut 192 = .ok (.iload_n 3, 1) := by decide +kernel
theorem dX5_carryOut_193 : decode cX5_carryOut 193 = .ok (.iconst 1, 1) := by decide +kernel
theorem dX5_carryOut_194 : decode cX5_carryOut 194 = .ok (.iadd, 1) := by decide +kernel
theorem dX5_carryOut_195 : decode cX5_carryOut 195 = .ok (.iaload, 1) := by decide +kernel
theorem dX5_carryOut_196 : decode cX5_carryOut 196 = .ok (.invokevirtual 314, 3) := by decide +kernel
theorem dX5_carryOut_199 : decode cX5_carryOut 199 = .ok (.ireturn, 1) := by decide +kernel
theorem dX5_carryOut_200 : decode cX5_carryOut 200 = .ok (.aload_n 0, 1) := by decide +kernel
theorem dX5_carryOut_201 : decode cX5_carryOut 201 = .ok (.aload_n 2, 1) := by decide +kernel
theorem dX5_carryOut_202 : decode cX5_carryOut 202 = .ok (.iload_n 3, 1) := by decide +kernel
theorem dX5_carryOut_203 : decode cX5_carryOut 203 = .ok (.iaload, 1) := by decide +kernel
theorem dX5_carryOut_204 : decode cX5_carryOut 204 = .ok (.aload_n 2, 1) := by decide +kernel
theorem dX5_carryOut_205 : decode cX5_carryOut 205 = .ok (.iload_n 3, 1) := by decide +kernel
theorem dX5_carryOut_206 : decode cX5_carryOut 206 = .ok (.iconst 1, 1) := by decide +kernel
theorem dX5_carryOut_207 : decode cX5_carryOut 207 = .ok (.iadd, 1) := by decide +kernel
theorem dX5_carryOut_208 : decode cX5_carryOut 208 = .ok (.iaload, 1) := by decide +kernel
theorem dX5_carryOut_209 : decode cX5_carryOut 209 = .ok (.aload_n 2, 1) := by decide +kernel
theorem dX5_carryOut_210 : decode cX5_carryOut 210 = .ok (.iload_n 3, 1) := by decide +kernel
theorem dX5_carryOut_211 : decode cX5_carryOut 211 = .ok (.iconst 2, 1) := by decide +kernel
theorem dX5_carryOut_212 : decode cX5_carryOut 212 = .ok (.iadd, 1) := by decide +kernel
theorem dX5_carryOut_213 : decode cX5_carryOut 213 = .ok (.iaload, 1) := by decide +kernel
theorem dX5_carryOut_214 : decode cX5_carryOut 214 = .ok (.aload_n 2, 1) := by decide +kernel
theorem dX5_carryOut_215 : decode cX5_carryOut 215 = .ok (.iload_n 3, 1) := by decide +kernel
theorem dX5_carryOut_216 : decode cX5_carryOut 216 = .ok (.iconst 3, 1) := by decide +kernel
theorem dX5_carryOut_217 : decode cX5_carryOut 217 = .ok (.iadd, 1) := by decide +kernel
theorem dX5_carryOut_218 : decode cX5_carryOut 218 = .ok (.iaload, 1) := by decide +kernel
theorem dX5_carryOut_219 : decode cX5_carryOut 219 = .ok (.invokevirtual 317, 3) := by decide +kernel
theorem dX5_carryOut_222 : decode cX5_carryOut 222 = .ok (.ireturn, 1) := by decide +kernel
theorem dX6_init_0 : decode cX6_init 0 = .ok (.aload_n 0, 1) := by decide +kernel
theorem dX6_init_1 : decode cX6_init 1 = .ok (.invokespecial 1, 3) := by decide +kernel
theorem dX6_init_4 : decode cX6_init 4 = .ok (.aload_n 0, 1) := by decide +kernel
theorem dX6_init_5 : decode cX6_init 5 = .ok (.sipush 945, 3) := by decide +kernel
theorem dX6_init_8 : decode cX6_init 8 = .ok (.newarray .int, 2) := by decide +kernel
theorem dX6_init_10 : decode cX6_init 10 = .ok (.putfield 7, 3) := by decide +kernel
theorem dX6_init_13 : decode cX6_init 13 = .ok (.aload_n 0, 1) := by decide +kernel
theorem dX6_init_14 : decode cX6_init 14 = .ok (.sipush 6615, 3) := by decide +kernel
theorem dX6_init_17 : decode cX6_init 17 = .ok (.newarray .int, 2) := by decide +kernel
theorem dX6_init_19 : decode cX6_init 19 = .ok (.putfield 13, 3) := by decide +kernel
theorem dX6_init_22 : decode cX6_init 22 = .ok (.aload_n 0, 1) := by decide +kernel
theorem dX6_init_23 : decode cX6_init 23 = .ok (.iconst 5, 1) := by decide +kernel
theorem dX6_init_24 : decode cX6_init 24 = .ok (.newarray .int, 2) := by decide +kernel
theorem dX6_init_26 : decode cX6_init 26 = .ok (.putfield 16, 3) := by decide +kernel
theorem dX6_init_29 : decode cX6_init 29 = .ok (.aload_n 0, 1) := by decide +kernel
theorem dX6_init_30 : decode cX6_init 30 = .ok (.bipush 120, 2) := by decide +kernel
theorem dX6_init_32 : decode cX6_init 32 = .ok (.newarray .int, 2) := by decide +kernel
theorem dX6_init_34 : decode cX6_init 34 = .ok (.putfield 19, 3) := by decide +kernel
theorem dX6_init_37 : decode cX6_init 37 = .ok (.aload_n 0, 1) := by decide +kernel
theorem dX6_init_38 : decode cX6_init 38 = .ok (.bipush 40, 2) := by decide +kernel
theorem dX6_init_40 : decode cX6_init 40 = .ok (.newarray .int, 2) := by decide +kernel
theorem dX6_init_42 : decode cX6_init 42 = .ok (.putfield 22, 3) := by decide +kernel
theorem dX6_init_45 : decode cX6_init 45 = .ok (.aload_n 0, 1) := by decide +kernel
theorem dX6_init_46 : decode cX6_init 46 = .ok (.sipush 200, 3) := by decide +kernel
theorem dX6_init_49 : decode cX6_init 49 = .ok (.newarray .int, 2) := by decide +kernel
theorem dX6_init_51 : decode cX6_init 51 = .ok (.putfield 25, 3) := by decide +kernel
theorem dX6_init_54 : decode cX6_init 54 = .ok (.aload_n 0, 1) := by decide +kernel
theorem dX6_init_55 : decode cX6_init 55 = .ok (.getfield 7, 3) := by decide +kernel
theorem dX6_init_58 : decode cX6_init 58 = .ok (.iconst 1, 1) := by decide +kernel
theorem dX6_init_59 : decode cX6_init 59 = .ok (.iconst 5, 1) := by decide +kernel
theorem dX6_init_60 : decode cX6_init 60 = .ok (.iastore, 1) := by decide +kernel
theorem dX6_init_61 : decode cX6_init 61 = .ok (.iconst 0, 1) := by decide +kernel
theorem dX6_init_62 : decode cX6_init 62 = .ok (.istore_n 1, 1) := by decide +kernel
theorem dX6_init_63 : decode cX6_init 63 = .ok (.iload_n 1, 1) := by decide +kernel
theorem dX6_init_64 : decode cX6_init 64 = .ok (.iconst 4, 1) := by decide +kernel
theorem dX6_init_65 : decode cX6_init 65 = .ok (.if_icmp .ge 16, 3) := by decide +kernel
theorem dX6_init_68 : decode cX6_init 68 = .ok (.aload_n 0, 1) := by decide +kernel
theorem dX6_init_69 : decode cX6_init 69 = .ok (.iload_n 1, 1) := by decide +kernel
theorem dX6_init_70 : decode cX6_init 70 = .ok (.iconst 0, 1) := by decide +kernel
theorem dX6_init_71 : decode cX6_init 71 = .ok (.iconst (-1), 1) := by decide +kernel
theorem dX6_init_72 : decode cX6_init 72 = .ok (.invokevirtual 28, 3) := by decide +kernel
theorem dX6_init_75 : decode cX6_init 75 = .ok (.iinc 1 1, 3) := by decide +kernel
theorem dX6_init_78 : decode cX6_init 78 = .ok (.goto (-15), 3) := by decide +kernel
theorem dX6_init_81 : decode cX6_init 81 = .ok (.return_, 1) := by decide +kernel
theorem dX6_in_0 : decode cX6_in 0 = .ok (.iload_n 0, 1) := by decide +kernel
theorem dX6_in_1 : decode cX6_in 1 = .ok (.iload_n 1, 1) := by decide +kernel
theorem dX6_in_2 : decode cX6_in 2 = .ok (.if_icmp .lt 12, 3) := by decide +kernel
theorem dX6_in_5 : decode cX6_in 5 = .ok (.iload_n 0, 1) := by decide +kernel
theorem dX6_in_6 : decode cX6_in 6 = .ok (.iload_n 2, 1) := by decide +kernel
theorem dX6_in_7 : decode cX6_in 7 = .ok (.if_icmp .gt 7, 3) := by decide +kernel
theorem dX6_in_10 : decode cX6_in 10 = .ok (.iconst 1, 1) := by decide +kernel
theorem dX6_in_11 : decode cX6_in 11 = .ok (.goto 4, 3) := by decide +kernel
theorem dX6_in_14 : decode cX6_in 14 = .ok (.iconst 0, 1) := by decide +kernel
theorem dX6_in_15 : decode cX6_in 15 = .ok (.ireturn, 1) := by decide +kernel
theorem dX6_has_0 : decode cX6_has 0 = .ok (.iload_n 0, 1) := by decide +kernel
theorem dX6_has_1 : decode cX6_has 1 = .ok (.iload_n 1, 1) := by decide +kernel
theorem dX6_has_2 : decode cX6_has 2 = .ok (.ishr, 1) := by decide +kernel
theorem dX6_has_3 : decode cX6_has 3 = .ok (.iconst 1, 1) := by decide +kernel
theorem dX6_has_4 : decode cX6_has 4 = .ok (.iand, 1) := by decide +kernel
theorem dX6_has_5 : decode cX6_has 5 = .ok (.iconst 1, 1) := by decide +kernel
theorem dX6_has_6 : decode cX6_has 6 = .ok (.if_icmp .ne 7, 3) := by decide +kernel
theorem dX6_has_9 : decode cX6_has 9 = .ok (.iconst 1, 1) := by decide +kernel
theorem dX6_has_10 : decode cX6_has 10 = .ok (.goto 4, 3) := by decide +kernel
theorem dX6_has_13 : decode cX6_has 13 = .ok (.iconst 0, 1) := by decide +kernel
theorem dX6_has_14 : decode cX6_has 14 = .ok (.ireturn, 1) := by decide +kernel
theorem dX6_bits_0 : decode cX6_bits 0 = .ok (.iconst 0, 1) := by decide +kernel
theorem dX6_bits_1 : decode cX6_bits 1 = .ok (.istore_n 1, 1) := by decide +kernel
theorem dX6_bits_2 : decode cX6_bits 2 = .ok (.iconst 0, 1) := by decide +kernel
theorem dX6_bits_3 : decode cX6_bits 3 = .ok (.istore_n 2, 1) := by decide +kernel
theorem dX6_bits_4 : decode cX6_bits 4 = .ok (.iload_n 2, 1) := by decide +kernel
theorem dX6_bits_5 : decode cX6_bits 5 = .ok (.iconst 3, 1) := by decide +kernel
theorem dX6_bits_6 : decode cX6_bits 6 = .ok (.if_icmp .ge 17, 3) := by decide +kernel
theorem dX6_bits_9 : decode cX6_bits 9 = .ok (.iload_n 1, 1) := by decide +kernel
theorem dX6_bits_10 : decode cX6_bits 10 = .ok (.iload_n 0, 1) := by decide +kernel
theorem dX6_bits_11 : decode cX6_bits 11 = .ok (.iload_n 2, 1) := by decide +kernel
theorem dX6_bits_12 : decode cX6_bits 12 = .ok (.ishr, 1) := by decide +kernel
theorem dX6_bits_13 : decode cX6_bits 13 = .ok (.iconst 1, 1) := by decide +kernel
theorem dX6_bits_14 : decode cX6_bits 14 = .ok (.iand, 1) := by decide +kernel
theorem dX6_bits_15 : decode cX6_bits 15 = .ok (.iadd, 1) := by decide +kernel
theorem dX6_bits_16 : decode cX6_bits 16 = .ok (.istore_n 1, 1) := by decide +kernel
theorem dX6_bits_17 : decode cX6_bits 17 = .ok (.iinc 2 1, 3) := by decide +kernel
theorem dX6_bits_20 : decode cX6_bits 20 = .ok (.goto (-16), 3) := by decide +kernel
theorem dX6_bits_23 : decode cX6_bits 23 = .ok (.iload_n 1, 1) := by decide +kernel
theorem dX6_bits_24 : decode cX6_bits 24 = .ok (.ireturn, 1) := by decide +kernel
theorem dX6_refuse_0 : decode cX6_refuse 0 = .ok (.aload_n 0, 1) := by decide +kernel
theorem dX6_refuse_1 : decode cX6_refuse 1 = .ok (.getfield 16, 3) := by decide +kernel
theorem dX6_refuse_4 : decode cX6_refuse 4 = .ok (.iload_n 1, 1) := by decide +kernel
theorem dX6_refuse_5 : decode cX6_refuse 5 = .ok (.dup2, 1) := by decide +kernel
theorem dX6_refuse_6 : decode cX6_refuse 6 = .ok (.iaload, 1) := by decide +kernel
theorem dX6_refuse_7 : decode cX6_refuse 7 = .ok (.iconst 1, 1) := by decide +kernel
theorem dX6_refuse_8 : decode cX6_refuse 8 = .ok (.iadd, 1) := by decide +kernel
theorem dX6_refuse_9 : decode cX6_refuse 9 = .ok (.iastore, 1) := by decide +kernel
theorem dX6_refuse_10 : decode cX6_refuse 10 = .ok (.iload_n 2, 1) := by decide +kernel
theorem dX6_refuse_11 : decode cX6_refuse 11 = .ok (.ireturn, 1) := by decide +kernel
theorem dX6_bad_0 : decode cX6_bad 0 = .ok (.aload_n 0, 1) := by decide +kernel
theorem dX6_bad_1 : decode cX6_bad 1 = .ok (.iconst 0, 1) := by decide +kernel
theorem dX6_bad_2 : decode cX6_bad 2 = .ok (.bipush (-2), 2) := by decide +kernel
theorem dX6_bad_4 : decode cX6_bad 4 = .ok (.invokevirtual 32, 3) := by decide +kernel
theorem dX6_bad_7 : decode cX6_bad 7 = .ok (.ireturn, 1) := by decide +kernel
theorem dX6_isWriter_0 : decode cX6_isWriter 0 = .ok (.iload_n 0, 1) := by decide +kernel
theorem dX6_isWriter_1 : decode cX6_isWriter 1 = .ok (.iconst 0, 1) := by decide +kernel
theorem dX6_isWriter_2 : decode cX6_isWriter 2 = .ok (.iconst 3, 1) := by decide +kernel
theorem dX6_isWriter_3 : decode cX6_isWriter 3 = .ok (.invokestatic 36, 3) := by decide +kernel
theorem dX6_isWriter_6 : decode cX6_isWriter 6 = .ok (.ireturn, 1) := by decide +kernel
theorem dX6_isPart_0 : decode cX6_isPart 0 = .ok (.iload_n 0, 1) := by decide +kernel
theorem dX6_isPart_1 : decode cX6_isPart 1 = .ok (.iconst 0, 1) := by decide +kernel
theorem dX6_isPart_2 : decode cX6_isPart 2 = .ok (.iconst 2, 1) := by decide +kernel
theorem dX6_isPart_3 : decode cX6_isPart 3 = .ok (.invokestatic 36, 3) := by decide +kernel
theorem dX6_isPart_6 : decode cX6_isPart 6 = .ok (.ireturn, 1) := by decide +kernel
theorem dX6_isReader_0 : decode cX6_isReader 0 = .ok (.iload_n 0, 1) := by decide +kernel
theorem dX6_isReader_1 : decode cX6_isReader 1 = .ok (.iconst 0, 1) := by decide +kernel
theorem dX6_isReader_2 : decode cX6_isReader 2 = .ok (.iconst 1, 1) := by decide +kernel
theorem dX6_isReader_3 : decode cX6_isReader 3 = .ok (.invokestatic 36, 3) := by decide +kernel
theorem dX6_isReader_6 : decode cX6_isReader 6 = .ok (.ireturn, 1) := by decide +kernel
theorem dX6_copies_0 : decode cX6_copies 0 = .ok (.iconst 0, 1) := by decide +kernel
theorem dX6_copies_1 : decode cX6_copies 1 = .ok (.istore 5, 2) := by decide +kernel
theorem dX6_copies_3 : decode cX6_copies 3 = .ok (.iload 5, 2) := by decide +kernel
theorem dX6_copies_5 : decode cX6_copies 5 = .ok (.sipush 945, 3) := by decide +kernel
theorem dX6_copies_8 : decode cX6_copies 8 = .ok (.if_icmp .ge 22, 3) := by decide +kernel
theorem dX6_copies_11 : decode cX6_copies 11 = .ok (.aload_n 3, 1) := by decide +kernel
theorem dX6_copies_12 : decode cX6_copies 12 = .ok (.iload 4, 2) := by decide +kernel
theorem dX6_copies_14 : decode cX6_copies 14 = .ok (.iload 5, 2) := by decide +kernel
theorem dX6_copies_16 : decode cX6_copies 16 = .ok (.iadd, 1) := by decide +kernel
theorem dX6_copies_17 : decode cX6_copies 17 = .ok (.aload_n 1, 1) := by decide +kernel
theorem dX6_copies_18 : decode cX6_copies 18 = .ok (.iload_n 2, 1) := by decide +kernel
theorem dX6_copies_19 : decode cX6_copies 19 = .ok (.iload 5, 2) := by decide +kernel
theorem dX6_copies_21 : decode cX6_copies 21 = .ok (.iadd, 1) := by decide +kernel
theorem dX6_copies_22 : decode cX6_copies 22 = .ok (.iaload, 1) := by decide +kernel
theorem dX6_copies_23 : decode cX6_copies 23 = .ok (.iastore, 1) := by decide +kernel
theorem dX6_copies_24 : decode cX6_copies 24 = .ok (.iinc 5 1, 3) := by decide +kernel
theorem dX6_copies_27 : decode cX6_copies 27 = .ok (.goto (-24), 3) := by decide +kernel
theorem dX6_copies_30 : decode cX6_copies 30 = .ok (.return_, 1) := by decide +kernel
theorem dX6_keeps_0 : decode cX6_keeps 0 = .ok (.aload_n 0, 1) := by decide +kernel
theorem dX6_keeps_1 : decode cX6_keeps 1 = .ok (.getfield 40, 3) := by decide +kernel
theorem dX6_keeps_4 : decode cX6_keeps 4 = .ok (.bipush 6, 2) := by decide +kernel
theorem dX6_keeps_6 : decode cX6_keeps 6 = .ok (.if_icmp .ne 44, 3) := by decide +kernel
theorem dX6_keeps_9 : decode cX6_keeps 9 = .ok (.iconst 0, 1) := by decide +kernel
theorem dX6_keeps_10 : decode cX6_keeps 10 = .ok (.istore_n 3, 1) := by decide +kernel
theorem dX6_keeps_11 : decode cX6_keeps 11 = .ok (.iload_n 3, 1) := by decide +kernel
theorem dX6_keeps_12 : decode cX6_keeps 12 = .ok (.sipush 4725, 3) := by decide +kernel
theorem dX6_keeps_15 : decode cX6_keeps 15 = .ok (.if_icmp .ge 25, 3) := by decide +kernel
theorem dX6_keeps_18 : decode cX6_keeps 18 = .ok (.aload_n 0, 1) := by decide +kernel
theorem dX6_keeps_19 : decode cX6_keeps 19 = .ok (.getfield 13, 3) := by decide +kernel
theorem dX6_keeps_22 : decode cX6_keeps 22 = .ok (.iload_n 3, 1) := by decide +kernel
theorem dX6_keeps_23 : decode cX6_keeps 23 = .ok (.aload_n 0, 1) := by decide +kernel
theorem dX6_keeps_24 : decode cX6_keeps 24 = .ok (.getfield 13, 3) := by decide +kernel
theorem dX6_keeps_27 : decode cX6_keeps 27 = .ok (.iload_n 3, 1) := by decide +kernel
theorem dX6_keeps_28 : decode cX6_keeps 28 = .ok (.sipush 945, 3) := by decide +kernel
theorem dX6_keeps_31 : decode cX6_keeps 31 = .ok (.iadd, 1) := by decide +kernel
theorem dX6_keeps_32 : decode cX6_keeps 32 = .ok (.iaload, 1) := by decide +kernel
theorem dX6_keeps_33 : decode cX6_keeps 33 = .ok (.iastore, 1) := by decide +kernel
theorem dX6_keeps_34 : decode cX6_keeps 34 = .ok (.iinc 3 1, 3) := by decide +kernel
theorem dX6_keeps_37 : decode cX6_keeps 37 = .ok (.goto (-26), 3) := by decide +kernel
theorem dX6_keeps_40 : decode cX6_keeps 40 = .ok (.aload_n 0, 1) := by decide +kernel
theorem dX6_keeps_41 : decode cX6_keeps 41 = .ok (.dup, 1) := by decide +kernel
theorem dX6_keeps_42 : decode cX6_keeps 42 = .ok (.getfield 40, 3) := by decide +kernel
theorem dX6_keeps_45 : decode cX6_keeps 45 = .ok (.iconst 1, 1) := by decide +kernel
theorem dX6_keeps_46 : decode cX6_keeps 46 = .ok (.isub, 1) := by decide +kernel
theorem dX6_keeps_47 : decode cX6_keeps 47 = .ok (.putfield 40, 3) := by decide +kernel
theorem dX6_keeps_50 : decode cX6_keeps 50 = .ok (.aload_n 0, 1) := by decide +kernel
theorem dX6_keeps_51 : decode cX6_keeps 51 = .ok (.aload_n 1, 1) := by decide +kernel
theorem dX6_keeps_52 : decode cX6_keeps 52 = .ok (.iload_n 2, 1) := by decide +kernel
theorem dX6_keeps_53 : decode cX6_keeps 53 = .ok (.aload_n 0, 1) := by decide +kernel
theorem dX6_keeps_54 : decode cX6_keeps 54 = .ok (.getfield 13, 3) := by decide +kernel
theorem dX6_keeps_57 : decode cX6_keeps 57 = .ok (.sipush 945, 3) := by decide +kernel
theorem dX6_keeps_60 : decode cX6_keeps 60 = .ok (.aload_n 0, 1) := by decide +kernel
theorem dX6_keeps_61 : decode cX6_keeps 61 = .ok (.getfield 40, 3) := by decide +kernel
theorem dX6_keeps_64 : decode cX6_keeps 64 = .ok (.imul, 1) := by decide +kernel
theorem dX6_keeps_65 : decode cX6_keeps 65 = .ok (.invokevirtual 44, 3) := by decide +kernel
theorem dX6_keeps_68 : decode cX6_keeps 68 = .ok (.aload_n 0, 1) := by decide +kernel
theorem dX6_keeps_69 : decode cX6_keeps 69 = .ok (.dup, 1) := by decide +kernel
theorem dX6_keeps_70 : decode cX6_keeps 70 = .ok (.getfield 40, 3) := by decide +kernel
theorem dX6_keeps_73 : decode cX6_keeps 73 = .ok (.iconst 1, 1) := by decide +kernel
theorem dX6_keeps_74 : decode cX6_keeps 74 = .ok (.iadd, 1) := by decide +kernel
theorem dX6_keeps_75 : decode cX6_keeps 75 = .ok (.putfield 40, 3) := by decide +kernel
theorem dX6_keeps_78 : decode cX6_keeps 78 = .ok (.return_, 1) := by decide +kernel
theorem dX6_notes_0 : decode cX6_notes 0 = .ok (.aload_n 0, 1) := by decide +kernel
theorem dX6_notes_1 : decode cX6_notes 1 = .ok (.getfield 48, 3) := by decide +kernel
theorem dX6_notes_4 : decode cX6_notes 4 = .ok (.ifCond .ne 12, 3) := by decide +kernel
theorem dX6_notes_7 : decode cX6_notes 7 = .ok (.aload_n 0, 1) := by decide +kernel
theorem dX6_notes_8 : decode cX6_notes 8 = .ok (.aload_n 0, 1) := by decide +kernel
theorem dX6_notes_9 : decode cX6_notes 9 = .ok (.getfield 7, 3) := by decide +kernel
theorem dX6_notes_12 : decode cX6_notes 12 = .ok (.iconst 0, 1) := by decide +kernel
theorem dX6_notes_13 : decode cX6_notes 13 = .ok (.invokevirtual 52, 3) := by decide +kernel
theorem dX6_notes_16 : decode cX6_notes 16 = .ok (.return_, 1) := by decide +kernel
theorem dX6_of_0 : decode cX6_of 0 = .ok (.aload_n 0, 1) := by decide +kernel
theorem dX6_of_1 : decode cX6_of 1 = .ok (.getfield 7, 3) := by decide +kernel
theorem dX6_of_4 : decode cX6_of 4 = .ok (.iconst 2, 1) := by decide +kernel
theorem dX6_of_5 : decode cX6_of 5 = .ok (.bipush 16, 2) := by decide +kernel
theorem dX6_of_7 : decode cX6_of 7 = .ok (.iload_n 1, 1) := by decide +kernel
theorem dX6_of_8 : decode cX6_of 8 = .ok (.imul, 1) := by decide +kernel
theorem dX6_of_9 : decode cX6_of 9 = .ok (.iadd, 1) := by decide +kernel
theorem dX6_of_10 : decode cX6_of 10 = .ok (.iload_n 2, 1) := by decide +kernel
theorem dX6_of_11 : decode cX6_of 11 = .ok (.iadd, 1) := by decide +kernel
theorem dX6_of_12 : decode cX6_of 12 = .ok (.iaload, 1) := by decide +kernel
theorem dX6_of_13 : decode cX6_of 13 = .ok (.ireturn, 1) := by decide +kernel
theorem dX6_lays_0 : decode cX6_lays 0 = .ok (.aload_n 0, 1) := by decide +kernel
theorem dX6_lays_1 : decode cX6_lays 1 = .ok (.getfield 7, 3) := by decide +kernel
theorem dX6_lays_4 : decode cX6_lays 4 = .ok (.iconst 2, 1) := by decide +kernel
theorem dX6_lays_5 : decode cX6_lays 5 = .ok (.bipush 16, 2) := by decide +kernel
theorem dX6_lays_7 : decode cX6_lays 7 = .ok (.iload_n 1, 1) := by decide +kernel
theorem dX6_lays_8 : decode cX6_lays 8 = .ok (.imul, 1) := by decide +kernel
theorem dX6_lays_9 : decode cX6_lays 9 = .ok (.iadd, 1) := by decide +kernel
theorem dX6_lays_10 : decode cX6_lays 10 = .ok (.iload_n 2, 1) := by decide +kernel
theorem dX6_lays_11 : decode cX6_lays 11 = .ok (.iadd, 1) := by decide +kernel
theorem dX6_lays_12 : decode cX6_lays 12 = .ok (.iload_n 3, 1) := by decide +kernel
theorem dX6_lays_13 : decode cX6_lays 13 = .ok (.iastore, 1) := by decide +kernel
theorem dX6_lays_14 : decode cX6_lays 14 = .ok (.return_, 1) := by decide +kernel
theorem dX6_sizeOf_0 : decode cX6_sizeOf 0 = .ok (.aload_n 0, 1) := by decide +kernel
theorem dX6_sizeOf_1 : decode cX6_sizeOf 1 = .ok (.getfield 7, 3) := by decide +kernel
theorem dX6_sizeOf_4 : decode cX6_sizeOf 4 = .ok (.bipush 66, 2) := by decide +kernel
theorem dX6_sizeOf_6 : decode cX6_sizeOf 6 = .ok (.iload_n 1, 1) := by decide +kernel
theorem dX6_sizeOf_7 : decode cX6_sizeOf 7 = .ok (.iadd, 1) := by decide +kernel
theorem dX6_sizeOf_8 : decode cX6_sizeOf 8 = .ok (.iaload, 1) := by decide +kernel
theorem dX6_sizeOf_9 : decode cX6_sizeOf 9 = .ok (.ireturn, 1) := by decide +kernel
theorem dX6_cellOf_0 : decode cX6_cellOf 0 = .ok (.aload_n 0, 1) := by decide +kernel
theorem dX6_cellOf_1 : decode cX6_cellOf 1 = .ok (.getfield 7, 3) := by decide +kernel
theorem dX6_cellOf_4 : decode cX6_cellOf 4 = .ok (.bipush 81, 2) := by decide +kernel
theorem dX6_cellOf_6 : decode cX6_cellOf 6 = .ok (.sipush 288, 3) := by decide +kernel
theorem dX6_cellOf_9 : decode cX6_cellOf 9 = .ok (.iload_n 1, 1) := by decide +kernel
theorem dX6_cellOf_10 : decode cX6_cellOf 10 = .ok (.imul, 1) := by decide +kernel
theorem dX6_cellOf_11 : decode cX6_cellOf 11 = .ok (.iadd, 1) := by decide +kernel
theorem dX6_cellOf_12 : decode cX6_cellOf 12 = .ok (.bipush 6, 2) := by decide +kernel
theorem dX6_cellOf_14 : decode cX6_cellOf 14 = .ok (.iload_n 2, 1) := by decide +kernel
theorem dX6_cellOf_15 : decode cX6_cellOf 15 = .ok (.imul, 1) := by decide +kernel
theorem dX6_cellOf_16 : decode cX6_cellOf 16 = .ok (.iadd, 1) := by decide +kernel
theorem dX6_cellOf_17 : decode cX6_cellOf 17 = .ok (.iload_n 3, 1) := by decide +kernel
theorem dX6_cellOf_18 : decode cX6_cellOf 18 = .ok (.iadd, 1) := by decide +kernel
theorem dX6_cellOf_19 : decode cX6_cellOf 19 = .ok (.iaload, 1) := by decide +kernel
theorem dX6_cellOf_20 : decode cX6_cellOf 20 = .ok (.ireturn, 1) := by decide +kernel
theorem dX6_put_0 : decode cX6_put 0 = .ok (.aload_n 0, 1) := by decide +kernel
theorem dX6_put_1 : decode cX6_put 1 = .ok (.getfield 7, 3) := by decide +kernel
theorem dX6_put_4 : decode cX6_put 4 = .ok (.bipush 81, 2) := by decide +kernel
theorem dX6_put_6 : decode cX6_put 6 = .ok (.sipush 288, 3) := by decide +kernel
theorem dX6_put_9 : decode cX6_put 9 = .ok (.iload_n 1, 1) := by decide +kernel
theorem dX6_put_10 : decode cX6_put 10 = .ok (.imul, 1) := by decide +kernel
theorem dX6_put_11 : decode cX6_put 11 = .ok (.iadd, 1) := by decide +kernel
theorem dX6_put_12 : decode cX6_put 12 = .ok (.bipush 6, 2) := by decide +kernel
theorem dX6_put_14 : decode cX6_put 14 = .ok (.iload_n 2, 1) := by decide +kernel
theorem dX6_put_15 : decode cX6_put 15 = .ok (.imul, 1) := by decide +kernel
theorem dX6_put_16 : decode cX6_put 16 = .ok (.iadd, 1) := by decide +kernel
theorem dX6_put_17 : decode cX6_put 17 = .ok (.iload_n 3, 1) := by decide +kernel
theorem dX6_put_18 : decode cX6_put 18 = .ok (.iadd, 1) := by decide +kernel
theorem dX6_put_19 : decode cX6_put 19 = .ok (.iload 4, 2) := by decide +kernel
theorem dX6_put_21 : decode cX6_put 21 = .ok (.iastore, 1) := by decide +kernel
theorem dX6_put_22 : decode cX6_put 22 = .ok (.return_, 1) := by decide +kernel
end
section
theorem dX6_manyAre_0 : decode cX6_manyAre 0 = .ok (.iconst 0, 1) := by decide +kernel
theorem dX6_manyAre_1 : decode cX6_manyAre 1 = .ok (.istore_n 2, 1) := by decide +kernel
theorem dX6_manyAre_2 : decode cX6_manyAre 2 = .ok (.iconst 0, 1) := by decide +kernel
theorem dX6_manyAre_3 : decode cX6_manyAre 3 = .ok (.istore_n 3, 1) := by decide +kernel
theorem dX6_manyAre_4 : decode cX6_manyAre 4 = .ok (.iload_n 3, 1) := by decide +kernel
theorem dX6_manyAre_5 : decode cX6_manyAre 5 = .ok (.iconst 4, 1) := by decide +kernel
theorem dX6_manyAre_6 : decode cX6_manyAre 6 = .ok (.if_icmp .ge 27, 3) := by decide +kernel
theorem dX6_manyAre_9 : decode cX6_manyAre 9 = .ok (.iload_n 2, 1) := by decide +kernel
theorem dX6_manyAre_10 : decode cX6_manyAre 10 = .ok (.aload_n 0, 1) := by decide +kernel
theorem dX6_manyAre_11 : decode cX6_manyAre 11 = .ok (.iload_n 3, 1) := by decide +kernel
theorem dX6_manyAre_12 : decode cX6_manyAre 12 = .ok (.iconst 1, 1) := by decide +kernel
theorem dX6_manyAre_13 : decode cX6_manyAre 13 = .ok (.invokevirtual 56, 3) := by decide +kernel
theorem dX6_manyAre_16 : decode cX6_manyAre 16 = .ok (.iload_n 1, 1) := by decide +kernel
theorem dX6_manyAre_17 : decode cX6_manyAre 17 = .ok (.if_icmp .ne 7, 3) := by decide +kernel
theorem dX6_manyAre_20 : decode cX6_manyAre 20 = .ok (.iconst 1, 1) := by decide +kernel
theorem dX6_manyAre_21 : decode cX6_manyAre 21 = .ok (.goto 4, 3) := by decide +kernel
theorem dX6_manyAre_24 : decode cX6_manyAre 24 = .ok (.iconst 0, 1) := by decide +kernel
theorem dX6_manyAre_25 : decode cX6_manyAre 25 = .ok (.iadd, 1) := by decide +kernel
theorem dX6_manyAre_26 : decode cX6_manyAre 26 = .ok (.istore_n 2, 1) := by decide +kernel
theorem dX6_manyAre_27 : decode cX6_manyAre 27 = .ok (.iinc 3 1, 3) := by decide +kernel
theorem dX6_manyAre_30 : decode cX6_manyAre 30 = .ok (.goto (-26), 3) := by decide +kernel
theorem dX6_manyAre_33 : decode cX6_manyAre 33 = .ok (.iload_n 2, 1) := by decide +kernel
theorem dX6_manyAre_34 : decode cX6_manyAre 34 = .ok (.ireturn, 1) := by decide +kernel
theorem dX6_lacksMark_0 : decode cX6_lacksMark 0 = .ok (.aload_n 0, 1) := by decide +kernel
theorem dX6_lacksMark_1 : decode cX6_lacksMark 1 = .ok (.iload_n 1, 1) := by decide +kernel
theorem dX6_lacksMark_2 : decode cX6_lacksMark 2 = .ok (.iconst 1, 1) := by decide +kernel
theorem dX6_lacksMark_3 : decode cX6_lacksMark 3 = .ok (.invokevirtual 56, 3) := by decide +kernel
theorem dX6_lacksMark_6 : decode cX6_lacksMark 6 = .ok (.ifCond .eq 33, 3) := by decide +kernel
theorem dX6_lacksMark_9 : decode cX6_lacksMark 9 = .ok (.aload_n 0, 1) := by decide +kernel
theorem dX6_lacksMark_10 : decode cX6_lacksMark 10 = .ok (.iload_n 1, 1) := by decide +kernel
theorem dX6_lacksMark_11 : decode cX6_lacksMark 11 = .ok (.iconst 2, 1) := by decide +kernel
theorem dX6_lacksMark_12 : decode cX6_lacksMark 12 = .ok (.invokevirtual 56, 3) := by decide +kernel
theorem dX6_lacksMark_15 : decode cX6_lacksMark 15 = .ok (.iload_n 2, 1) := by decide +kernel
theorem dX6_lacksMark_16 : decode cX6_lacksMark 16 = .ok (.invokestatic 59, 3) := by decide +kernel
theorem dX6_lacksMark_19 : decode cX6_lacksMark 19 = .ok (.ifCond .eq 20, 3) := by decide +kernel
theorem dX6_lacksMark_22 : decode cX6_lacksMark 22 = .ok (.aload_n 0, 1) := by decide +kernel
theorem dX6_lacksMark_23 : decode cX6_lacksMark 23 = .ok (.iload_n 1, 1) := by decide +kernel
theorem dX6_lacksMark_24 : decode cX6_lacksMark 24 = .ok (.iconst 3, 1) := by decide +kernel
theorem dX6_lacksMark_25 : decode cX6_lacksMark 25 = .ok (.invokevirtual 56, 3) := by decide +kernel
theorem dX6_lacksMark_28 : decode cX6_lacksMark 28 = .ok (.iload_n 2, 1) := by decide +kernel
theorem dX6_lacksMark_29 : decode cX6_lacksMark 29 = .ok (.invokestatic 59, 3) := by decide +kernel
theorem dX6_lacksMark_32 : decode cX6_lacksMark 32 = .ok (.ifCond .ne 7, 3) := by decide +kernel
theorem dX6_lacksMark_35 : decode cX6_lacksMark 35 = .ok (.iconst 1, 1) := by decide +kernel
theorem dX6_lacksMark_36 : decode cX6_lacksMark 36 = .ok (.goto 4, 3) := by decide +kernel
theorem dX6_lacksMark_39 : decode cX6_lacksMark 39 = .ok (.iconst 0, 1) := by decide +kernel
theorem dX6_lacksMark_40 : decode cX6_lacksMark 40 = .ok (.ireturn, 1) := by decide +kernel
theorem dX6_owed_0 : decode cX6_owed 0 = .ok (.iconst 0, 1) := by decide +kernel
theorem dX6_owed_1 : decode cX6_owed 1 = .ok (.istore_n 2, 1) := by decide +kernel
theorem dX6_owed_2 : decode cX6_owed 2 = .ok (.iconst 0, 1) := by decide +kernel
theorem dX6_owed_3 : decode cX6_owed 3 = .ok (.istore_n 3, 1) := by decide +kernel
theorem dX6_owed_4 : decode cX6_owed 4 = .ok (.iload_n 3, 1) := by decide +kernel
theorem dX6_owed_5 : decode cX6_owed 5 = .ok (.iconst 4, 1) := by decide +kernel
theorem dX6_owed_6 : decode cX6_owed 6 = .ok (.if_icmp .ge 36, 3) := by decide +kernel
theorem dX6_owed_9 : decode cX6_owed 9 = .ok (.iload_n 2, 1) := by decide +kernel
theorem dX6_owed_10 : decode cX6_owed 10 = .ok (.aload_n 0, 1) := by decide +kernel
theorem dX6_owed_11 : decode cX6_owed 11 = .ok (.iload_n 3, 1) := by decide +kernel
theorem dX6_owed_12 : decode cX6_owed 12 = .ok (.iload_n 1, 1) := by decide +kernel
theorem dX6_owed_13 : decode cX6_owed 13 = .ok (.invokevirtual 63, 3) := by decide +kernel
theorem dX6_owed_16 : decode cX6_owed 16 = .ok (.ifCond .ne 13, 3) := by decide +kernel
theorem dX6_owed_19 : decode cX6_owed 19 = .ok (.aload_n 0, 1) := by decide +kernel
theorem dX6_owed_20 : decode cX6_owed 20 = .ok (.iload_n 3, 1) := by decide +kernel
theorem dX6_owed_21 : decode cX6_owed 21 = .ok (.iconst 1, 1) := by decide +kernel
theorem dX6_owed_22 : decode cX6_owed 22 = .ok (.invokevirtual 56, 3) := by decide +kernel
theorem dX6_owed_25 : decode cX6_owed 25 = .ok (.iconst 1, 1) := by decide +kernel
theorem dX6_owed_26 : decode cX6_owed 26 = .ok (.if_icmp .ne 7, 3) := by decide +kernel
theorem dX6_owed_29 : decode cX6_owed 29 = .ok (.iconst 1, 1) := by decide +kernel
theorem dX6_owed_30 : decode cX6_owed 30 = .ok (.goto 4, 3) := by decide +kernel
theorem dX6_owed_33 : decode cX6_owed 33 = .ok (.iconst 0, 1) := by decide +kernel
theorem dX6_owed_34 : decode cX6_owed 34 = .ok (.iadd, 1) := by decide +kernel
theorem dX6_owed_35 : decode cX6_owed 35 = .ok (.istore_n 2, 1) := by decide +kernel
theorem dX6_owed_36 : decode cX6_owed 36 = .ok (.iinc 3 1, 3) := by decide +kernel
theorem dX6_owed_39 : decode cX6_owed 39 = .ok (.goto (-35), 3) := by decide +kernel
theorem dX6_owed_42 : decode cX6_owed 42 = .ok (.iload_n 2, 1) := by decide +kernel
theorem dX6_owed_43 : decode cX6_owed 43 = .ok (.ireturn, 1) := by decide +kernel
theorem dX6_holder_0 : decode cX6_holder 0 = .ok (.iconst (-1), 1) := by decide +kernel
theorem dX6_holder_1 : decode cX6_holder 1 = .ok (.istore_n 2, 1) := by decide +kernel
theorem dX6_holder_2 : decode cX6_holder 2 = .ok (.iconst 0, 1) := by decide +kernel
theorem dX6_holder_3 : decode cX6_holder 3 = .ok (.istore_n 3, 1) := by decide +kernel
theorem dX6_holder_4 : decode cX6_holder 4 = .ok (.iload_n 3, 1) := by decide +kernel
theorem dX6_holder_5 : decode cX6_holder 5 = .ok (.iconst 4, 1) := by decide +kernel
theorem dX6_holder_6 : decode cX6_holder 6 = .ok (.if_icmp .ge 62, 3) := by decide +kernel
theorem dX6_holder_9 : decode cX6_holder 9 = .ok (.aload_n 0, 1) := by decide +kernel
theorem dX6_holder_10 : decode cX6_holder 10 = .ok (.iload_n 3, 1) := by decide +kernel
theorem dX6_holder_11 : decode cX6_holder 11 = .ok (.iload_n 1, 1) := by decide +kernel
theorem dX6_holder_12 : decode cX6_holder 12 = .ok (.invokevirtual 63, 3) := by decide +kernel
theorem dX6_holder_15 : decode cX6_holder 15 = .ok (.ifCond .eq 33, 3) := by decide +kernel
theorem dX6_holder_18 : decode cX6_holder 18 = .ok (.iload_n 2, 1) := by decide +kernel
theorem dX6_holder_19 : decode cX6_holder 19 = .ok (.iconst (-1), 1) := by decide +kernel
theorem dX6_holder_20 : decode cX6_holder 20 = .ok (.if_icmp .eq 24, 3) := by decide +kernel
theorem dX6_holder_23 : decode cX6_holder 23 = .ok (.aload_n 0, 1) := by decide +kernel
theorem dX6_holder_24 : decode cX6_holder 24 = .ok (.iload_n 3, 1) := by decide +kernel
theorem dX6_holder_25 : decode cX6_holder 25 = .ok (.bipush 7, 2) := by decide +kernel
theorem dX6_holder_27 : decode cX6_holder 27 = .ok (.iload_n 1, 1) := by decide +kernel
theorem dX6_holder_28 : decode cX6_holder 28 = .ok (.iadd, 1) := by decide +kernel
theorem dX6_holder_29 : decode cX6_holder 29 = .ok (.invokevirtual 56, 3) := by decide +kernel
theorem dX6_holder_32 : decode cX6_holder 32 = .ok (.aload_n 0, 1) := by decide +kernel
theorem dX6_holder_33 : decode cX6_holder 33 = .ok (.iload_n 2, 1) := by decide +kernel
theorem dX6_holder_34 : decode cX6_holder 34 = .ok (.bipush 7, 2) := by decide +kernel
theorem dX6_holder_36 : decode cX6_holder 36 = .ok (.iload_n 1, 1) := by decide +kernel
theorem dX6_holder_37 : decode cX6_holder 37 = .ok (.iadd, 1) := by decide +kernel
theorem dX6_holder_38 : decode cX6_holder 38 = .ok (.invokevirtual 56, 3) := by decide +kernel
theorem dX6_holder_41 : decode cX6_holder 41 = .ok (.if_icmp .ge 7, 3) := by decide +kernel
theorem dX6_holder_44 : decode cX6_holder 44 = .ok (.iconst 1, 1) := by decide +kernel
theorem dX6_holder_45 : decode cX6_holder 45 = .ok (.goto 4, 3) := by decide +kernel
theorem dX6_holder_48 : decode cX6_holder 48 = .ok (.iconst 0, 1) := by decide +kernel
theorem dX6_holder_49 : decode cX6_holder 49 = .ok (.istore 4, 2) := by decide +kernel
theorem dX6_holder_51 : decode cX6_holder 51 = .ok (.iload 4, 2) := by decide +kernel
theorem dX6_holder_53 : decode cX6_holder 53 = .ok (.ifCond .eq 7, 3) := by decide +kernel
theorem dX6_holder_56 : decode cX6_holder 56 = .ok (.iload_n 3, 1) := by decide +kernel
theorem dX6_holder_57 : decode cX6_holder 57 = .ok (.goto 4, 3) := by decide +kernel
theorem dX6_holder_60 : decode cX6_holder 60 = .ok (.iload_n 2, 1) := by decide +kernel
theorem dX6_holder_61 : decode cX6_holder 61 = .ok (.istore_n 2, 1) := by decide +kernel
theorem dX6_holder_62 : decode cX6_holder 62 = .ok (.iinc 3 1, 3) := by decide +kernel
theorem dX6_holder_65 : decode cX6_holder 65 = .ok (.goto (-61), 3) := by decide +kernel
theorem dX6_holder_68 : decode cX6_holder 68 = .ok (.iload_n 2, 1) := by decide +kernel
theorem dX6_holder_69 : decode cX6_holder 69 = .ok (.ireturn, 1) := by decide +kernel
theorem dX6_stable_0 : decode cX6_stable 0 = .ok (.aload_n 0, 1) := by decide +kernel
theorem dX6_stable_1 : decode cX6_stable 1 = .ok (.iload_n 1, 1) := by decide +kernel
theorem dX6_stable_2 : decode cX6_stable 2 = .ok (.invokevirtual 66, 3) := by decide +kernel
theorem dX6_stable_5 : decode cX6_stable 5 = .ok (.istore_n 2, 1) := by decide +kernel
theorem dX6_stable_6 : decode cX6_stable 6 = .ok (.iload_n 2, 1) := by decide +kernel
theorem dX6_stable_7 : decode cX6_stable 7 = .ok (.iconst (-1), 1) := by decide +kernel
theorem dX6_stable_8 : decode cX6_stable 8 = .ok (.if_icmp .ne 11, 3) := by decide +kernel
theorem dX6_stable_11 : decode cX6_stable 11 = .ok (.aload_n 0, 1) := by decide +kernel
theorem dX6_stable_12 : decode cX6_stable 12 = .ok (.iload_n 1, 1) := by decide +kernel
theorem dX6_stable_13 : decode cX6_stable 13 = .ok (.invokevirtual 70, 3) := by decide +kernel
theorem dX6_stable_16 : decode cX6_stable 16 = .ok (.goto 12, 3) := by decide +kernel
theorem dX6_stable_19 : decode cX6_stable 19 = .ok (.aload_n 0, 1) := by decide +kernel
theorem dX6_stable_20 : decode cX6_stable 20 = .ok (.iload_n 2, 1) := by decide +kernel
theorem dX6_stable_21 : decode cX6_stable 21 = .ok (.bipush 7, 2) := by decide +kernel
theorem dX6_stable_23 : decode cX6_stable 23 = .ok (.iload_n 1, 1) := by decide +kernel
theorem dX6_stable_24 : decode cX6_stable 24 = .ok (.iadd, 1) := by decide +kernel
theorem dX6_stable_25 : decode cX6_stable 25 = .ok (.invokevirtual 56, 3) := by decide +kernel
theorem dX6_stable_28 : decode cX6_stable 28 = .ok (.ireturn, 1) := by decide +kernel
theorem dX6_isSeen_0 : decode cX6_isSeen 0 = .ok (.aload_n 0, 1) := by decide +kernel
theorem dX6_isSeen_1 : decode cX6_isSeen 1 = .ok (.iload_n 1, 1) := by decide +kernel
theorem dX6_isSeen_2 : decode cX6_isSeen 2 = .ok (.iload_n 2, 1) := by decide +kernel
theorem dX6_isSeen_3 : decode cX6_isSeen 3 = .ok (.iconst 5, 1) := by decide +kernel
theorem dX6_isSeen_4 : decode cX6_isSeen 4 = .ok (.invokevirtual 73, 3) := by decide +kernel
theorem dX6_isSeen_7 : decode cX6_isSeen 7 = .ok (.istore 4, 2) := by decide +kernel
theorem dX6_isSeen_9 : decode cX6_isSeen 9 = .ok (.iload_n 2, 1) := by decide +kernel
theorem dX6_isSeen_10 : decode cX6_isSeen 10 = .ok (.iload_n 3, 1) := by decide +kernel
theorem dX6_isSeen_11 : decode cX6_isSeen 11 = .ok (.if_icmp .ge 28, 3) := by decide +kernel
theorem dX6_isSeen_14 : decode cX6_isSeen 14 = .ok (.aload_n 0, 1) := by decide +kernel
theorem dX6_isSeen_15 : decode cX6_isSeen 15 = .ok (.iload_n 1, 1) := by decide +kernel
theorem dX6_isSeen_16 : decode cX6_isSeen 16 = .ok (.iload_n 2, 1) := by decide +kernel
theorem dX6_isSeen_17 : decode cX6_isSeen 17 = .ok (.iconst 0, 1) := by decide +kernel
theorem dX6_isSeen_18 : decode cX6_isSeen 18 = .ok (.invokevirtual 73, 3) := by decide +kernel
theorem dX6_isSeen_21 : decode cX6_isSeen 21 = .ok (.ifCond .ne 18, 3) := by decide +kernel
theorem dX6_isSeen_24 : decode cX6_isSeen 24 = .ok (.iload 4, 2) := by decide +kernel
theorem dX6_isSeen_26 : decode cX6_isSeen 26 = .ok (.ifCond .eq 9, 3) := by decide +kernel
theorem dX6_isSeen_29 : decode cX6_isSeen 29 = .ok (.iload 4, 2) := by decide +kernel
theorem dX6_isSeen_31 : decode cX6_isSeen 31 = .ok (.iconst 2, 1) := by decide +kernel
theorem dX6_isSeen_32 : decode cX6_isSeen 32 = .ok (.if_icmp .ne 7, 3) := by decide +kernel
theorem dX6_isSeen_35 : decode cX6_isSeen 35 = .ok (.iconst 1, 1) := by decide +kernel
theorem dX6_isSeen_36 : decode cX6_isSeen 36 = .ok (.goto 4, 3) := by decide +kernel
theorem dX6_isSeen_39 : decode cX6_isSeen 39 = .ok (.iconst 0, 1) := by decide +kernel
theorem dX6_isSeen_40 : decode cX6_isSeen 40 = .ok (.ireturn, 1) := by decide +kernel
theorem dX6_seenFrom_0 : decode cX6_seenFrom 0 = .ok (.iconst 0, 1) := by decide +kernel
theorem dX6_seenFrom_1 : decode cX6_seenFrom 1 = .ok (.istore_n 3, 1) := by decide +kernel
theorem dX6_seenFrom_2 : decode cX6_seenFrom 2 = .ok (.aload_n 0, 1) := by decide +kernel
theorem dX6_seenFrom_3 : decode cX6_seenFrom 3 = .ok (.iload_n 1, 1) := by decide +kernel
theorem dX6_seenFrom_4 : decode cX6_seenFrom 4 = .ok (.invokevirtual 77, 3) := by decide +kernel
theorem dX6_seenFrom_7 : decode cX6_seenFrom 7 = .ok (.istore 4, 2) := by decide +kernel
theorem dX6_seenFrom_9 : decode cX6_seenFrom 9 = .ok (.iload_n 2, 1) := by decide +kernel
theorem dX6_seenFrom_10 : decode cX6_seenFrom 10 = .ok (.istore 5, 2) := by decide +kernel
theorem dX6_seenFrom_12 : decode cX6_seenFrom 12 = .ok (.iload 5, 2) := by decide +kernel
theorem dX6_seenFrom_14 : decode cX6_seenFrom 14 = .ok (.iload 4, 2) := by decide +kernel
theorem dX6_seenFrom_16 : decode cX6_seenFrom 16 = .ok (.if_icmp .ge 29, 3) := by decide +kernel
theorem dX6_seenFrom_19 : decode cX6_seenFrom 19 = .ok (.iload_n 3, 1) := by decide +kernel
theorem dX6_seenFrom_20 : decode cX6_seenFrom 20 = .ok (.aload_n 0, 1) := by decide +kernel
theorem dX6_seenFrom_21 : decode cX6_seenFrom 21 = .ok (.iload_n 1, 1) := by decide +kernel
theorem dX6_seenFrom_22 : decode cX6_seenFrom 22 = .ok (.iload 5, 2) := by decide +kernel
theorem dX6_seenFrom_24 : decode cX6_seenFrom 24 = .ok (.iload 4, 2) := by decide +kernel
theorem dX6_seenFrom_26 : decode cX6_seenFrom 26 = .ok (.invokevirtual 80, 3) := by decide +kernel
theorem dX6_seenFrom_29 : decode cX6_seenFrom 29 = .ok (.ifCond .eq 7, 3) := by decide +kernel
theorem dX6_seenFrom_32 : decode cX6_seenFrom 32 = .ok (.iconst 1, 1) := by decide +kernel
theorem dX6_seenFrom_33 : decode cX6_seenFrom 33 = .ok (.goto 4, 3) := by decide +kernel
theorem dX6_seenFrom_36 : decode cX6_seenFrom 36 = .ok (.iconst 0, 1) := by decide +kernel
theorem dX6_seenFrom_37 : decode cX6_seenFrom 37 = .ok (.iadd, 1) := by decide +kernel
theorem dX6_seenFrom_38 : decode cX6_seenFrom 38 = .ok (.istore_n 3, 1) := by decide +kernel
theorem dX6_seenFrom_39 : decode cX6_seenFrom 39 = .ok (.iinc 5 1, 3) := by decide +kernel
theorem dX6_seenFrom_42 : decode cX6_seenFrom 42 = .ok (.goto (-30), 3) := by decide +kernel
theorem dX6_seenFrom_45 : decode cX6_seenFrom 45 = .ok (.iload_n 3, 1) := by decide +kernel
theorem dX6_seenFrom_46 : decode cX6_seenFrom 46 = .ok (.ireturn, 1) := by decide +kernel
theorem dX6_firstSeen_0 : decode cX6_firstSeen 0 = .ok (.aload_n 0, 1) := by decide +kernel
theorem dX6_firstSeen_1 : decode cX6_firstSeen 1 = .ok (.iload_n 1, 1) := by decide +kernel
theorem dX6_firstSeen_2 : decode cX6_firstSeen 2 = .ok (.invokevirtual 77, 3) := by decide +kernel
theorem dX6_firstSeen_5 : decode cX6_firstSeen 5 = .ok (.istore_n 3, 1) := by decide +kernel
theorem dX6_firstSeen_6 : decode cX6_firstSeen 6 = .ok (.iload_n 2, 1) := by decide +kernel
theorem dX6_firstSeen_7 : decode cX6_firstSeen 7 = .ok (.istore 4, 2) := by decide +kernel
theorem dX6_firstSeen_9 : decode cX6_firstSeen 9 = .ok (.iload 4, 2) := by decide +kernel
theorem dX6_firstSeen_11 : decode cX6_firstSeen 11 = .ok (.iload_n 3, 1) := by decide +kernel
theorem dX6_firstSeen_12 : decode cX6_firstSeen 12 = .ok (.if_icmp .ge 23, 3) := by decide +kernel
theorem dX6_firstSeen_15 : decode cX6_firstSeen 15 = .ok (.aload_n 0, 1) := by decide +kernel
theorem dX6_firstSeen_16 : decode cX6_firstSeen 16 = .ok (.iload_n 1, 1) := by decide +kernel
theorem dX6_firstSeen_17 : decode cX6_firstSeen 17 = .ok (.iload 4, 2) := by decide +kernel
theorem dX6_firstSeen_19 : decode cX6_firstSeen 19 = .ok (.iload_n 3, 1) := by decide +kernel
theorem dX6_firstSeen_20 : decode cX6_firstSeen 20 = .ok (.invokevirtual 80, 3) := by decide +kernel
theorem dX6_firstSeen_23 : decode cX6_firstSeen 23 = .ok (.ifCond .eq 6, 3) := by decide +kernel
theorem dX6_firstSeen_26 : decode cX6_firstSeen 26 = .ok (.iload 4, 2) := by decide +kernel
theorem dX6_firstSeen_28 : decode cX6_firstSeen 28 = .ok (.ireturn, 1) := by decide +kernel
theorem dX6_firstSeen_29 : decode cX6_firstSeen 29 = .ok (.iinc 4 1, 3) := by decide +kernel
theorem dX6_firstSeen_32 : decode cX6_firstSeen 32 = .ok (.goto (-23), 3) := by decide +kernel
theorem dX6_firstSeen_35 : decode cX6_firstSeen 35 = .ok (.iconst (-1), 1) := by decide +kernel
theorem dX6_firstSeen_36 : decode cX6_firstSeen 36 = .ok (.ireturn, 1) := by decide +kernel
theorem dX6_isRecent_0 : decode cX6_isRecent 0 = .ok (.aload_n 0, 1) := by decide +kernel
theorem dX6_isRecent_1 : decode cX6_isRecent 1 = .ok (.iload_n 2, 1) := by decide +kernel
theorem dX6_isRecent_2 : decode cX6_isRecent 2 = .ok (.iload_n 3, 1) := by decide +kernel
theorem dX6_isRecent_3 : decode cX6_isRecent 3 = .ok (.iconst 0, 1) := by decide +kernel
theorem dX6_isRecent_4 : decode cX6_isRecent 4 = .ok (.invokevirtual 73, 3) := by decide +kernel
theorem dX6_isRecent_7 : decode cX6_isRecent 7 = .ok (.ifCond .ne 34, 3) := by decide +kernel
theorem dX6_isRecent_10 : decode cX6_isRecent 10 = .ok (.aload_n 0, 1) := by decide +kernel
theorem dX6_isRecent_11 : decode cX6_isRecent 11 = .ok (.iload_n 2, 1) := by decide +kernel
theorem dX6_isRecent_12 : decode cX6_isRecent 12 = .ok (.iload_n 3, 1) := by decide +kernel
theorem dX6_isRecent_13 : decode cX6_isRecent 13 = .ok (.iconst 1, 1) := by decide +kernel
theorem dX6_isRecent_14 : decode cX6_isRecent 14 = .ok (.invokevirtual 73, 3) := by decide +kernel
theorem dX6_isRecent_17 : decode cX6_isRecent 17 = .ok (.iload_n 1, 1) := by decide +kernel
theorem dX6_isRecent_18 : decode cX6_isRecent 18 = .ok (.if_icmp .ne 23, 3) := by decide +kernel
theorem dX6_isRecent_21 : decode cX6_isRecent 21 = .ok (.aload_n 0, 1) := by decide +kernel
theorem dX6_isRecent_22 : decode cX6_isRecent 22 = .ok (.iload_n 2, 1) := by decide +kernel
theorem dX6_isRecent_23 : decode cX6_isRecent 23 = .ok (.iload_n 3, 1) := by decide +kernel
theorem dX6_isRecent_24 : decode cX6_isRecent 24 = .ok (.iconst 2, 1) := by decide +kernel
theorem dX6_isRecent_25 : decode cX6_isRecent 25 = .ok (.invokevirtual 73, 3) := by decide +kernel
theorem dX6_isRecent_28 : decode cX6_isRecent 28 = .ok (.aload_n 0, 1) := by decide +kernel
theorem dX6_isRecent_29 : decode cX6_isRecent 29 = .ok (.iload_n 1, 1) := by decide +kernel
theorem dX6_isRecent_30 : decode cX6_isRecent 30 = .ok (.iconst 0, 1) := by decide +kernel
theorem dX6_isRecent_31 : decode cX6_isRecent 31 = .ok (.invokevirtual 56, 3) := by decide +kernel
theorem dX6_isRecent_34 : decode cX6_isRecent 34 = .ok (.if_icmp .ne 7, 3) := by decide +kernel
theorem dX6_isRecent_37 : decode cX6_isRecent 37 = .ok (.iconst 1, 1) := by decide +kernel
theorem dX6_isRecent_38 : decode cX6_isRecent 38 = .ok (.goto 4, 3) := by decide +kernel
theorem dX6_isRecent_41 : decode cX6_isRecent 41 = .ok (.iconst 0, 1) := by decide +kernel
theorem dX6_isRecent_42 : decode cX6_isRecent 42 = .ok (.ireturn, 1) := by decide +kernel
theorem dX6_twinOf_0 : decode cX6_twinOf 0 = .ok (.iconst 0, 1) := by decide +kernel
theorem dX6_twinOf_1 : decode cX6_twinOf 1 = .ok (.istore 4, 2) := by decide +kernel
theorem dX6_twinOf_3 : decode cX6_twinOf 3 = .ok (.aload_n 0, 1) := by decide +kernel
theorem dX6_twinOf_4 : decode cX6_twinOf 4 = .ok (.iload_n 2, 1) := by decide +kernel
theorem dX6_twinOf_5 : decode cX6_twinOf 5 = .ok (.invokevirtual 70, 3) := by decide +kernel
theorem dX6_twinOf_8 : decode cX6_twinOf 8 = .ok (.iconst 1, 1) := by decide +kernel
theorem dX6_twinOf_9 : decode cX6_twinOf 9 = .ok (.isub, 1) := by decide +kernel
theorem dX6_twinOf_10 : decode cX6_twinOf 10 = .ok (.istore 5, 2) := by decide +kernel
theorem dX6_twinOf_12 : decode cX6_twinOf 12 = .ok (.iload 5, 2) := by decide +kernel
theorem dX6_twinOf_14 : decode cX6_twinOf 14 = .ok (.ifCond .lt 44, 3) := by decide +kernel
theorem dX6_twinOf_17 : decode cX6_twinOf 17 = .ok (.iload 4, 2) := by decide +kernel
theorem dX6_twinOf_19 : decode cX6_twinOf 19 = .ok (.iconst 3, 1) := by decide +kernel
theorem dX6_twinOf_20 : decode cX6_twinOf 20 = .ok (.if_icmp .ge 38, 3) := by decide +kernel
theorem dX6_twinOf_23 : decode cX6_twinOf 23 = .ok (.aload_n 0, 1) := by decide +kernel
theorem dX6_twinOf_24 : decode cX6_twinOf 24 = .ok (.iload_n 1, 1) := by decide +kernel
theorem dX6_twinOf_25 : decode cX6_twinOf 25 = .ok (.iload_n 2, 1) := by decide +kernel
theorem dX6_twinOf_26 : decode cX6_twinOf 26 = .ok (.iload 5, 2) := by decide +kernel
theorem dX6_twinOf_28 : decode cX6_twinOf 28 = .ok (.invokevirtual 83, 3) := by decide +kernel
theorem dX6_twinOf_31 : decode cX6_twinOf 31 = .ok (.ifCond .eq 21, 3) := by decide +kernel
theorem dX6_twinOf_34 : decode cX6_twinOf 34 = .ok (.iinc 4 1, 3) := by decide +kernel
theorem dX6_twinOf_37 : decode cX6_twinOf 37 = .ok (.aload_n 0, 1) := by decide +kernel
theorem dX6_twinOf_38 : decode cX6_twinOf 38 = .ok (.iload_n 2, 1) := by decide +kernel
theorem dX6_twinOf_39 : decode cX6_twinOf 39 = .ok (.iload 5, 2) := by decide +kernel
theorem dX6_twinOf_41 : decode cX6_twinOf 41 = .ok (.iconst 3, 1) := by decide +kernel
theorem dX6_twinOf_42 : decode cX6_twinOf 42 = .ok (.invokevirtual 73, 3) := by decide +kernel
theorem dX6_twinOf_45 : decode cX6_twinOf 45 = .ok (.iload_n 3, 1) := by decide +kernel
theorem dX6_twinOf_46 : decode cX6_twinOf 46 = .ok (.if_icmp .ne 6, 3) := by decide +kernel
theorem dX6_twinOf_49 : decode cX6_twinOf 49 = .ok (.iload 5, 2) := by decide +kernel
theorem dX6_twinOf_51 : decode cX6_twinOf 51 = .ok (.ireturn, 1) := by decide +kernel
theorem dX6_twinOf_52 : decode cX6_twinOf 52 = .ok (.iinc 5 (-1), 3) := by decide +kernel
theorem dX6_twinOf_55 : decode cX6_twinOf 55 = .ok (.goto (-43), 3) := by decide +kernel
theorem dX6_twinOf_58 : decode cX6_twinOf 58 = .ok (.iconst (-1), 1) := by decide +kernel
theorem dX6_twinOf_59 : decode cX6_twinOf 59 = .ok (.ireturn, 1) := by decide +kernel
theorem dX6_dueOf_0 : decode cX6_dueOf 0 = .ok (.aload_n 0, 1) := by decide +kernel
theorem dX6_dueOf_1 : decode cX6_dueOf 1 = .ok (.iload_n 2, 1) := by decide +kernel
theorem dX6_dueOf_2 : decode cX6_dueOf 2 = .ok (.invokevirtual 70, 3) := by decide +kernel
theorem dX6_dueOf_5 : decode cX6_dueOf 5 = .ok (.iconst 1, 1) := by decide +kernel
theorem dX6_dueOf_6 : decode cX6_dueOf 6 = .ok (.isub, 1) := by decide +kernel
theorem dX6_dueOf_7 : decode cX6_dueOf 7 = .ok (.istore_n 3, 1) := by decide +kernel
theorem dX6_dueOf_8 : decode cX6_dueOf 8 = .ok (.iload_n 3, 1) := by decide +kernel
theorem dX6_dueOf_9 : decode cX6_dueOf 9 = .ok (.ifCond .lt 29, 3) := by decide +kernel
theorem dX6_dueOf_12 : decode cX6_dueOf 12 = .ok (.aload_n 0, 1) := by decide +kernel
theorem dX6_dueOf_13 : decode cX6_dueOf 13 = .ok (.iload_n 1, 1) := by decide +kernel
theorem dX6_dueOf_14 : decode cX6_dueOf 14 = .ok (.iload_n 2, 1) := by decide +kernel
theorem dX6_dueOf_15 : decode cX6_dueOf 15 = .ok (.iload_n 3, 1) := by decide +kernel
theorem dX6_dueOf_16 : decode cX6_dueOf 16 = .ok (.invokevirtual 83, 3) := by decide +kernel
theorem dX6_dueOf_19 : decode cX6_dueOf 19 = .ok (.ifCond .eq 13, 3) := by decide +kernel
theorem dX6_dueOf_22 : decode cX6_dueOf 22 = .ok (.aload_n 0, 1) := by decide +kernel
theorem dX6_dueOf_23 : decode cX6_dueOf 23 = .ok (.iload_n 2, 1) := by decide +kernel
theorem dX6_dueOf_24 : decode cX6_dueOf 24 = .ok (.iload_n 3, 1) := by decide +kernel
theorem dX6_dueOf_25 : decode cX6_dueOf 25 = .ok (.iconst 3, 1) := by decide +kernel
theorem dX6_dueOf_26 : decode cX6_dueOf 26 = .ok (.invokevirtual 73, 3) := by decide +kernel
theorem dX6_dueOf_29 : decode cX6_dueOf 29 = .ok (.iconst 1, 1) := by decide +kernel
theorem dX6_dueOf_30 : decode cX6_dueOf 30 = .ok (.iadd, 1) := by decide +kernel
theorem dX6_dueOf_31 : decode cX6_dueOf 31 = .ok (.ireturn, 1) := by decide +kernel
theorem dX6_dueOf_32 : decode cX6_dueOf 32 = .ok (.iinc 3 (-1), 3) := by decide +kernel
theorem dX6_dueOf_35 : decode cX6_dueOf 35 = .ok (.goto (-27), 3) := by decide +kernel
theorem dX6_dueOf_38 : decode cX6_dueOf 38 = .ok (.iconst 0, 1) := by decide +kernel
theorem dX6_dueOf_39 : decode cX6_dueOf 39 = .ok (.ireturn, 1) := by decide +kernel
theorem dX6_isOver_0 : decode cX6_isOver 0 = .ok (.iconst 0, 1) := by decide +kernel
theorem dX6_isOver_1 : decode cX6_isOver 1 = .ok (.istore_n 2, 1) := by decide +kernel
theorem dX6_isOver_2 : decode cX6_isOver 2 = .ok (.iload_n 2, 1) := by decide +kernel
theorem dX6_isOver_3 : decode cX6_isOver 3 = .ok (.iconst 2, 1) := by decide +kernel
theorem dX6_isOver_4 : decode cX6_isOver 4 = .ok (.if_icmp .ge 70, 3) := by decide +kernel
theorem dX6_isOver_7 : decode cX6_isOver 7 = .ok (.iconst 0, 1) := by decide +kernel
theorem dX6_isOver_8 : decode cX6_isOver 8 = .ok (.istore_n 3, 1) := by decide +kernel
theorem dX6_isOver_9 : decode cX6_isOver 9 = .ok (.iload_n 3, 1) := by decide +kernel
theorem dX6_isOver_10 : decode cX6_isOver 10 = .ok (.iconst 3, 1) := by decide +kernel
theorem dX6_isOver_11 : decode cX6_isOver 11 = .ok (.if_icmp .ge 57, 3) := by decide +kernel
theorem dX6_isOver_14 : decode cX6_isOver 14 = .ok (.aload_n 0, 1) := by decide +kernel
theorem dX6_isOver_15 : decode cX6_isOver 15 = .ok (.iload_n 1, 1) := by decide +kernel
theorem dX6_isOver_16 : decode cX6_isOver 16 = .ok (.bipush 10, 2) := by decide +kernel
theorem dX6_isOver_18 : decode cX6_isOver 18 = .ok (.iconst 3, 1) := by decide +kernel
theorem dX6_isOver_19 : decode cX6_isOver 19 = .ok (.iload_n 2, 1) := by decide +kernel
theorem dX6_isOver_20 : decode cX6_isOver 20 = .ok (.imul, 1) := by decide +kernel
theorem dX6_isOver_21 : decode cX6_isOver 21 = .ok (.iadd, 1) := by decide +kernel
theorem dX6_isOver_22 : decode cX6_isOver 22 = .ok (.iload_n 3, 1) := by decide +kernel
theorem dX6_isOver_23 : decode cX6_isOver 23 = .ok (.iadd, 1) := by decide +kernel
theorem dX6_isOver_24 : decode cX6_isOver 24 = .ok (.invokevirtual 56, 3) := by decide +kernel
theorem dX6_isOver_27 : decode cX6_isOver 27 = .ok (.istore 4, 2) := by decide +kernel
theorem dX6_isOver_29 : decode cX6_isOver 29 = .ok (.aload_n 0, 1) := by decide +kernel
theorem dX6_isOver_30 : decode cX6_isOver 30 = .ok (.iload_n 1, 1) := by decide +kernel
theorem dX6_isOver_31 : decode cX6_isOver 31 = .ok (.iconst 4, 1) := by decide +kernel
theorem dX6_isOver_32 : decode cX6_isOver 32 = .ok (.invokevirtual 56, 3) := by decide +kernel
theorem dX6_isOver_35 : decode cX6_isOver 35 = .ok (.iconst 1, 1) := by decide +kernel
theorem dX6_isOver_36 : decode cX6_isOver 36 = .ok (.if_icmp .ne 26, 3) := by decide +kernel
theorem dX6_isOver_39 : decode cX6_isOver 39 = .ok (.iload 4, 2) := by decide +kernel
theorem dX6_isOver_41 : decode cX6_isOver 41 = .ok (.ifCond .lt 21, 3) := by decide +kernel
theorem dX6_isOver_44 : decode cX6_isOver 44 = .ok (.aload_n 0, 1) := by decide +kernel
theorem dX6_isOver_45 : decode cX6_isOver 45 = .ok (.getfield 7, 3) := by decide +kernel
theorem dX6_isOver_48 : decode cX6_isOver 48 = .ok (.bipush 69, 2) := by decide +kernel
theorem dX6_isOver_50 : decode cX6_isOver 50 = .ok (.bipush 6, 2) := by decide +kernel
theorem dX6_isOver_52 : decode cX6_isOver 52 = .ok (.iload_n 2, 1) := by decide +kernel
theorem dX6_isOver_53 : decode cX6_isOver 53 = .ok (.imul, 1) := by decide +kernel
theorem dX6_isOver_54 : decode cX6_isOver 54 = .ok (.iadd, 1) := by decide +kernel
theorem dX6_isOver_55 : decode cX6_isOver 55 = .ok (.iconst 3, 1) := by decide +kernel
theorem dX6_isOver_56 : decode cX6_isOver 56 = .ok (.iadd, 1) := by decide +kernel
theorem dX6_isOver_57 : decode cX6_isOver 57 = .ok (.iload_n 3, 1) := by decide +kernel
theorem dX6_isOver_58 : decode cX6_isOver 58 = .ok (.iadd, 1) := by decide +kernel
theorem dX6_isOver_59 : decode cX6_isOver 59 = .ok (.iload 4, 2) := by decide +kernel
theorem dX6_isOver_61 : decode cX6_isOver 61 = .ok (.iastore, 1) := by decide +kernel
theorem dX6_isOver_62 : decode cX6_isOver 62 = .ok (.iinc 3 1, 3) := by decide +kernel
theorem dX6_isOver_65 : decode cX6_isOver 65 = .ok (.goto (-56), 3) := by decide +kernel
theorem dX6_isOver_68 : decode cX6_isOver 68 = .ok (.iinc 2 1, 3) := by decide +kernel
theorem dX6_isOver_71 : decode cX6_isOver 71 = .ok (.goto (-69), 3) := by decide +kernel
theorem dX6_isOver_74 : decode cX6_isOver 74 = .ok (.aload_n 0, 1) := by decide +kernel
theorem dX6_isOver_75 : decode cX6_isOver 75 = .ok (.iload_n 1, 1) := by decide +kernel
theorem dX6_isOver_76 : decode cX6_isOver 76 = .ok (.iconst 1, 1) := by decide +kernel
theorem dX6_isOver_77 : decode cX6_isOver 77 = .ok (.iconst 0, 1) := by decide +kernel
theorem dX6_isOver_78 : decode cX6_isOver 78 = .ok (.invokevirtual 28, 3) := by decide +kernel
theorem dX6_isOver_81 : decode cX6_isOver 81 = .ok (.aload_n 0, 1) := by decide +kernel
theorem dX6_isOver_82 : decode cX6_isOver 82 = .ok (.iload_n 1, 1) := by decide +kernel
theorem dX6_isOver_83 : decode cX6_isOver 83 = .ok (.iconst 2, 1) := by decide +kernel
theorem dX6_isOver_84 : decode cX6_isOver 84 = .ok (.iconst 0, 1) := by decide +kernel
theorem dX6_isOver_85 : decode cX6_isOver 85 = .ok (.invokevirtual 28, 3) := by decide +kernel
theorem dX6_isOver_88 : decode cX6_isOver 88 = .ok (.aload_n 0, 1) := by decide +kernel
theorem dX6_isOver_89 : decode cX6_isOver 89 = .ok (.iload_n 1, 1) := by decide +kernel
theorem dX6_isOver_90 : decode cX6_isOver 90 = .ok (.iconst 3, 1) := by decide +kernel
theorem dX6_isOver_91 : decode cX6_isOver 91 = .ok (.iconst 0, 1) := by decide +kernel
theorem dX6_isOver_92 : decode cX6_isOver 92 = .ok (.invokevirtual 28, 3) := by decide +kernel
theorem dX6_isOver_95 : decode cX6_isOver 95 = .ok (.aload_n 0, 1) := by decide +kernel
theorem dX6_isOver_96 : decode cX6_isOver 96 = .ok (.iload_n 1, 1) := by decide +kernel
theorem dX6_isOver_97 : decode cX6_isOver 97 = .ok (.iconst 4, 1) := by decide +kernel
theorem dX6_isOver_98 : decode cX6_isOver 98 = .ok (.iconst 0, 1) := by decide +kernel
theorem dX6_isOver_99 : decode cX6_isOver 99 = .ok (.invokevirtual 28, 3) := by decide +kernel
theorem dX6_isOver_102 : decode cX6_isOver 102 = .ok (.return_, 1) := by decide +kernel
theorem dX6_endDeed_0 : decode cX6_endDeed 0 = .ok (.aload_n 0, 1) := by decide +kernel
theorem dX6_endDeed_1 : decode cX6_endDeed 1 = .ok (.iload_n 1, 1) := by decide +kernel
theorem dX6_endDeed_2 : decode cX6_endDeed 2 = .ok (.iconst 4, 1) := by decide +kernel
theorem dX6_endDeed_3 : decode cX6_endDeed 3 = .ok (.iload_n 2, 1) := by decide +kernel
theorem dX6_endDeed_4 : decode cX6_endDeed 4 = .ok (.invokevirtual 28, 3) := by decide +kernel
theorem dX6_endDeed_7 : decode cX6_endDeed 7 = .ok (.aload_n 0, 1) := by decide +kernel
theorem dX6_endDeed_8 : decode cX6_endDeed 8 = .ok (.iload_n 1, 1) := by decide +kernel
theorem dX6_endDeed_9 : decode cX6_endDeed 9 = .ok (.iconst 3, 1) := by decide +kernel
theorem dX6_endDeed_10 : decode cX6_endDeed 10 = .ok (.iconst 0, 1) := by decide +kernel
theorem dX6_endDeed_11 : decode cX6_endDeed 11 = .ok (.invokevirtual 28, 3) := by decide +kernel
theorem dX6_endDeed_14 : decode cX6_endDeed 14 = .ok (.aload_n 0, 1) := by decide +kernel
theorem dX6_endDeed_15 : decode cX6_endDeed 15 = .ok (.iload_n 1, 1) := by decide +kernel
theorem dX6_endDeed_16 : decode cX6_endDeed 16 = .ok (.bipush 6, 2) := by decide +kernel
theorem dX6_endDeed_18 : decode cX6_endDeed 18 = .ok (.aload_n 0, 1) := by decide +kernel
theorem dX6_endDeed_19 : decode cX6_endDeed 19 = .ok (.getfield 7, 3) := by decide +kernel
theorem dX6_endDeed_22 : decode cX6_endDeed 22 = .ok (.iconst 0, 1) := by decide +kernel
theorem dX6_endDeed_23 : decode cX6_endDeed 23 = .ok (.iaload, 1) := by decide +kernel
theorem dX6_endDeed_24 : decode cX6_endDeed 24 = .ok (.invokevirtual 28, 3) := by decide +kernel
theorem dX6_endDeed_27 : decode cX6_endDeed 27 = .ok (.aload_n 0, 1) := by decide +kernel
theorem dX6_endDeed_28 : decode cX6_endDeed 28 = .ok (.iload_n 1, 1) := by decide +kernel
theorem dX6_endDeed_29 : decode cX6_endDeed 29 = .ok (.iconst 1, 1) := by decide +kernel
theorem dX6_endDeed_30 : decode cX6_endDeed 30 = .ok (.iconst 2, 1) := by decide +kernel
theorem dX6_endDeed_31 : decode cX6_endDeed 31 = .ok (.invokevirtual 28, 3) := by decide +kernel
theorem dX6_endDeed_34 : decode cX6_endDeed 34 = .ok (.aload_n 0, 1) := by decide +kernel
theorem dX6_endDeed_35 : decode cX6_endDeed 35 = .ok (.iload_n 1, 1) := by decide +kernel
theorem dX6_endDeed_36 : decode cX6_endDeed 36 = .ok (.iconst 2, 1) := by decide +kernel
theorem dX6_endDeed_37 : decode cX6_endDeed 37 = .ok (.invokevirtual 56, 3) := by decide +kernel
theorem dX6_endDeed_40 : decode cX6_endDeed 40 = .ok (.ifCond .ne 8, 3) := by decide +kernel
theorem dX6_endDeed_43 : decode cX6_endDeed 43 = .ok (.aload_n 0, 1) := by decide +kernel
theorem dX6_endDeed_44 : decode cX6_endDeed 44 = .ok (.iload_n 1, 1) := by decide +kernel
theorem dX6_endDeed_45 : decode cX6_endDeed 45 = .ok (.invokevirtual 86, 3) := by decide +kernel
theorem dX6_endDeed_48 : decode cX6_endDeed 48 = .ok (.return_, 1) := by decide +kernel
theorem dX6_rank_0 : decode cX6_rank 0 = .ok (.iconst 0, 1) := by decide +kernel
theorem dX6_rank_1 : decode cX6_rank 1 = .ok (.istore_n 3, 1) := by decide +kernel
theorem dX6_rank_2 : decode cX6_rank 2 = .ok (.iconst 0, 1) := by decide +kernel
theorem dX6_rank_3 : decode cX6_rank 3 = .ok (.istore 4, 2) := by decide +kernel
theorem dX6_rank_5 : decode cX6_rank 5 = .ok (.iload 4, 2) := by decide +kernel
theorem dX6_rank_7 : decode cX6_rank 7 = .ok (.iload_n 2, 1) := by decide +kernel
theorem dX6_rank_8 : decode cX6_rank 8 = .ok (.if_icmp .gt 23, 3) := by decide +kernel
theorem dX6_rank_11 : decode cX6_rank 11 = .ok (.iload_n 3, 1) := by decide +kernel
theorem dX6_rank_12 : decode cX6_rank 12 = .ok (.aload_n 0, 1) := by decide +kernel
theorem dX6_rank_13 : decode cX6_rank 13 = .ok (.iload_n 1, 1) := by decide +kernel
theorem dX6_rank_14 : decode cX6_rank 14 = .ok (.iconst 2, 1) := by decide +kernel
theorem dX6_rank_15 : decode cX6_rank 15 = .ok (.invokevirtual 56, 3) := by decide +kernel
theorem dX6_rank_18 : decode cX6_rank 18 = .ok (.iload 4, 2) := by decide +kernel
theorem dX6_rank_20 : decode cX6_rank 20 = .ok (.ishr, 1) := by decide +kernel
theorem dX6_rank_21 : decode cX6_rank 21 = .ok (.iconst 1, 1) := by decide +kernel
theorem dX6_rank_22 : decode cX6_rank 22 = .ok (.iand, 1) := by decide +kernel
theorem dX6_rank_23 : decode cX6_rank 23 = .ok (.iadd, 1) := by decide +kernel
theorem dX6_rank_24 : decode cX6_rank 24 = .ok (.istore_n 3, 1) := by decide +kernel
theorem dX6_rank_25 : decode cX6_rank 25 = .ok (.iinc 4 1, 3) := by decide +kernel
theorem dX6_rank_28 : decode cX6_rank 28 = .ok (.goto (-23), 3) := by decide +kernel
theorem dX6_rank_31 : decode cX6_rank 31 = .ok (.iload_n 3, 1) := by decide +kernel
theorem dX6_rank_32 : decode cX6_rank 32 = .ok (.ireturn, 1) := by decide +kernel
theorem dX6_isDue_0 : decode cX6_isDue 0 = .ok (.aload_n 0, 1) := by decide +kernel
theorem dX6_isDue_1 : decode cX6_isDue 1 = .ok (.iload_n 1, 1) := by decide +kernel
theorem dX6_isDue_2 : decode cX6_isDue 2 = .ok (.iconst 1, 1) := by decide +kernel
theorem dX6_isDue_3 : decode cX6_isDue 3 = .ok (.invokevirtual 56, 3) := by decide +kernel
theorem dX6_isDue_6 : decode cX6_isDue 6 = .ok (.iconst 2, 1) := by decide +kernel
theorem dX6_isDue_7 : decode cX6_isDue 7 = .ok (.if_icmp .ne 39, 3) := by decide +kernel
theorem dX6_isDue_10 : decode cX6_isDue 10 = .ok (.aload_n 0, 1) := by decide +kernel
theorem dX6_isDue_11 : decode cX6_isDue 11 = .ok (.iload_n 1, 1) := by decide +kernel
theorem dX6_isDue_12 : decode cX6_isDue 12 = .ok (.iload_n 2, 1) := by decide +kernel
theorem dX6_isDue_13 : decode cX6_isDue 13 = .ok (.invokevirtual 63, 3) := by decide +kernel
theorem dX6_isDue_16 : decode cX6_isDue 16 = .ok (.ifCond .eq 30, 3) := by decide +kernel
theorem dX6_isDue_19 : decode cX6_isDue 19 = .ok (.aload_n 0, 1) := by decide +kernel
theorem dX6_isDue_20 : decode cX6_isDue 20 = .ok (.iload_n 1, 1) := by decide +kernel
theorem dX6_isDue_21 : decode cX6_isDue 21 = .ok (.bipush 6, 2) := by decide +kernel
theorem dX6_isDue_23 : decode cX6_isDue 23 = .ok (.invokevirtual 56, 3) := by decide +kernel
theorem dX6_isDue_26 : decode cX6_isDue 26 = .ok (.aload_n 0, 1) := by decide +kernel
theorem dX6_isDue_27 : decode cX6_isDue 27 = .ok (.iload_n 1, 1) := by decide +kernel
theorem dX6_isDue_28 : decode cX6_isDue 28 = .ok (.iload_n 2, 1) := by decide +kernel
theorem dX6_isDue_29 : decode cX6_isDue 29 = .ok (.invokevirtual 90, 3) := by decide +kernel
theorem dX6_isDue_32 : decode cX6_isDue 32 = .ok (.iadd, 1) := by decide +kernel
theorem dX6_isDue_33 : decode cX6_isDue 33 = .ok (.aload_n 0, 1) := by decide +kernel
theorem dX6_isDue_34 : decode cX6_isDue 34 = .ok (.getfield 7, 3) := by decide +kernel
theorem dX6_isDue_37 : decode cX6_isDue 37 = .ok (.iconst 0, 1) := by decide +kernel
theorem dX6_isDue_38 : decode cX6_isDue 38 = .ok (.iaload, 1) := by decide +kernel
theorem dX6_isDue_39 : decode cX6_isDue 39 = .ok (.if_icmp .ne 7, 3) := by decide +kernel
theorem dX6_isDue_42 : decode cX6_isDue 42 = .ok (.iconst 1, 1) := by decide +kernel
theorem dX6_isDue_43 : decode cX6_isDue 43 = .ok (.goto 4, 3) := by decide +kernel
theorem dX6_isDue_46 : decode cX6_isDue 46 = .ok (.iconst 0, 1) := by decide +kernel
theorem dX6_isDue_47 : decode cX6_isDue 47 = .ok (.ireturn, 1) := by decide +kernel
theorem dX6_writeMark_0 : decode cX6_writeMark 0 = .ok (.aload_n 0, 1) := by decide +kernel
theorem dX6_writeMark_1 : decode cX6_writeMark 1 = .ok (.iload_n 2, 1) := by decide +kernel
theorem dX6_writeMark_2 : decode cX6_writeMark 2 = .ok (.invokevirtual 70, 3) := by decide +kernel
theorem dX6_writeMark_5 : decode cX6_writeMark 5 = .ok (.istore_n 3, 1) := by decide +kernel
theorem dX6_writeMark_6 : decode cX6_writeMark 6 = .ok (.aload_n 0, 1) := by decide +kernel
theorem dX6_writeMark_7 : decode cX6_writeMark 7 = .ok (.iload_n 1, 1) := by decide +kernel
theorem dX6_writeMark_8 : decode cX6_writeMark 8 = .ok (.iconst 4, 1) := by decide +kernel
theorem dX6_writeMark_9 : decode cX6_writeMark 9 = .ok (.invokevirtual 56, 3) := by decide +kernel
theorem dX6_writeMark_12 : decode cX6_writeMark 12 = .ok (.istore 4, 2) := by decide +kernel
theorem dX6_writeMark_14 : decode cX6_writeMark 14 = .ok (.aload_n 0, 1) := by decide +kernel
theorem dX6_writeMark_15 : decode cX6_writeMark 15 = .ok (.iload_n 2, 1) := by decide +kernel
theorem dX6_writeMark_16 : decode cX6_writeMark 16 = .ok (.iload_n 3, 1) := by decide +kernel
theorem dX6_writeMark_17 : decode cX6_writeMark 17 = .ok (.iconst 0, 1) := by decide +kernel
theorem dX6_writeMark_18 : decode cX6_writeMark 18 = .ok (.iconst 1, 1) := by decide +kernel
theorem dX6_writeMark_19 : decode cX6_writeMark 19 = .ok (.invokevirtual 93, 3) := by decide +kernel
theorem dX6_writeMark_22 : decode cX6_writeMark 22 = .ok (.aload_n 0, 1) := by decide +kernel
theorem dX6_writeMark_23 : decode cX6_writeMark 23 = .ok (.iload_n 2, 1) := by decide +kernel
theorem dX6_writeMark_24 : decode cX6_writeMark 24 = .ok (.iload_n 3, 1) := by decide +kernel
theorem dX6_writeMark_25 : decode cX6_writeMark 25 = .ok (.iconst 1, 1) := by decide +kernel
theorem dX6_writeMark_26 : decode cX6_writeMark 26 = .ok (.iload_n 1, 1) := by decide +kernel
theorem dX6_writeMark_27 : decode cX6_writeMark 27 = .ok (.invokevirtual 93, 3) := by decide +kernel
theorem dX6_writeMark_30 : decode cX6_writeMark 30 = .ok (.aload_n 0, 1) := by decide +kernel
theorem dX6_writeMark_31 : decode cX6_writeMark 31 = .ok (.iload_n 2, 1) := by decide +kernel
theorem dX6_writeMark_32 : decode cX6_writeMark 32 = .ok (.iload_n 3, 1) := by decide +kernel
theorem dX6_writeMark_33 : decode cX6_writeMark 33 = .ok (.iconst 2, 1) := by decide +kernel
theorem dX6_writeMark_34 : decode cX6_writeMark 34 = .ok (.aload_n 0, 1) := by decide +kernel
theorem dX6_writeMark_35 : decode cX6_writeMark 35 = .ok (.iload_n 1, 1) := by decide +kernel
theorem dX6_writeMark_36 : decode cX6_writeMark 36 = .ok (.iconst 0, 1) := by decide +kernel
theorem dX6_writeMark_37 : decode cX6_writeMark 37 = .ok (.invokevirtual 56, 3) := by decide +kernel
theorem dX6_writeMark_40 : decode cX6_writeMark 40 = .ok (.invokevirtual 93, 3) := by decide +kernel
theorem dX6_writeMark_43 : decode cX6_writeMark 43 = .ok (.aload_n 0, 1) := by decide +kernel
theorem dX6_writeMark_44 : decode cX6_writeMark 44 = .ok (.iload_n 2, 1) := by decide +kernel
theorem dX6_writeMark_45 : decode cX6_writeMark 45 = .ok (.iload_n 3, 1) := by decide +kernel
theorem dX6_writeMark_46 : decode cX6_writeMark 46 = .ok (.iconst 3, 1) := by decide +kernel
theorem dX6_writeMark_47 : decode cX6_writeMark 47 = .ok (.iconst (-1), 1) := by decide +kernel
theorem dX6_writeMark_48 : decode cX6_writeMark 48 = .ok (.invokevirtual 93, 3) := by decide +kernel
theorem dX6_writeMark_51 : decode cX6_writeMark 51 = .ok (.aload_n 0, 1) := by decide +kernel
theorem dX6_writeMark_52 : decode cX6_writeMark 52 = .ok (.iload_n 2, 1) := by decide +kernel
theorem dX6_writeMark_53 : decode cX6_writeMark 53 = .ok (.iload_n 3, 1) := by decide +kernel
theorem dX6_writeMark_54 : decode cX6_writeMark 54 = .ok (.iconst 4, 1) := by decide +kernel
theorem dX6_writeMark_55 : decode cX6_writeMark 55 = .ok (.iload 4, 2) := by decide +kernel
theorem dX6_writeMark_57 : decode cX6_writeMark 57 = .ok (.invokevirtual 93, 3) := by decide +kernel
theorem dX6_writeMark_60 : decode cX6_writeMark 60 = .ok (.aload_n 0, 1) := by decide +kernel
theorem dX6_writeMark_61 : decode cX6_writeMark 61 = .ok (.iload_n 2, 1) := by decide +kernel
theorem dX6_writeMark_62 : decode cX6_writeMark 62 = .ok (.iload_n 3, 1) := by decide +kernel
theorem dX6_writeMark_63 : decode cX6_writeMark 63 = .ok (.iconst 5, 1) := by decide +kernel
theorem dX6_writeMark_64 : decode cX6_writeMark 64 = .ok (.aload_n 0, 1) := by decide +kernel
theorem dX6_writeMark_65 : decode cX6_writeMark 65 = .ok (.iload_n 1, 1) := by decide +kernel
theorem dX6_writeMark_66 : decode cX6_writeMark 66 = .ok (.bipush 7, 2) := by decide +kernel
theorem dX6_writeMark_68 : decode cX6_writeMark 68 = .ok (.iload_n 2, 1) := by decide +kernel
theorem dX6_writeMark_69 : decode cX6_writeMark 69 = .ok (.iadd, 1) := by decide +kernel
theorem dX6_writeMark_70 : decode cX6_writeMark 70 = .ok (.invokevirtual 56, 3) := by decide +kernel
theorem dX6_writeMark_73 : decode cX6_writeMark 73 = .ok (.invokevirtual 93, 3) := by decide +kernel
theorem dX6_writeMark_76 : decode cX6_writeMark 76 = .ok (.iconst 0, 1) := by decide +kernel
theorem dX6_writeMark_77 : decode cX6_writeMark 77 = .ok (.istore 5, 2) := by decide +kernel
theorem dX6_writeMark_79 : decode cX6_writeMark 79 = .ok (.iload 5, 2) := by decide +kernel
theorem dX6_writeMark_81 : decode cX6_writeMark 81 = .ok (.iload_n 3, 1) := by decide +kernel
theorem dX6_writeMark_82 : decode cX6_writeMark 82 = .ok (.if_icmp .ge 63, 3) := by decide +kernel
theorem dX6_writeMark_85 : decode cX6_writeMark 85 = .ok (.aload_n 0, 1) := by decide +kernel
theorem dX6_writeMark_86 : decode cX6_writeMark 86 = .ok (.iload_n 2, 1) := by decide +kernel
theorem dX6_writeMark_87 : decode cX6_writeMark 87 = .ok (.iload 5, 2) := by decide +kernel
theorem dX6_writeMark_89 : decode cX6_writeMark 89 = .ok (.iconst 0, 1) := by decide +kernel
theorem dX6_writeMark_90 : decode cX6_writeMark 90 = .ok (.invokevirtual 73, 3) := by decide +kernel
theorem dX6_writeMark_93 : decode cX6_writeMark 93 = .ok (.ifCond .ne 46, 3) := by decide +kernel
theorem dX6_writeMark_96 : decode cX6_writeMark 96 = .ok (.aload_n 0, 1) := by decide +kernel
theorem dX6_writeMark_97 : decode cX6_writeMark 97 = .ok (.iload_n 2, 1) := by decide +kernel
theorem dX6_writeMark_98 : decode cX6_writeMark 98 = .ok (.iload 5, 2) := by decide +kernel
theorem dX6_writeMark_100 : decode cX6_writeMark 100 = .ok (.iconst 1, 1) := by decide +kernel
theorem dX6_writeMark_101 : decode cX6_writeMark 101 = .ok (.invokevirtual 73, 3) := by decide +kernel
theorem dX6_writeMark_104 : decode cX6_writeMark 104 = .ok (.iload_n 1, 1) := by decide +kernel
theorem dX6_writeMark_105 : decode cX6_writeMark 105 = .ok (.if_icmp .ne 34, 3) := by decide +kernel
theorem dX6_writeMark_108 : decode cX6_writeMark 108 = .ok (.aload_n 0, 1) := by decide +kernel
theorem dX6_writeMark_109 : decode cX6_writeMark 109 = .ok (.iload_n 2, 1) := by decide +kernel
theorem dX6_writeMark_110 : decode cX6_writeMark 110 = .ok (.iload 5, 2) := by decide +kernel
theorem dX6_writeMark_112 : decode cX6_writeMark 112 = .ok (.iconst 5, 1) := by decide +kernel
theorem dX6_writeMark_113 : decode cX6_writeMark 113 = .ok (.invokevirtual 73, 3) := by decide +kernel
theorem dX6_writeMark_116 : decode cX6_writeMark 116 = .ok (.iconst 1, 1) := by decide +kernel
theorem dX6_writeMark_117 : decode cX6_writeMark 117 = .ok (.if_icmp .ne 22, 3) := by decide +kernel
theorem dX6_writeMark_120 : decode cX6_writeMark 120 = .ok (.aload_n 0, 1) := by decide +kernel
theorem dX6_writeMark_121 : decode cX6_writeMark 121 = .ok (.iload_n 2, 1) := by decide +kernel
theorem dX6_writeMark_122 : decode cX6_writeMark 122 = .ok (.iload 5, 2) := by decide +kernel
theorem dX6_writeMark_124 : decode cX6_writeMark 124 = .ok (.iconst 5, 1) := by decide +kernel
theorem dX6_writeMark_125 : decode cX6_writeMark 125 = .ok (.iload 4, 2) := by decide +kernel
theorem dX6_writeMark_127 : decode cX6_writeMark 127 = .ok (.iconst 1, 1) := by decide +kernel
theorem dX6_writeMark_128 : decode cX6_writeMark 128 = .ok (.if_icmp .ne 7, 3) := by decide +kernel
theorem dX6_writeMark_131 : decode cX6_writeMark 131 = .ok (.iconst 2, 1) := by decide +kernel
theorem dX6_writeMark_132 : decode cX6_writeMark 132 = .ok (.goto 4, 3) := by decide +kernel
theorem dX6_writeMark_135 : decode cX6_writeMark 135 = .ok (.iconst 3, 1) := by decide +kernel
theorem dX6_writeMark_136 : decode cX6_writeMark 136 = .ok (.invokevirtual 93, 3) := by decide +kernel
theorem dX6_writeMark_139 : decode cX6_writeMark 139 = .ok (.iinc 5 1, 3) := by decide +kernel
theorem dX6_writeMark_142 : decode cX6_writeMark 142 = .ok (.goto (-63), 3) := by decide +kernel
theorem dX6_writeMark_145 : decode cX6_writeMark 145 = .ok (.aload_n 0, 1) := by decide +kernel
theorem dX6_writeMark_146 : decode cX6_writeMark 146 = .ok (.getfield 7, 3) := by decide +kernel
theorem dX6_writeMark_149 : decode cX6_writeMark 149 = .ok (.bipush 66, 2) := by decide +kernel
theorem dX6_writeMark_151 : decode cX6_writeMark 151 = .ok (.iload_n 2, 1) := by decide +kernel
theorem dX6_writeMark_152 : decode cX6_writeMark 152 = .ok (.iadd, 1) := by decide +kernel
theorem dX6_writeMark_153 : decode cX6_writeMark 153 = .ok (.dup2, 1) := by decide +kernel
theorem dX6_writeMark_154 : decode cX6_writeMark 154 = .ok (.iaload, 1) := by decide +kernel
theorem dX6_writeMark_155 : decode cX6_writeMark 155 = .ok (.iconst 1, 1) := by decide +kernel
theorem dX6_writeMark_156 : decode cX6_writeMark 156 = .ok (.iadd, 1) := by decide +kernel
theorem dX6_writeMark_157 : decode cX6_writeMark 157 = .ok (.iastore, 1) := by decide +kernel
theorem dX6_writeMark_158 : decode cX6_writeMark 158 = .ok (.aload_n 0, 1) := by decide +kernel
theorem dX6_writeMark_159 : decode cX6_writeMark 159 = .ok (.iload_n 1, 1) := by decide +kernel
theorem dX6_writeMark_160 : decode cX6_writeMark 160 = .ok (.iconst 3, 1) := by decide +kernel
theorem dX6_writeMark_161 : decode cX6_writeMark 161 = .ok (.aload_n 0, 1) := by decide +kernel
theorem dX6_writeMark_162 : decode cX6_writeMark 162 = .ok (.iload_n 1, 1) := by decide +kernel
theorem dX6_writeMark_163 : decode cX6_writeMark 163 = .ok (.iconst 3, 1) := by decide +kernel
theorem dX6_writeMark_164 : decode cX6_writeMark 164 = .ok (.invokevirtual 56, 3) := by decide +kernel
theorem dX6_writeMark_167 : decode cX6_writeMark 167 = .ok (.iconst 1, 1) := by decide +kernel
theorem dX6_writeMark_168 : decode cX6_writeMark 168 = .ok (.iload_n 2, 1) := by decide +kernel
theorem dX6_writeMark_169 : decode cX6_writeMark 169 = .ok (.ishl, 1) := by decide +kernel
theorem dX6_writeMark_170 : decode cX6_writeMark 170 = .ok (.ior, 1) := by decide +kernel
theorem dX6_writeMark_171 : decode cX6_writeMark 171 = .ok (.invokevirtual 28, 3) := by decide +kernel
theorem dX6_writeMark_174 : decode cX6_writeMark 174 = .ok (.aload_n 0, 1) := by decide +kernel
theorem dX6_writeMark_175 : decode cX6_writeMark 175 = .ok (.iload_n 1, 1) := by decide +kernel
theorem dX6_writeMark_176 : decode cX6_writeMark 176 = .ok (.iconst 3, 1) := by decide +kernel
theorem dX6_writeMark_177 : decode cX6_writeMark 177 = .ok (.invokevirtual 56, 3) := by decide +kernel
theorem dX6_writeMark_180 : decode cX6_writeMark 180 = .ok (.aload_n 0, 1) := by decide +kernel
theorem dX6_writeMark_181 : decode cX6_writeMark 181 = .ok (.iload_n 1, 1) := by decide +kernel
theorem dX6_writeMark_182 : decode cX6_writeMark 182 = .ok (.iconst 2, 1) := by decide +kernel
theorem dX6_writeMark_183 : decode cX6_writeMark 183 = .ok (.invokevirtual 56, 3) := by decide +kernel
theorem dX6_writeMark_186 : decode cX6_writeMark 186 = .ok (.if_icmp .ne 8, 3) := by decide +kernel
theorem dX6_writeMark_189 : decode cX6_writeMark 189 = .ok (.aload_n 0, 1) := by decide +kernel
theorem dX6_writeMark_190 : decode cX6_writeMark 190 = .ok (.iload_n 1, 1) := by decide +kernel
theorem dX6_writeMark_191 : decode cX6_writeMark 191 = .ok (.invokevirtual 86, 3) := by decide +kernel
theorem dX6_writeMark_194 : decode cX6_writeMark 194 = .ok (.return_, 1) := by decide +kernel
theorem dX6_tick_0 : decode cX6_tick 0 = .ok (.aload_n 0, 1) := by decide +kernel
theorem dX6_tick_1 : decode cX6_tick 1 = .ok (.getfield 7, 3) := by decide +kernel
theorem dX6_tick_4 : decode cX6_tick 4 = .ok (.iconst 0, 1) := by decide +kernel
theorem dX6_tick_5 : decode cX6_tick 5 = .ok (.dup2, 1) := by decide +kernel
theorem dX6_tick_6 : decode cX6_tick 6 = .ok (.iaload, 1) := by decide +kernel
theorem dX6_tick_7 : decode cX6_tick 7 = .ok (.iconst 1, 1) := by decide +kernel
theorem dX6_tick_8 : decode cX6_tick 8 = .ok (.iadd, 1) := by decide +kernel
theorem dX6_tick_9 : decode cX6_tick 9 = .ok (.iastore, 1) := by decide +kernel
theorem dX6_tick_10 : decode cX6_tick 10 = .ok (.iconst 0, 1) := by decide +kernel
theorem dX6_tick_11 : decode cX6_tick 11 = .ok (.istore_n 1, 1) := by decide +kernel
theorem dX6_tick_12 : decode cX6_tick 12 = .ok (.iconst 0, 1) := by decide +kernel
theorem dX6_tick_13 : decode cX6_tick 13 = .ok (.istore_n 2, 1) := by decide +kernel
theorem dX6_tick_14 : decode cX6_tick 14 = .ok (.iload_n 2, 1) := by decide +kernel
theorem dX6_tick_15 : decode cX6_tick 15 = .ok (.iconst 4, 1) := by decide +kernel
theorem dX6_tick_16 : decode cX6_tick 16 = .ok (.if_icmp .ge 40, 3) := by decide +kernel
theorem dX6_tick_19 : decode cX6_tick 19 = .ok (.iconst 0, 1) := by decide +kernel
theorem dX6_tick_20 : decode cX6_tick 20 = .ok (.istore_n 3, 1) := by decide +kernel
theorem dX6_tick_21 : decode cX6_tick 21 = .ok (.iload_n 3, 1) := by decide +kernel
theorem dX6_tick_22 : decode cX6_tick 22 = .ok (.iconst 3, 1) := by decide +kernel
theorem dX6_tick_23 : decode cX6_tick 23 = .ok (.if_icmp .ge 27, 3) := by decide +kernel
theorem dX6_tick_26 : decode cX6_tick 26 = .ok (.aload_n 0, 1) := by decide +kernel
theorem dX6_tick_27 : decode cX6_tick 27 = .ok (.iload_n 2, 1) := by decide +kernel
theorem dX6_tick_28 : decode cX6_tick 28 = .ok (.iload_n 3, 1) := by decide +kernel
theorem dX6_tick_29 : decode cX6_tick 29 = .ok (.invokevirtual 97, 3) := by decide +kernel
theorem dX6_tick_32 : decode cX6_tick 32 = .ok (.ifCond .eq 12, 3) := by decide +kernel
theorem dX6_tick_35 : decode cX6_tick 35 = .ok (.aload_n 0, 1) := by decide +kernel
theorem dX6_tick_36 : decode cX6_tick 36 = .ok (.iload_n 2, 1) := by decide +kernel
theorem dX6_tick_37 : decode cX6_tick 37 = .ok (.iload_n 3, 1) := by decide +kernel
theorem dX6_tick_38 : decode cX6_tick 38 = .ok (.invokevirtual 100, 3) := by decide +kernel
theorem dX6_tick_41 : decode cX6_tick 41 = .ok (.iinc 1 1, 3) := by decide +kernel
theorem dX6_tick_44 : decode cX6_tick 44 = .ok (.iinc 3 1, 3) := by decide +kernel
theorem dX6_tick_47 : decode cX6_tick 47 = .ok (.goto (-26), 3) := by decide +kernel
theorem dX6_tick_50 : decode cX6_tick 50 = .ok (.iinc 2 1, 3) := by decide +kernel
theorem dX6_tick_53 : decode cX6_tick 53 = .ok (.goto (-39), 3) := by decide +kernel
theorem dX6_tick_56 : decode cX6_tick 56 = .ok (.iconst 0, 1) := by decide +kernel
theorem dX6_tick_57 : decode cX6_tick 57 = .ok (.istore_n 2, 1) := by decide +kernel
theorem dX6_tick_58 : decode cX6_tick 58 = .ok (.iload_n 2, 1) := by decide +kernel
theorem dX6_tick_59 : decode cX6_tick 59 = .ok (.iconst 4, 1) := by decide +kernel
theorem dX6_tick_60 : decode cX6_tick 60 = .ok (.if_icmp .ge 61, 3) := by decide +kernel
theorem dX6_tick_63 : decode cX6_tick 63 = .ok (.aload_n 0, 1) := by decide +kernel
theorem dX6_tick_64 : decode cX6_tick 64 = .ok (.iload_n 2, 1) := by decide +kernel
theorem dX6_tick_65 : decode cX6_tick 65 = .ok (.iconst 1, 1) := by decide +kernel
theorem dX6_tick_66 : decode cX6_tick 66 = .ok (.invokevirtual 56, 3) := by decide +kernel
theorem dX6_tick_69 : decode cX6_tick 69 = .ok (.iconst 1, 1) := by decide +kernel
theorem dX6_tick_70 : decode cX6_tick 70 = .ok (.if_icmp .ne 45, 3) := by decide +kernel
theorem dX6_tick_73 : decode cX6_tick 73 = .ok (.aload_n 0, 1) := by decide +kernel
theorem dX6_tick_74 : decode cX6_tick 74 = .ok (.getfield 7, 3) := by decide +kernel
theorem dX6_tick_77 : decode cX6_tick 77 = .ok (.iconst 0, 1) := by decide +kernel
theorem dX6_tick_78 : decode cX6_tick 78 = .ok (.iaload, 1) := by decide +kernel
theorem dX6_tick_79 : decode cX6_tick 79 = .ok (.aload_n 0, 1) := by decide +kernel
theorem dX6_tick_80 : decode cX6_tick 80 = .ok (.iload_n 2, 1) := by decide +kernel
theorem dX6_tick_81 : decode cX6_tick 81 = .ok (.iconst 5, 1) := by decide +kernel
theorem dX6_tick_82 : decode cX6_tick 82 = .ok (.invokevirtual 56, 3) := by decide +kernel
theorem dX6_tick_85 : decode cX6_tick 85 = .ok (.isub, 1) := by decide +kernel
theorem dX6_tick_86 : decode cX6_tick 86 = .ok (.aload_n 0, 1) := by decide +kernel
theorem dX6_tick_87 : decode cX6_tick 87 = .ok (.getfield 7, 3) := by decide +kernel
theorem dX6_tick_90 : decode cX6_tick 90 = .ok (.iconst 1, 1) := by decide +kernel
theorem dX6_tick_91 : decode cX6_tick 91 = .ok (.iaload, 1) := by decide +kernel
theorem dX6_tick_92 : decode cX6_tick 92 = .ok (.if_icmp .lt 23, 3) := by decide +kernel
theorem dX6_tick_95 : decode cX6_tick 95 = .ok (.aload_n 0, 1) := by decide +kernel
theorem dX6_tick_96 : decode cX6_tick 96 = .ok (.iload_n 2, 1) := by decide +kernel
theorem dX6_tick_97 : decode cX6_tick 97 = .ok (.iconst 0, 1) := by decide +kernel
theorem dX6_tick_98 : decode cX6_tick 98 = .ok (.aload_n 0, 1) := by decide +kernel
theorem dX6_tick_99 : decode cX6_tick 99 = .ok (.iload_n 2, 1) := by decide +kernel
theorem dX6_tick_100 : decode cX6_tick 100 = .ok (.iconst 0, 1) := by decide +kernel
theorem dX6_tick_101 : decode cX6_tick 101 = .ok (.invokevirtual 56, 3) := by decide +kernel
theorem dX6_tick_104 : decode cX6_tick 104 = .ok (.iconst 1, 1) := by decide +kernel
theorem dX6_tick_105 : decode cX6_tick 105 = .ok (.iadd, 1) := by decide +kernel
theorem dX6_tick_106 : decode cX6_tick 106 = .ok (.invokevirtual 28, 3) := by decide +kernel
theorem dX6_tick_109 : decode cX6_tick 109 = .ok (.aload_n 0, 1) := by decide +kernel
theorem dX6_tick_110 : decode cX6_tick 110 = .ok (.iload_n 2, 1) := by decide +kernel
theorem dX6_tick_111 : decode cX6_tick 111 = .ok (.iconst 0, 1) := by decide +kernel
theorem dX6_tick_112 : decode cX6_tick 112 = .ok (.invokevirtual 104, 3) := by decide +kernel
theorem dX6_tick_115 : decode cX6_tick 115 = .ok (.iinc 2 1, 3) := by decide +kernel
theorem dX6_tick_118 : decode cX6_tick 118 = .ok (.goto (-60), 3) := by decide +kernel
theorem dX6_tick_121 : decode cX6_tick 121 = .ok (.iload_n 1, 1) := by decide +kernel
theorem dX6_tick_122 : decode cX6_tick 122 = .ok (.ireturn, 1) := by decide +kernel
theorem dX6_begins_0 : decode cX6_begins 0 = .ok (.iload_n 1, 1) := by decide +kernel
theorem dX6_begins_1 : decode cX6_begins 1 = .ok (.invokestatic 107, 3) := by decide +kernel
theorem dX6_begins_4 : decode cX6_begins 4 = .ok (.ifCond .ne 8, 3) := by decide +kernel
theorem dX6_begins_7 : decode cX6_begins 7 = .ok (.aload_n 0, 1) := by decide +kernel
theorem dX6_begins_8 : decode cX6_begins 8 = .ok (.invokevirtual 111, 3) := by decide +kernel
theorem dX6_begins_11 : decode cX6_begins 11 = .ok (.ireturn, 1) := by decide +kernel
theorem dX6_begins_12 : decode cX6_begins 12 = .ok (.aload_n 0, 1) := by decide +kernel
theorem dX6_begins_13 : decode cX6_begins 13 = .ok (.iload_n 1, 1) := by decide +kernel
theorem dX6_begins_14 : decode cX6_begins 14 = .ok (.iconst 1, 1) := by decide +kernel
theorem dX6_begins_15 : decode cX6_begins 15 = .ok (.invokevirtual 56, 3) := by decide +kernel
theorem dX6_begins_18 : decode cX6_begins 18 = .ok (.iconst 2, 1) := by decide +kernel
theorem dX6_begins_19 : decode cX6_begins 19 = .ok (.if_icmp .ne 11, 3) := by decide +kernel
theorem dX6_begins_22 : decode cX6_begins 22 = .ok (.aload_n 0, 1) := by decide +kernel
theorem dX6_begins_23 : decode cX6_begins 23 = .ok (.iconst 2, 1) := by decide +kernel
theorem dX6_begins_24 : decode cX6_begins 24 = .ok (.bipush (-3), 2) := by decide +kernel
theorem dX6_begins_26 : decode cX6_begins 26 = .ok (.invokevirtual 32, 3) := by decide +kernel
theorem dX6_begins_29 : decode cX6_begins 29 = .ok (.ireturn, 1) := by decide +kernel
theorem dX6_begins_30 : decode cX6_begins 30 = .ok (.aload_n 0, 1) := by decide +kernel
theorem dX6_begins_31 : decode cX6_begins 31 = .ok (.iload_n 1, 1) := by decide +kernel
theorem dX6_begins_32 : decode cX6_begins 32 = .ok (.iconst 0, 1) := by decide +kernel
theorem dX6_begins_33 : decode cX6_begins 33 = .ok (.invokevirtual 56, 3) := by decide +kernel
theorem dX6_begins_36 : decode cX6_begins 36 = .ok (.bipush 99, 2) := by decide +kernel
theorem dX6_begins_38 : decode cX6_begins 38 = .ok (.if_icmp .lt 11, 3) := by decide +kernel
theorem dX6_begins_41 : decode cX6_begins 41 = .ok (.aload_n 0, 1) := by decide +kernel
theorem dX6_begins_42 : decode cX6_begins 42 = .ok (.iconst 4, 1) := by decide +kernel
theorem dX6_begins_43 : decode cX6_begins 43 = .ok (.bipush (-4), 2) := by decide +kernel
theorem dX6_begins_45 : decode cX6_begins 45 = .ok (.invokevirtual 32, 3) := by decide +kernel
theorem dX6_begins_48 : decode cX6_begins 48 = .ok (.ireturn, 1) := by decide +kernel
theorem dX6_begins_49 : decode cX6_begins 49 = .ok (.aload_n 0, 1) := by decide +kernel
theorem dX6_begins_50 : decode cX6_begins 50 = .ok (.invokevirtual 115, 3) := by decide +kernel
theorem dX6_begins_53 : decode cX6_begins 53 = .ok (.aload_n 0, 1) := by decide +kernel
theorem dX6_begins_54 : decode cX6_begins 54 = .ok (.iload_n 1, 1) := by decide +kernel
theorem dX6_begins_55 : decode cX6_begins 55 = .ok (.iconst 0, 1) := by decide +kernel
theorem dX6_begins_56 : decode cX6_begins 56 = .ok (.aload_n 0, 1) := by decide +kernel
theorem dX6_begins_57 : decode cX6_begins 57 = .ok (.iload_n 1, 1) := by decide +kernel
theorem dX6_begins_58 : decode cX6_begins 58 = .ok (.iconst 0, 1) := by decide +kernel
theorem dX6_begins_59 : decode cX6_begins 59 = .ok (.invokevirtual 56, 3) := by decide +kernel
theorem dX6_begins_62 : decode cX6_begins 62 = .ok (.iconst 1, 1) := by decide +kernel
theorem dX6_begins_63 : decode cX6_begins 63 = .ok (.iadd, 1) := by decide +kernel
theorem dX6_begins_64 : decode cX6_begins 64 = .ok (.invokevirtual 28, 3) := by decide +kernel
theorem dX6_begins_67 : decode cX6_begins 67 = .ok (.aload_n 0, 1) := by decide +kernel
theorem dX6_begins_68 : decode cX6_begins 68 = .ok (.iload_n 1, 1) := by decide +kernel
theorem dX6_begins_69 : decode cX6_begins 69 = .ok (.iconst 1, 1) := by decide +kernel
theorem dX6_begins_70 : decode cX6_begins 70 = .ok (.invokevirtual 56, 3) := by decide +kernel
theorem dX6_begins_73 : decode cX6_begins 73 = .ok (.iconst 1, 1) := by decide +kernel
theorem dX6_begins_74 : decode cX6_begins 74 = .ok (.if_icmp .ne 9, 3) := by decide +kernel
theorem dX6_begins_77 : decode cX6_begins 77 = .ok (.aload_n 0, 1) := by decide +kernel
theorem dX6_begins_78 : decode cX6_begins 78 = .ok (.iload_n 1, 1) := by decide +kernel
theorem dX6_begins_79 : decode cX6_begins 79 = .ok (.iconst 0, 1) := by decide +kernel
theorem dX6_begins_80 : decode cX6_begins 80 = .ok (.invokevirtual 104, 3) := by decide +kernel
theorem dX6_begins_83 : decode cX6_begins 83 = .ok (.aload_n 0, 1) := by decide +kernel
theorem dX6_begins_84 : decode cX6_begins 84 = .ok (.iload_n 1, 1) := by decide +kernel
theorem dX6_begins_85 : decode cX6_begins 85 = .ok (.iconst 0, 1) := by decide +kernel
theorem dX6_begins_86 : decode cX6_begins 86 = .ok (.invokevirtual 56, 3) := by decide +kernel
theorem dX6_begins_89 : decode cX6_begins 89 = .ok (.ireturn, 1) := by decide +kernel
theorem dX6_isAge_0 : decode cX6_isAge 0 = .ok (.iload_n 1, 1) := by decide +kernel
theorem dX6_isAge_1 : decode cX6_isAge 1 = .ok (.invokestatic 107, 3) := by decide +kernel
theorem dX6_isAge_4 : decode cX6_isAge 4 = .ok (.ifCond .eq 21, 3) := by decide +kernel
theorem dX6_isAge_7 : decode cX6_isAge 7 = .ok (.iload_n 2, 1) := by decide +kernel
theorem dX6_isAge_8 : decode cX6_isAge 8 = .ok (.iconst 0, 1) := by decide +kernel
theorem dX6_isAge_9 : decode cX6_isAge 9 = .ok (.aload_n 0, 1) := by decide +kernel
theorem dX6_isAge_10 : decode cX6_isAge 10 = .ok (.iload_n 1, 1) := by decide +kernel
theorem dX6_isAge_11 : decode cX6_isAge 11 = .ok (.iconst 0, 1) := by decide +kernel
theorem dX6_isAge_12 : decode cX6_isAge 12 = .ok (.invokevirtual 56, 3) := by decide +kernel
theorem dX6_isAge_15 : decode cX6_isAge 15 = .ok (.invokestatic 36, 3) := by decide +kernel
theorem dX6_isAge_18 : decode cX6_isAge 18 = .ok (.ifCond .eq 7, 3) := by decide +kernel
theorem dX6_isAge_21 : decode cX6_isAge 21 = .ok (.iconst 1, 1) := by decide +kernel
theorem dX6_isAge_22 : decode cX6_isAge 22 = .ok (.goto 4, 3) := by decide +kernel
theorem dX6_isAge_25 : decode cX6_isAge 25 = .ok (.iconst 0, 1) := by decide +kernel
theorem dX6_isAge_26 : decode cX6_isAge 26 = .ok (.ireturn, 1) := by decide +kernel
theorem dX6_opens_0 : decode cX6_opens 0 = .ok (.aload_n 0, 1) := by decide +kernel
theorem dX6_opens_1 : decode cX6_opens 1 = .ok (.iload_n 1, 1) := by decide +kernel
theorem dX6_opens_2 : decode cX6_opens 2 = .ok (.iload_n 2, 1) := by decide +kernel
theorem dX6_opens_3 : decode cX6_opens 3 = .ok (.invokevirtual 118, 3) := by decide +kernel
theorem dX6_opens_6 : decode cX6_opens 6 = .ok (.ifCond .ne 8, 3) := by decide +kernel
theorem dX6_opens_9 : decode cX6_opens 9 = .ok (.aload_n 0, 1) := by decide +kernel
theorem dX6_opens_10 : decode cX6_opens 10 = .ok (.invokevirtual 111, 3) := by decide +kernel
theorem dX6_opens_13 : decode cX6_opens 13 = .ok (.ireturn, 1) := by decide +kernel
theorem dX6_opens_14 : decode cX6_opens 14 = .ok (.iload_n 2, 1) := by decide +kernel
theorem dX6_opens_15 : decode cX6_opens 15 = .ok (.aload_n 0, 1) := by decide +kernel
theorem dX6_opens_16 : decode cX6_opens 16 = .ok (.iload_n 1, 1) := by decide +kernel
theorem dX6_opens_17 : decode cX6_opens 17 = .ok (.iconst 0, 1) := by decide +kernel
theorem dX6_opens_18 : decode cX6_opens 18 = .ok (.invokevirtual 56, 3) := by decide +kernel
theorem dX6_opens_21 : decode cX6_opens 21 = .ok (.if_icmp .ge 11, 3) := by decide +kernel
theorem dX6_opens_24 : decode cX6_opens 24 = .ok (.aload_n 0, 1) := by decide +kernel
theorem dX6_opens_25 : decode cX6_opens 25 = .ok (.iconst 1, 1) := by decide +kernel
theorem dX6_opens_26 : decode cX6_opens 26 = .ok (.bipush (-6), 2) := by decide +kernel
theorem dX6_opens_28 : decode cX6_opens 28 = .ok (.invokevirtual 32, 3) := by decide +kernel
theorem dX6_opens_31 : decode cX6_opens 31 = .ok (.ireturn, 1) := by decide +kernel
theorem dX6_opens_32 : decode cX6_opens 32 = .ok (.aload_n 0, 1) := by decide +kernel
theorem dX6_opens_33 : decode cX6_opens 33 = .ok (.iload_n 1, 1) := by decide +kernel
theorem dX6_opens_34 : decode cX6_opens 34 = .ok (.iconst 1, 1) := by decide +kernel
theorem dX6_opens_35 : decode cX6_opens 35 = .ok (.invokevirtual 56, 3) := by decide +kernel
theorem dX6_opens_38 : decode cX6_opens 38 = .ok (.ifCond .eq 11, 3) := by decide +kernel
theorem dX6_opens_41 : decode cX6_opens 41 = .ok (.aload_n 0, 1) := by decide +kernel
theorem dX6_opens_42 : decode cX6_opens 42 = .ok (.iconst 2, 1) := by decide +kernel
theorem dX6_opens_43 : decode cX6_opens 43 = .ok (.bipush (-3), 2) := by decide +kernel
theorem dX6_opens_45 : decode cX6_opens 45 = .ok (.invokevirtual 32, 3) := by decide +kernel
theorem dX6_opens_48 : decode cX6_opens 48 = .ok (.ireturn, 1) := by decide +kernel
theorem dX6_opens_49 : decode cX6_opens 49 = .ok (.aload_n 0, 1) := by decide +kernel
theorem dX6_opens_50 : decode cX6_opens 50 = .ok (.invokevirtual 115, 3) := by decide +kernel
theorem dX6_opens_53 : decode cX6_opens 53 = .ok (.aload_n 0, 1) := by decide +kernel
theorem dX6_opens_54 : decode cX6_opens 54 = .ok (.iload_n 1, 1) := by decide +kernel
theorem dX6_opens_55 : decode cX6_opens 55 = .ok (.iconst 1, 1) := by decide +kernel
theorem dX6_opens_56 : decode cX6_opens 56 = .ok (.iconst 1, 1) := by decide +kernel
theorem dX6_opens_57 : decode cX6_opens 57 = .ok (.invokevirtual 28, 3) := by decide +kernel
theorem dX6_opens_60 : decode cX6_opens 60 = .ok (.aload_n 0, 1) := by decide +kernel
theorem dX6_opens_61 : decode cX6_opens 61 = .ok (.iload_n 1, 1) := by decide +kernel
theorem dX6_opens_62 : decode cX6_opens 62 = .ok (.iconst 2, 1) := by decide +kernel
theorem dX6_opens_63 : decode cX6_opens 63 = .ok (.iconst 0, 1) := by decide +kernel
theorem dX6_opens_64 : decode cX6_opens 64 = .ok (.invokevirtual 28, 3) := by decide +kernel
theorem dX6_opens_67 : decode cX6_opens 67 = .ok (.aload_n 0, 1) := by decide +kernel
theorem dX6_opens_68 : decode cX6_opens 68 = .ok (.iload_n 1, 1) := by decide +kernel
theorem dX6_opens_69 : decode cX6_opens 69 = .ok (.iconst 3, 1) := by decide +kernel
theorem dX6_opens_70 : decode cX6_opens 70 = .ok (.iconst 0, 1) := by decide +kernel
theorem dX6_opens_71 : decode cX6_opens 71 = .ok (.invokevirtual 28, 3) := by decide +kernel
theorem dX6_opens_74 : decode cX6_opens 74 = .ok (.aload_n 0, 1) := by decide +kernel
theorem dX6_opens_75 : decode cX6_opens 75 = .ok (.iload_n 1, 1) := by decide +kernel
theorem dX6_opens_76 : decode cX6_opens 76 = .ok (.iconst 5, 1) := by decide +kernel
theorem dX6_opens_77 : decode cX6_opens 77 = .ok (.aload_n 0, 1) := by decide +kernel
theorem dX6_opens_78 : decode cX6_opens 78 = .ok (.getfield 7, 3) := by decide +kernel
theorem dX6_opens_81 : decode cX6_opens 81 = .ok (.iconst 0, 1) := by decide +kernel
theorem dX6_opens_82 : decode cX6_opens 82 = .ok (.iaload, 1) := by decide +kernel
theorem dX6_opens_83 : decode cX6_opens 83 = .ok (.invokevirtual 28, 3) := by decide +kernel
theorem dX6_opens_86 : decode cX6_opens 86 = .ok (.iconst 0, 1) := by decide +kernel
theorem dX6_opens_87 : decode cX6_opens 87 = .ok (.istore_n 3, 1) := by decide +kernel
theorem dX6_opens_88 : decode cX6_opens 88 = .ok (.iload_n 3, 1) := by decide +kernel
theorem dX6_opens_89 : decode cX6_opens 89 = .ok (.bipush 6, 2) := by decide +kernel
theorem dX6_opens_91 : decode cX6_opens 91 = .ok (.if_icmp .ge 19, 3) := by decide +kernel
theorem dX6_opens_94 : decode cX6_opens 94 = .ok (.aload_n 0, 1) := by decide +kernel
theorem dX6_opens_95 : decode cX6_opens 95 = .ok (.iload_n 1, 1) := by decide +kernel
theorem dX6_opens_96 : decode cX6_opens 96 = .ok (.bipush 10, 2) := by decide +kernel
theorem dX6_opens_98 : decode cX6_opens 98 = .ok (.iload_n 3, 1) := by decide +kernel
theorem dX6_opens_99 : decode cX6_opens 99 = .ok (.iadd, 1) := by decide +kernel
theorem dX6_opens_100 : decode cX6_opens 100 = .ok (.iconst (-1), 1) := by decide +kernel
theorem dX6_opens_101 : decode cX6_opens 101 = .ok (.invokevirtual 28, 3) := by decide +kernel
theorem dX6_opens_104 : decode cX6_opens 104 = .ok (.iinc 3 1, 3) := by decide +kernel
theorem dX6_opens_107 : decode cX6_opens 107 = .ok (.goto (-19), 3) := by decide +kernel
theorem dX6_opens_110 : decode cX6_opens 110 = .ok (.aload_n 0, 1) := by decide +kernel
theorem dX6_opens_111 : decode cX6_opens 111 = .ok (.iconst 1, 1) := by decide +kernel
theorem dX6_opens_112 : decode cX6_opens 112 = .ok (.invokevirtual 121, 3) := by decide +kernel
theorem dX6_opens_115 : decode cX6_opens 115 = .ok (.ireturn, 1) := by decide +kernel
theorem dX6_writes_0 : decode cX6_writes 0 = .ok (.aload_n 0, 1) := by decide +kernel
theorem dX6_writes_1 : decode cX6_writes 1 = .ok (.iload_n 2, 1) := by decide +kernel
theorem dX6_writes_2 : decode cX6_writes 2 = .ok (.invokevirtual 70, 3) := by decide +kernel
theorem dX6_writes_5 : decode cX6_writes 5 = .ok (.istore 5, 2) := by decide +kernel
theorem dX6_writes_7 : decode cX6_writes 7 = .ok (.aload_n 0, 1) := by decide +kernel
theorem dX6_writes_8 : decode cX6_writes 8 = .ok (.iload_n 1, 1) := by decide +kernel
theorem dX6_writes_9 : decode cX6_writes 9 = .ok (.iconst 1, 1) := by decide +kernel
theorem dX6_writes_10 : decode cX6_writes 10 = .ok (.invokevirtual 56, 3) := by decide +kernel
theorem dX6_writes_13 : decode cX6_writes 13 = .ok (.iconst 1, 1) := by decide +kernel
theorem dX6_writes_14 : decode cX6_writes 14 = .ok (.if_icmp .ne 7, 3) := by decide +kernel
theorem dX6_writes_17 : decode cX6_writes 17 = .ok (.iconst 1, 1) := by decide +kernel
theorem dX6_writes_18 : decode cX6_writes 18 = .ok (.goto 4, 3) := by decide +kernel
theorem dX6_writes_21 : decode cX6_writes 21 = .ok (.iconst 0, 1) := by decide +kernel
theorem dX6_writes_22 : decode cX6_writes 22 = .ok (.istore 6, 2) := by decide +kernel
theorem dX6_writes_24 : decode cX6_writes 24 = .ok (.iload 6, 2) := by decide +kernel
theorem dX6_writes_26 : decode cX6_writes 26 = .ok (.ifCond .eq 43, 3) := by decide +kernel
theorem dX6_writes_29 : decode cX6_writes 29 = .ok (.aload_n 0, 1) := by decide +kernel
theorem dX6_writes_30 : decode cX6_writes 30 = .ok (.iload_n 1, 1) := by decide +kernel
theorem dX6_writes_31 : decode cX6_writes 31 = .ok (.iconst 2, 1) := by decide +kernel
theorem dX6_writes_32 : decode cX6_writes 32 = .ok (.invokevirtual 56, 3) := by decide +kernel
theorem dX6_writes_35 : decode cX6_writes 35 = .ok (.iload_n 2, 1) := by decide +kernel
theorem dX6_writes_36 : decode cX6_writes 36 = .ok (.invokestatic 59, 3) := by decide +kernel
theorem dX6_writes_39 : decode cX6_writes 39 = .ok (.ifCond .ne 30, 3) := by decide +kernel
theorem dX6_writes_42 : decode cX6_writes 42 = .ok (.aload_n 0, 1) := by decide +kernel
theorem dX6_writes_43 : decode cX6_writes 43 = .ok (.iload_n 1, 1) := by decide +kernel
theorem dX6_writes_44 : decode cX6_writes 44 = .ok (.iconst 2, 1) := by decide +kernel
theorem dX6_writes_45 : decode cX6_writes 45 = .ok (.aload_n 0, 1) := by decide +kernel
theorem dX6_writes_46 : decode cX6_writes 46 = .ok (.iload_n 1, 1) := by decide +kernel
theorem dX6_writes_47 : decode cX6_writes 47 = .ok (.iconst 2, 1) := by decide +kernel
theorem dX6_writes_48 : decode cX6_writes 48 = .ok (.invokevirtual 56, 3) := by decide +kernel
theorem dX6_writes_51 : decode cX6_writes 51 = .ok (.iconst 1, 1) := by decide +kernel
theorem dX6_writes_52 : decode cX6_writes 52 = .ok (.iload_n 2, 1) := by decide +kernel
theorem dX6_writes_53 : decode cX6_writes 53 = .ok (.ishl, 1) := by decide +kernel
theorem dX6_writes_54 : decode cX6_writes 54 = .ok (.ior, 1) := by decide +kernel
theorem dX6_writes_55 : decode cX6_writes 55 = .ok (.invokevirtual 28, 3) := by decide +kernel
theorem dX6_writes_58 : decode cX6_writes 58 = .ok (.aload_n 0, 1) := by decide +kernel
theorem dX6_writes_59 : decode cX6_writes 59 = .ok (.iload_n 1, 1) := by decide +kernel
theorem dX6_writes_60 : decode cX6_writes 60 = .ok (.bipush 7, 2) := by decide +kernel
theorem dX6_writes_62 : decode cX6_writes 62 = .ok (.iload_n 2, 1) := by decide +kernel
theorem dX6_writes_63 : decode cX6_writes 63 = .ok (.iadd, 1) := by decide +kernel
theorem dX6_writes_64 : decode cX6_writes 64 = .ok (.iload 5, 2) := by decide +kernel
theorem dX6_writes_66 : decode cX6_writes 66 = .ok (.invokevirtual 28, 3) := by decide +kernel
theorem dX6_writes_69 : decode cX6_writes 69 = .ok (.aload_n 0, 1) := by decide +kernel
theorem dX6_writes_70 : decode cX6_writes 70 = .ok (.iload_n 2, 1) := by decide +kernel
theorem dX6_writes_71 : decode cX6_writes 71 = .ok (.iload 5, 2) := by decide +kernel
theorem dX6_writes_73 : decode cX6_writes 73 = .ok (.iconst 0, 1) := by decide +kernel
theorem dX6_writes_74 : decode cX6_writes 74 = .ok (.iconst 0, 1) := by decide +kernel
theorem dX6_writes_75 : decode cX6_writes 75 = .ok (.invokevirtual 93, 3) := by decide +kernel
theorem dX6_writes_78 : decode cX6_writes 78 = .ok (.aload_n 0, 1) := by decide +kernel
theorem dX6_writes_79 : decode cX6_writes 79 = .ok (.iload_n 2, 1) := by decide +kernel
theorem dX6_writes_80 : decode cX6_writes 80 = .ok (.iload 5, 2) := by decide +kernel
theorem dX6_writes_82 : decode cX6_writes 82 = .ok (.iconst 1, 1) := by decide +kernel
theorem dX6_writes_83 : decode cX6_writes 83 = .ok (.iload_n 1, 1) := by decide +kernel
theorem dX6_writes_84 : decode cX6_writes 84 = .ok (.invokevirtual 93, 3) := by decide +kernel
theorem dX6_writes_87 : decode cX6_writes 87 = .ok (.aload_n 0, 1) := by decide +kernel
theorem dX6_writes_88 : decode cX6_writes 88 = .ok (.iload_n 2, 1) := by decide +kernel
theorem dX6_writes_89 : decode cX6_writes 89 = .ok (.iload 5, 2) := by decide +kernel
theorem dX6_writes_91 : decode cX6_writes 91 = .ok (.iconst 2, 1) := by decide +kernel
theorem dX6_writes_92 : decode cX6_writes 92 = .ok (.aload_n 0, 1) := by decide +kernel
theorem dX6_writes_93 : decode cX6_writes 93 = .ok (.iload_n 1, 1) := by decide +kernel
theorem dX6_writes_94 : decode cX6_writes 94 = .ok (.iconst 0, 1) := by decide +kernel
theorem dX6_writes_95 : decode cX6_writes 95 = .ok (.invokevirtual 56, 3) := by decide +kernel
theorem dX6_writes_98 : decode cX6_writes 98 = .ok (.invokevirtual 93, 3) := by decide +kernel
theorem dX6_writes_101 : decode cX6_writes 101 = .ok (.aload_n 0, 1) := by decide +kernel
theorem dX6_writes_102 : decode cX6_writes 102 = .ok (.iload_n 2, 1) := by decide +kernel
theorem dX6_writes_103 : decode cX6_writes 103 = .ok (.iload 5, 2) := by decide +kernel
theorem dX6_writes_105 : decode cX6_writes 105 = .ok (.iconst 3, 1) := by decide +kernel
theorem dX6_writes_106 : decode cX6_writes 106 = .ok (.iload_n 3, 1) := by decide +kernel
theorem dX6_writes_107 : decode cX6_writes 107 = .ok (.invokevirtual 93, 3) := by decide +kernel
theorem dX6_writes_110 : decode cX6_writes 110 = .ok (.aload_n 0, 1) := by decide +kernel
theorem dX6_writes_111 : decode cX6_writes 111 = .ok (.iload_n 2, 1) := by decide +kernel
theorem dX6_writes_112 : decode cX6_writes 112 = .ok (.iload 5, 2) := by decide +kernel
theorem dX6_writes_114 : decode cX6_writes 114 = .ok (.iconst 4, 1) := by decide +kernel
theorem dX6_writes_115 : decode cX6_writes 115 = .ok (.iload 4, 2) := by decide +kernel
theorem dX6_writes_117 : decode cX6_writes 117 = .ok (.invokevirtual 93, 3) := by decide +kernel
theorem dX6_writes_120 : decode cX6_writes 120 = .ok (.aload_n 0, 1) := by decide +kernel
theorem dX6_writes_121 : decode cX6_writes 121 = .ok (.iload_n 2, 1) := by decide +kernel
theorem dX6_writes_122 : decode cX6_writes 122 = .ok (.iload 5, 2) := by decide +kernel
theorem dX6_writes_124 : decode cX6_writes 124 = .ok (.iconst 5, 1) := by decide +kernel
theorem dX6_writes_125 : decode cX6_writes 125 = .ok (.iload 6, 2) := by decide +kernel
theorem dX6_writes_127 : decode cX6_writes 127 = .ok (.ifCond .eq 7, 3) := by decide +kernel
theorem dX6_writes_130 : decode cX6_writes 130 = .ok (.iconst 1, 1) := by decide +kernel
theorem dX6_writes_131 : decode cX6_writes 131 = .ok (.goto 4, 3) := by decide +kernel
theorem dX6_writes_134 : decode cX6_writes 134 = .ok (.iconst 0, 1) := by decide +kernel
theorem dX6_writes_135 : decode cX6_writes 135 = .ok (.invokevirtual 93, 3) := by decide +kernel
theorem dX6_writes_138 : decode cX6_writes 138 = .ok (.aload_n 0, 1) := by decide +kernel
theorem dX6_writes_139 : decode cX6_writes 139 = .ok (.getfield 7, 3) := by decide +kernel
theorem dX6_writes_142 : decode cX6_writes 142 = .ok (.bipush 66, 2) := by decide +kernel
theorem dX6_writes_144 : decode cX6_writes 144 = .ok (.iload_n 2, 1) := by decide +kernel
theorem dX6_writes_145 : decode cX6_writes 145 = .ok (.iadd, 1) := by decide +kernel
theorem dX6_writes_146 : decode cX6_writes 146 = .ok (.dup2, 1) := by decide +kernel
theorem dX6_writes_147 : decode cX6_writes 147 = .ok (.iaload, 1) := by decide +kernel
theorem dX6_writes_148 : decode cX6_writes 148 = .ok (.iconst 1, 1) := by decide +kernel
theorem dX6_writes_149 : decode cX6_writes 149 = .ok (.iadd, 1) := by decide +kernel
theorem dX6_writes_150 : decode cX6_writes 150 = .ok (.iastore, 1) := by decide +kernel
theorem dX6_writes_151 : decode cX6_writes 151 = .ok (.iload 5, 2) := by decide +kernel
theorem dX6_writes_153 : decode cX6_writes 153 = .ok (.ireturn, 1) := by decide +kernel
theorem dX6_sends_0 : decode cX6_sends 0 = .ok (.aload_n 0, 1) := by decide +kernel
theorem dX6_sends_1 : decode cX6_sends 1 = .ok (.iload_n 1, 1) := by decide +kernel
theorem dX6_sends_2 : decode cX6_sends 2 = .ok (.iload_n 2, 1) := by decide +kernel
theorem dX6_sends_3 : decode cX6_sends 3 = .ok (.invokevirtual 118, 3) := by decide +kernel
theorem dX6_sends_6 : decode cX6_sends 6 = .ok (.ifCond .eq 32, 3) := by decide +kernel
theorem dX6_sends_9 : decode cX6_sends 9 = .ok (.iload_n 3, 1) := by decide +kernel
theorem dX6_sends_10 : decode cX6_sends 10 = .ok (.invokestatic 124, 3) := by decide +kernel
theorem dX6_sends_13 : decode cX6_sends 13 = .ok (.ifCond .eq 25, 3) := by decide +kernel
theorem dX6_sends_16 : decode cX6_sends 16 = .ok (.iload 4, 2) := by decide +kernel
theorem dX6_sends_18 : decode cX6_sends 18 = .ok (.iconst 0, 1) := by decide +kernel
theorem dX6_sends_19 : decode cX6_sends 19 = .ok (.bipush 99, 2) := by decide +kernel
theorem dX6_sends_21 : decode cX6_sends 21 = .ok (.invokestatic 36, 3) := by decide +kernel
theorem dX6_sends_24 : decode cX6_sends 24 = .ok (.ifCond .eq 14, 3) := by decide +kernel
theorem dX6_sends_27 : decode cX6_sends 27 = .ok (.iload 5, 2) := by decide +kernel
theorem dX6_sends_29 : decode cX6_sends 29 = .ok (.iconst 0, 1) := by decide +kernel
theorem dX6_sends_30 : decode cX6_sends 30 = .ok (.bipush 99, 2) := by decide +kernel
theorem dX6_sends_32 : decode cX6_sends 32 = .ok (.invokestatic 36, 3) := by decide +kernel
theorem dX6_sends_35 : decode cX6_sends 35 = .ok (.ifCond .ne 8, 3) := by decide +kernel
theorem dX6_sends_38 : decode cX6_sends 38 = .ok (.aload_n 0, 1) := by decide +kernel
theorem dX6_sends_39 : decode cX6_sends 39 = .ok (.invokevirtual 111, 3) := by decide +kernel
theorem dX6_sends_42 : decode cX6_sends 42 = .ok (.ireturn, 1) := by decide +kernel
theorem dX6_sends_43 : decode cX6_sends 43 = .ok (.iload_n 2, 1) := by decide +kernel
theorem dX6_sends_44 : decode cX6_sends 44 = .ok (.aload_n 0, 1) := by decide +kernel
theorem dX6_sends_45 : decode cX6_sends 45 = .ok (.iload_n 1, 1) := by decide +kernel
theorem dX6_sends_46 : decode cX6_sends 46 = .ok (.iconst 0, 1) := by decide +kernel
theorem dX6_sends_47 : decode cX6_sends 47 = .ok (.invokevirtual 56, 3) := by decide +kernel
theorem dX6_sends_50 : decode cX6_sends 50 = .ok (.if_icmp .ge 11, 3) := by decide +kernel
theorem dX6_sends_53 : decode cX6_sends 53 = .ok (.aload_n 0, 1) := by decide +kernel
theorem dX6_sends_54 : decode cX6_sends 54 = .ok (.iconst 1, 1) := by decide +kernel
theorem dX6_sends_55 : decode cX6_sends 55 = .ok (.bipush (-6), 2) := by decide +kernel
theorem dX6_sends_57 : decode cX6_sends 57 = .ok (.invokevirtual 32, 3) := by decide +kernel
theorem dX6_sends_60 : decode cX6_sends 60 = .ok (.ireturn, 1) := by decide +kernel
theorem dX6_sends_61 : decode cX6_sends 61 = .ok (.aload_n 0, 1) := by decide +kernel
theorem dX6_sends_62 : decode cX6_sends 62 = .ok (.iload_n 1, 1) := by decide +kernel
theorem dX6_sends_63 : decode cX6_sends 63 = .ok (.iconst 1, 1) := by decide +kernel
theorem dX6_sends_64 : decode cX6_sends 64 = .ok (.invokevirtual 56, 3) := by decide +kernel
theorem dX6_sends_67 : decode cX6_sends 67 = .ok (.iconst 2, 1) := by decide +kernel
theorem dX6_sends_68 : decode cX6_sends 68 = .ok (.if_icmp .ne 11, 3) := by decide +kernel
theorem dX6_sends_71 : decode cX6_sends 71 = .ok (.aload_n 0, 1) := by decide +kernel
theorem dX6_sends_72 : decode cX6_sends 72 = .ok (.iconst 2, 1) := by decide +kernel
theorem dX6_sends_73 : decode cX6_sends 73 = .ok (.bipush (-3), 2) := by decide +kernel
theorem dX6_sends_75 : decode cX6_sends 75 = .ok (.invokevirtual 32, 3) := by decide +kernel
theorem dX6_sends_78 : decode cX6_sends 78 = .ok (.ireturn, 1) := by decide +kernel
theorem dX6_sends_79 : decode cX6_sends 79 = .ok (.aload_n 0, 1) := by decide +kernel
theorem dX6_sends_80 : decode cX6_sends 80 = .ok (.iload_n 1, 1) := by decide +kernel
theorem dX6_sends_81 : decode cX6_sends 81 = .ok (.iload_n 3, 1) := by decide +kernel
theorem dX6_sends_82 : decode cX6_sends 82 = .ok (.iload 4, 2) := by decide +kernel
theorem dX6_sends_84 : decode cX6_sends 84 = .ok (.invokevirtual 127, 3) := by decide +kernel
theorem dX6_sends_87 : decode cX6_sends 87 = .ok (.istore 6, 2) := by decide +kernel
theorem dX6_sends_89 : decode cX6_sends 89 = .ok (.iload 6, 2) := by decide +kernel
theorem dX6_sends_91 : decode cX6_sends 91 = .ok (.ifCond .lt 10, 3) := by decide +kernel
theorem dX6_sends_94 : decode cX6_sends 94 = .ok (.sipush 1000, 3) := by decide +kernel
theorem dX6_sends_97 : decode cX6_sends 97 = .ok (.iload 6, 2) := by decide +kernel
theorem dX6_sends_99 : decode cX6_sends 99 = .ok (.iadd, 1) := by decide +kernel
theorem dX6_sends_100 : decode cX6_sends 100 = .ok (.ireturn, 1) := by decide +kernel
theorem dX6_sends_101 : decode cX6_sends 101 = .ok (.iload 4, 2) := by decide +kernel
theorem dX6_sends_103 : decode cX6_sends 103 = .ok (.aload_n 0, 1) := by decide +kernel
theorem dX6_sends_104 : decode cX6_sends 104 = .ok (.iload_n 1, 1) := by decide +kernel
theorem dX6_sends_105 : decode cX6_sends 105 = .ok (.iload_n 3, 1) := by decide +kernel
theorem dX6_sends_106 : decode cX6_sends 106 = .ok (.invokevirtual 130, 3) := by decide +kernel
theorem dX6_sends_109 : decode cX6_sends 109 = .ok (.if_icmp .eq 11, 3) := by decide +kernel
theorem dX6_sends_112 : decode cX6_sends 112 = .ok (.aload_n 0, 1) := by decide +kernel
theorem dX6_sends_113 : decode cX6_sends 113 = .ok (.iconst 3, 1) := by decide +kernel
theorem dX6_sends_114 : decode cX6_sends 114 = .ok (.bipush (-7), 2) := by decide +kernel
theorem dX6_sends_116 : decode cX6_sends 116 = .ok (.invokevirtual 32, 3) := by decide +kernel
theorem dX6_sends_119 : decode cX6_sends 119 = .ok (.ireturn, 1) := by decide +kernel
theorem dX6_sends_120 : decode cX6_sends 120 = .ok (.aload_n 0, 1) := by decide +kernel
theorem dX6_sends_121 : decode cX6_sends 121 = .ok (.iload_n 3, 1) := by decide +kernel
theorem dX6_sends_122 : decode cX6_sends 122 = .ok (.invokevirtual 70, 3) := by decide +kernel
theorem dX6_sends_125 : decode cX6_sends 125 = .ok (.aload_n 0, 1) := by decide +kernel
theorem dX6_sends_126 : decode cX6_sends 126 = .ok (.iload_n 3, 1) := by decide +kernel
theorem dX6_sends_127 : decode cX6_sends 127 = .ok (.invokevirtual 133, 3) := by decide +kernel
theorem dX6_sends_130 : decode cX6_sends 130 = .ok (.iadd, 1) := by decide +kernel
theorem dX6_sends_131 : decode cX6_sends 131 = .ok (.bipush 48, 2) := by decide +kernel
theorem dX6_sends_133 : decode cX6_sends 133 = .ok (.if_icmp .lt 11, 3) := by decide +kernel
theorem dX6_sends_136 : decode cX6_sends 136 = .ok (.aload_n 0, 1) := by decide +kernel
theorem dX6_sends_137 : decode cX6_sends 137 = .ok (.iconst 4, 1) := by decide +kernel
theorem dX6_sends_138 : decode cX6_sends 138 = .ok (.bipush (-4), 2) := by decide +kernel
theorem dX6_sends_140 : decode cX6_sends 140 = .ok (.invokevirtual 32, 3) := by decide +kernel
theorem dX6_sends_143 : decode cX6_sends 143 = .ok (.ireturn, 1) := by decide +kernel
theorem dX6_sends_144 : decode cX6_sends 144 = .ok (.aload_n 0, 1) := by decide +kernel
theorem dX6_sends_145 : decode cX6_sends 145 = .ok (.invokevirtual 115, 3) := by decide +kernel
theorem dX6_sends_148 : decode cX6_sends 148 = .ok (.aload_n 0, 1) := by decide +kernel
theorem dX6_sends_149 : decode cX6_sends 149 = .ok (.iload_n 1, 1) := by decide +kernel
theorem dX6_sends_150 : decode cX6_sends 150 = .ok (.iload_n 3, 1) := by decide +kernel
theorem dX6_sends_151 : decode cX6_sends 151 = .ok (.iload 4, 2) := by decide +kernel
theorem dX6_sends_153 : decode cX6_sends 153 = .ok (.iload 5, 2) := by decide +kernel
theorem dX6_sends_155 : decode cX6_sends 155 = .ok (.invokevirtual 136, 3) := by decide +kernel
theorem dX6_sends_158 : decode cX6_sends 158 = .ok (.ireturn, 1) := by decide +kernel
theorem dX6_ends_0 : decode cX6_ends 0 = .ok (.aload_n 0, 1) := by decide +kernel
theorem dX6_ends_1 : decode cX6_ends 1 = .ok (.iload_n 1, 1) := by decide +kernel
theorem dX6_ends_2 : decode cX6_ends 2 = .ok (.iload_n 2, 1) := by decide +kernel
theorem dX6_ends_3 : decode cX6_ends 3 = .ok (.invokevirtual 118, 3) := by decide +kernel
theorem dX6_ends_6 : decode cX6_ends 6 = .ok (.ifCond .eq 12, 3) := by decide +kernel
theorem dX6_ends_9 : decode cX6_ends 9 = .ok (.iload_n 3, 1) := by decide +kernel
theorem dX6_ends_10 : decode cX6_ends 10 = .ok (.iconst 0, 1) := by decide +kernel
theorem dX6_ends_11 : decode cX6_ends 11 = .ok (.iconst 1, 1) := by decide +kernel
theorem dX6_ends_12 : decode cX6_ends 12 = .ok (.invokestatic 36, 3) := by decide +kernel
theorem dX6_ends_15 : decode cX6_ends 15 = .ok (.ifCond .ne 8, 3) := by decide +kernel
theorem dX6_ends_18 : decode cX6_ends 18 = .ok (.aload_n 0, 1) := by decide +kernel
theorem dX6_ends_19 : decode cX6_ends 19 = .ok (.invokevirtual 111, 3) := by decide +kernel
theorem dX6_ends_22 : decode cX6_ends 22 = .ok (.ireturn, 1) := by decide +kernel
theorem dX6_ends_23 : decode cX6_ends 23 = .ok (.iload_n 2, 1) := by decide +kernel
theorem dX6_ends_24 : decode cX6_ends 24 = .ok (.aload_n 0, 1) := by decide +kernel
theorem dX6_ends_25 : decode cX6_ends 25 = .ok (.iload_n 1, 1) := by decide +kernel
theorem dX6_ends_26 : decode cX6_ends 26 = .ok (.iconst 0, 1) := by decide +kernel
theorem dX6_ends_27 : decode cX6_ends 27 = .ok (.invokevirtual 56, 3) := by decide +kernel
theorem dX6_ends_30 : decode cX6_ends 30 = .ok (.if_icmp .ge 11, 3) := by decide +kernel
theorem dX6_ends_33 : decode cX6_ends 33 = .ok (.aload_n 0, 1) := by decide +kernel
theorem dX6_ends_34 : decode cX6_ends 34 = .ok (.iconst 1, 1) := by decide +kernel
theorem dX6_ends_35 : decode cX6_ends 35 = .ok (.bipush (-6), 2) := by decide +kernel
theorem dX6_ends_37 : decode cX6_ends 37 = .ok (.invokevirtual 32, 3) := by decide +kernel
theorem dX6_ends_40 : decode cX6_ends 40 = .ok (.ireturn, 1) := by decide +kernel
theorem dX6_ends_41 : decode cX6_ends 41 = .ok (.aload_n 0, 1) := by decide +kernel
theorem dX6_ends_42 : decode cX6_ends 42 = .ok (.iload_n 1, 1) := by decide +kernel
theorem dX6_ends_43 : decode cX6_ends 43 = .ok (.iconst 1, 1) := by decide +kernel
theorem dX6_ends_44 : decode cX6_ends 44 = .ok (.invokevirtual 56, 3) := by decide +kernel
theorem dX6_ends_47 : decode cX6_ends 47 = .ok (.iconst 1, 1) := by decide +kernel
theorem dX6_ends_48 : decode cX6_ends 48 = .ok (.if_icmp .eq 11, 3) := by decide +kernel
theorem dX6_ends_51 : decode cX6_ends 51 = .ok (.aload_n 0, 1) := by decide +kernel
theorem dX6_ends_52 : decode cX6_ends 52 = .ok (.iconst 2, 1) := by decide +kernel
theorem dX6_ends_53 : decode cX6_ends 53 = .ok (.bipush (-3), 2) := by decide +kernel
theorem dX6_ends_55 : decode cX6_ends 55 = .ok (.invokevirtual 32, 3) := by decide +kernel
theorem dX6_ends_58 : decode cX6_ends 58 = .ok (.ireturn, 1) := by decide +kernel
theorem dX6_ends_59 : decode cX6_ends 59 = .ok (.aload_n 0, 1) := by decide +kernel
theorem dX6_ends_60 : decode cX6_ends 60 = .ok (.invokevirtual 115, 3) := by decide +kernel
theorem dX6_ends_63 : decode cX6_ends 63 = .ok (.aload_n 0, 1) := by decide +kernel
theorem dX6_ends_64 : decode cX6_ends 64 = .ok (.iload_n 1, 1) := by decide +kernel
theorem dX6_ends_65 : decode cX6_ends 65 = .ok (.iconst 2, 1) := by decide +kernel
theorem dX6_ends_66 : decode cX6_ends 66 = .ok (.invokevirtual 56, 3) := by decide +kernel
theorem dX6_ends_69 : decode cX6_ends 69 = .ok (.invokestatic 140, 3) := by decide +kernel
theorem dX6_ends_72 : decode cX6_ends 72 = .ok (.istore 4, 2) := by decide +kernel
theorem dX6_ends_74 : decode cX6_ends 74 = .ok (.aload_n 0, 1) := by decide +kernel
theorem dX6_ends_75 : decode cX6_ends 75 = .ok (.iload_n 1, 1) := by decide +kernel
theorem dX6_ends_76 : decode cX6_ends 76 = .ok (.iload_n 3, 1) := by decide +kernel
theorem dX6_ends_77 : decode cX6_ends 77 = .ok (.invokevirtual 104, 3) := by decide +kernel
theorem dX6_ends_80 : decode cX6_ends 80 = .ok (.iload 4, 2) := by decide +kernel
theorem dX6_ends_82 : decode cX6_ends 82 = .ok (.ireturn, 1) := by decide +kernel
theorem dX6_carries_0 : decode cX6_carries 0 = .ok (.aload_n 0, 1) := by decide +kernel
theorem dX6_carries_1 : decode cX6_carries 1 = .ok (.iload_n 1, 1) := by decide +kernel
theorem dX6_carries_2 : decode cX6_carries 2 = .ok (.iload_n 2, 1) := by decide +kernel
theorem dX6_carries_3 : decode cX6_carries 3 = .ok (.invokevirtual 118, 3) := by decide +kernel
theorem dX6_carries_6 : decode cX6_carries 6 = .ok (.ifCond .eq 18, 3) := by decide +kernel
theorem dX6_carries_9 : decode cX6_carries 9 = .ok (.iload_n 3, 1) := by decide +kernel
theorem dX6_carries_10 : decode cX6_carries 10 = .ok (.invokestatic 143, 3) := by decide +kernel
theorem dX6_carries_13 : decode cX6_carries 13 = .ok (.ifCond .eq 11, 3) := by decide +kernel
theorem dX6_carries_16 : decode cX6_carries 16 = .ok (.iload 4, 2) := by decide +kernel
theorem dX6_carries_18 : decode cX6_carries 18 = .ok (.invokestatic 124, 3) := by decide +kernel
theorem dX6_carries_21 : decode cX6_carries 21 = .ok (.ifCond .ne 8, 3) := by decide +kernel
theorem dX6_carries_24 : decode cX6_carries 24 = .ok (.aload_n 0, 1) := by decide +kernel
theorem dX6_carries_25 : decode cX6_carries 25 = .ok (.invokevirtual 111, 3) := by decide +kernel
theorem dX6_carries_28 : decode cX6_carries 28 = .ok (.ireturn, 1) := by decide +kernel
theorem dX6_carries_29 : decode cX6_carries 29 = .ok (.iload_n 2, 1) := by decide +kernel
theorem dX6_carries_30 : decode cX6_carries 30 = .ok (.aload_n 0, 1) := by decide +kernel
theorem dX6_carries_31 : decode cX6_carries 31 = .ok (.iload_n 1, 1) := by decide +kernel
theorem dX6_carries_32 : decode cX6_carries 32 = .ok (.iconst 0, 1) := by decide +kernel
theorem dX6_carries_33 : decode cX6_carries 33 = .ok (.invokevirtual 56, 3) := by decide +kernel
theorem dX6_carries_36 : decode cX6_carries 36 = .ok (.if_icmp .ge 11, 3) := by decide +kernel
theorem dX6_carries_39 : decode cX6_carries 39 = .ok (.aload_n 0, 1) := by decide +kernel
theorem dX6_carries_40 : decode cX6_carries 40 = .ok (.iconst 1, 1) := by decide +kernel
theorem dX6_carries_41 : decode cX6_carries 41 = .ok (.bipush (-6), 2) := by decide +kernel
theorem dX6_carries_43 : decode cX6_carries 43 = .ok (.invokevirtual 32, 3) := by decide +kernel
theorem dX6_carries_46 : decode cX6_carries 46 = .ok (.ireturn, 1) := by decide +kernel
theorem dX6_carries_47 : decode cX6_carries 47 = .ok (.aload_n 0, 1) := by decide +kernel
theorem dX6_carries_48 : decode cX6_carries 48 = .ok (.iload_n 1, 1) := by decide +kernel
theorem dX6_carries_49 : decode cX6_carries 49 = .ok (.iconst 1, 1) := by decide +kernel
theorem dX6_carries_50 : decode cX6_carries 50 = .ok (.invokevirtual 56, 3) := by decide +kernel
theorem dX6_carries_53 : decode cX6_carries 53 = .ok (.iconst 1, 1) := by decide +kernel
theorem dX6_carries_54 : decode cX6_carries 54 = .ok (.if_icmp .eq 11, 3) := by decide +kernel
theorem dX6_carries_57 : decode cX6_carries 57 = .ok (.aload_n 0, 1) := by decide +kernel
theorem dX6_carries_58 : decode cX6_carries 58 = .ok (.iconst 2, 1) := by decide +kernel
theorem dX6_carries_59 : decode cX6_carries 59 = .ok (.bipush (-3), 2) := by decide +kernel
theorem dX6_carries_61 : decode cX6_carries 61 = .ok (.invokevirtual 32, 3) := by decide +kernel
theorem dX6_carries_64 : decode cX6_carries 64 = .ok (.ireturn, 1) := by decide +kernel
theorem dX6_carries_65 : decode cX6_carries 65 = .ok (.aload_n 0, 1) := by decide +kernel
theorem dX6_carries_66 : decode cX6_carries 66 = .ok (.invokevirtual 115, 3) := by decide +kernel
theorem dX6_carries_69 : decode cX6_carries 69 = .ok (.aload_n 0, 1) := by decide +kernel
theorem dX6_carries_70 : decode cX6_carries 70 = .ok (.getfield 7, 3) := by decide +kernel
theorem dX6_carries_73 : decode cX6_carries 73 = .ok (.bipush 69, 2) := by decide +kernel
theorem dX6_carries_75 : decode cX6_carries 75 = .ok (.bipush 6, 2) := by decide +kernel
theorem dX6_carries_77 : decode cX6_carries 77 = .ok (.iload_n 3, 1) := by decide +kernel
theorem dX6_carries_78 : decode cX6_carries 78 = .ok (.imul, 1) := by decide +kernel
theorem dX6_carries_79 : decode cX6_carries 79 = .ok (.iadd, 1) := by decide +kernel
theorem dX6_carries_80 : decode cX6_carries 80 = .ok (.iload 4, 2) := by decide +kernel
theorem dX6_carries_82 : decode cX6_carries 82 = .ok (.iadd, 1) := by decide +kernel
theorem dX6_carries_83 : decode cX6_carries 83 = .ok (.iaload, 1) := by decide +kernel
theorem dX6_carries_84 : decode cX6_carries 84 = .ok (.istore 5, 2) := by decide +kernel
theorem dX6_carries_86 : decode cX6_carries 86 = .ok (.aload_n 0, 1) := by decide +kernel
theorem dX6_carries_87 : decode cX6_carries 87 = .ok (.iload_n 1, 1) := by decide +kernel
theorem dX6_carries_88 : decode cX6_carries 88 = .ok (.bipush 10, 2) := by decide +kernel
theorem dX6_carries_90 : decode cX6_carries 90 = .ok (.iconst 3, 1) := by decide +kernel
theorem dX6_carries_91 : decode cX6_carries 91 = .ok (.iload_n 3, 1) := by decide +kernel
theorem dX6_carries_92 : decode cX6_carries 92 = .ok (.imul, 1) := by decide +kernel
theorem dX6_carries_93 : decode cX6_carries 93 = .ok (.iadd, 1) := by decide +kernel
theorem dX6_carries_94 : decode cX6_carries 94 = .ok (.iload 4, 2) := by decide +kernel
theorem dX6_carries_96 : decode cX6_carries 96 = .ok (.iadd, 1) := by decide +kernel
theorem dX6_carries_97 : decode cX6_carries 97 = .ok (.iload 5, 2) := by decide +kernel
theorem dX6_carries_99 : decode cX6_carries 99 = .ok (.invokevirtual 28, 3) := by decide +kernel
theorem dX6_carries_102 : decode cX6_carries 102 = .ok (.iload 5, 2) := by decide +kernel
theorem dX6_carries_104 : decode cX6_carries 104 = .ok (.ireturn, 1) := by decide +kernel
theorem dX6_ticks_0 : decode cX6_ticks 0 = .ok (.iload_n 1, 1) := by decide +kernel
theorem dX6_ticks_1 : decode cX6_ticks 1 = .ok (.iconst 1, 1) := by decide +kernel
theorem dX6_ticks_2 : decode cX6_ticks 2 = .ok (.bipush 20, 2) := by decide +kernel
theorem dX6_ticks_4 : decode cX6_ticks 4 = .ok (.invokestatic 36, 3) := by decide +kernel
theorem dX6_ticks_7 : decode cX6_ticks 7 = .ok (.ifCond .ne 8, 3) := by decide +kernel
theorem dX6_ticks_10 : decode cX6_ticks 10 = .ok (.aload_n 0, 1) := by decide +kernel
theorem dX6_ticks_11 : decode cX6_ticks 11 = .ok (.invokevirtual 111, 3) := by decide +kernel
theorem dX6_ticks_14 : decode cX6_ticks 14 = .ok (.ireturn, 1) := by decide +kernel
theorem dX6_ticks_15 : decode cX6_ticks 15 = .ok (.aload_n 0, 1) := by decide +kernel
theorem dX6_ticks_16 : decode cX6_ticks 16 = .ok (.invokevirtual 115, 3) := by decide +kernel
theorem dX6_ticks_19 : decode cX6_ticks 19 = .ok (.iconst 0, 1) := by decide +kernel
theorem dX6_ticks_20 : decode cX6_ticks 20 = .ok (.istore_n 2, 1) := by decide +kernel
theorem dX6_ticks_21 : decode cX6_ticks 21 = .ok (.iconst 0, 1) := by decide +kernel
theorem dX6_ticks_22 : decode cX6_ticks 22 = .ok (.istore_n 3, 1) := by decide +kernel
theorem dX6_ticks_23 : decode cX6_ticks 23 = .ok (.iload_n 3, 1) := by decide +kernel
theorem dX6_ticks_24 : decode cX6_ticks 24 = .ok (.iload_n 1, 1) := by decide +kernel
theorem dX6_ticks_25 : decode cX6_ticks 25 = .ok (.if_icmp .ge 16, 3) := by decide +kernel
theorem dX6_ticks_28 : decode cX6_ticks 28 = .ok (.iload_n 2, 1) := by decide +kernel
theorem dX6_ticks_29 : decode cX6_ticks 29 = .ok (.aload_n 0, 1) := by decide +kernel
theorem dX6_ticks_30 : decode cX6_ticks 30 = .ok (.invokevirtual 146, 3) := by decide +kernel
theorem dX6_ticks_33 : decode cX6_ticks 33 = .ok (.iadd, 1) := by decide +kernel
theorem dX6_ticks_34 : decode cX6_ticks 34 = .ok (.istore_n 2, 1) := by decide +kernel
theorem dX6_ticks_35 : decode cX6_ticks 35 = .ok (.iinc 3 1, 3) := by decide +kernel
theorem dX6_ticks_38 : decode cX6_ticks 38 = .ok (.goto (-15), 3) := by decide +kernel
theorem dX6_ticks_41 : decode cX6_ticks 41 = .ok (.iload_n 2, 1) := by decide +kernel
theorem dX6_ticks_42 : decode cX6_ticks 42 = .ok (.ireturn, 1) := by decide +kernel
theorem dX6_limit_0 : decode cX6_limit 0 = .ok (.iload_n 1, 1) := by decide +kernel
theorem dX6_limit_1 : decode cX6_limit 1 = .ok (.iconst 1, 1) := by decide +kernel
theorem dX6_limit_2 : decode cX6_limit 2 = .ok (.bipush 20, 2) := by decide +kernel
theorem dX6_limit_4 : decode cX6_limit 4 = .ok (.invokestatic 36, 3) := by decide +kernel
theorem dX6_limit_7 : decode cX6_limit 7 = .ok (.ifCond .ne 8, 3) := by decide +kernel
theorem dX6_limit_10 : decode cX6_limit 10 = .ok (.aload_n 0, 1) := by decide +kernel
theorem dX6_limit_11 : decode cX6_limit 11 = .ok (.invokevirtual 111, 3) := by decide +kernel
theorem dX6_limit_14 : decode cX6_limit 14 = .ok (.ireturn, 1) := by decide +kernel
theorem dX6_limit_15 : decode cX6_limit 15 = .ok (.aload_n 0, 1) := by decide +kernel
theorem dX6_limit_16 : decode cX6_limit 16 = .ok (.invokevirtual 115, 3) := by decide +kernel
theorem dX6_limit_19 : decode cX6_limit 19 = .ok (.aload_n 0, 1) := by decide +kernel
theorem dX6_limit_20 : decode cX6_limit 20 = .ok (.getfield 7, 3) := by decide +kernel
theorem dX6_limit_23 : decode cX6_limit 23 = .ok (.iconst 1, 1) := by decide +kernel
theorem dX6_limit_24 : decode cX6_limit 24 = .ok (.iaload, 1) := by decide +kernel
theorem dX6_limit_25 : decode cX6_limit 25 = .ok (.istore_n 2, 1) := by decide +kernel
theorem dX6_limit_26 : decode cX6_limit 26 = .ok (.aload_n 0, 1) := by decide +kernel
theorem dX6_limit_27 : decode cX6_limit 27 = .ok (.getfield 7, 3) := by decide +kernel
theorem dX6_limit_30 : decode cX6_limit 30 = .ok (.iconst 1, 1) := by decide +kernel
theorem dX6_limit_31 : decode cX6_limit 31 = .ok (.iload_n 1, 1) := by decide +kernel
theorem dX6_limit_32 : decode cX6_limit 32 = .ok (.iastore, 1) := by decide +kernel
theorem dX6_limit_33 : decode cX6_limit 33 = .ok (.iload_n 2, 1) := by decide +kernel
theorem dX6_limit_34 : decode cX6_limit 34 = .ok (.ireturn, 1) := by decide +kernel
theorem dX6_toCome_0 : decode cX6_toCome 0 = .ok (.aload_n 0, 1) := by decide +kernel
theorem dX6_toCome_1 : decode cX6_toCome 1 = .ok (.iload_n 1, 1) := by decide +kernel
theorem dX6_toCome_2 : decode cX6_toCome 2 = .ok (.iconst 1, 1) := by decide +kernel
theorem dX6_toCome_3 : decode cX6_toCome 3 = .ok (.invokevirtual 56, 3) := by decide +kernel
theorem dX6_toCome_6 : decode cX6_toCome 6 = .ok (.iconst 2, 1) := by decide +kernel
theorem dX6_toCome_7 : decode cX6_toCome 7 = .ok (.if_icmp .ne 24, 3) := by decide +kernel
theorem dX6_toCome_10 : decode cX6_toCome 10 = .ok (.aload_n 0, 1) := by decide +kernel
theorem dX6_toCome_11 : decode cX6_toCome 11 = .ok (.iload_n 1, 1) := by decide +kernel
theorem dX6_toCome_12 : decode cX6_toCome 12 = .ok (.iconst 2, 1) := by decide +kernel
theorem dX6_toCome_13 : decode cX6_toCome 13 = .ok (.invokevirtual 56, 3) := by decide +kernel
theorem dX6_toCome_16 : decode cX6_toCome 16 = .ok (.aload_n 0, 1) := by decide +kernel
theorem dX6_toCome_17 : decode cX6_toCome 17 = .ok (.iload_n 1, 1) := by decide +kernel
theorem dX6_toCome_18 : decode cX6_toCome 18 = .ok (.iconst 3, 1) := by decide +kernel
theorem dX6_toCome_19 : decode cX6_toCome 19 = .ok (.invokevirtual 56, 3) := by decide +kernel
theorem dX6_toCome_22 : decode cX6_toCome 22 = .ok (.iconst (-1), 1) := by decide +kernel
theorem dX6_toCome_23 : decode cX6_toCome 23 = .ok (.ixor, 1) := by decide +kernel
theorem dX6_toCome_24 : decode cX6_toCome 24 = .ok (.iand, 1) := by decide +kernel
theorem dX6_toCome_25 : decode cX6_toCome 25 = .ok (.invokestatic 140, 3) := by decide +kernel
theorem dX6_toCome_28 : decode cX6_toCome 28 = .ok (.goto 4, 3) := by decide +kernel
theorem dX6_toCome_31 : decode cX6_toCome 31 = .ok (.iconst 0, 1) := by decide +kernel
theorem dX6_toCome_32 : decode cX6_toCome 32 = .ok (.ireturn, 1) := by decide +kernel
theorem dX6_tellWriter_0 : decode cX6_tellWriter 0 = .ok (.iload_n 2, 1) := by decide +kernel
theorem dX6_tellWriter_1 : decode cX6_tellWriter 1 = .ok (.tableswitch 115 0 5 #[39, 46, 53, 60, 66, 87], 39) := by decide +kernel
theorem dX6_tellWriter_40 : decode cX6_tellWriter 40 = .ok (.aload_n 0, 1) := by decide +kernel
theorem dX6_tellWriter_41 : decode cX6_tellWriter 41 = .ok (.iload_n 1, 1) := by decide +kernel
theorem dX6_tellWriter_42 : decode cX6_tellWriter 42 = .ok (.iconst 0, 1) := by decide +kernel
theorem dX6_tellWriter_43 : decode cX6_tellWriter 43 = .ok (.invokevirtual 56, 3) := by decide +kernel
theorem dX6_tellWriter_46 : decode cX6_tellWriter 46 = .ok (.ireturn, 1) := by decide +kernel
theorem dX6_tellWriter_47 : decode cX6_tellWriter 47 = .ok (.aload_n 0, 1) := by decide +kernel
theorem dX6_tellWriter_48 : decode cX6_tellWriter 48 = .ok (.iload_n 1, 1) := by decide +kernel
theorem dX6_tellWriter_49 : decode cX6_tellWriter 49 = .ok (.iconst 1, 1) := by decide +kernel
theorem dX6_tellWriter_50 : decode cX6_tellWriter 50 = .ok (.invokevirtual 56, 3) := by decide +kernel
theorem dX6_tellWriter_53 : decode cX6_tellWriter 53 = .ok (.ireturn, 1) := by decide +kernel
theorem dX6_tellWriter_54 : decode cX6_tellWriter 54 = .ok (.aload_n 0, 1) := by decide +kernel
theorem dX6_tellWriter_55 : decode cX6_tellWriter 55 = .ok (.iload_n 1, 1) := by decide +kernel
theorem dX6_tellWriter_56 : decode cX6_tellWriter 56 = .ok (.iconst 2, 1) := by decide +kernel
theorem dX6_tellWriter_57 : decode cX6_tellWriter 57 = .ok (.invokevirtual 56, 3) := by decide +kernel
theorem dX6_tellWriter_60 : decode cX6_tellWriter 60 = .ok (.ireturn, 1) := by decide +kernel
theorem dX6_tellWriter_61 : decode cX6_tellWriter 61 = .ok (.aload_n 0, 1) := by decide +kernel
theorem dX6_tellWriter_62 : decode cX6_tellWriter 62 = .ok (.iload_n 1, 1) := by decide +kernel
theorem dX6_tellWriter_63 : decode cX6_tellWriter 63 = .ok (.invokevirtual 149, 3) := by decide +kernel
theorem dX6_tellWriter_66 : decode cX6_tellWriter 66 = .ok (.ireturn, 1) := by decide +kernel
theorem dX6_tellWriter_67 : decode cX6_tellWriter 67 = .ok (.aload_n 0, 1) := by decide +kernel
theorem dX6_tellWriter_68 : decode cX6_tellWriter 68 = .ok (.iload_n 1, 1) := by decide +kernel
theorem dX6_tellWriter_69 : decode cX6_tellWriter 69 = .ok (.iconst 1, 1) := by decide +kernel
theorem dX6_tellWriter_70 : decode cX6_tellWriter 70 = .ok (.invokevirtual 56, 3) := by decide +kernel
theorem dX6_tellWriter_73 : decode cX6_tellWriter 73 = .ok (.iconst 2, 1) := by decide +kernel
theorem dX6_tellWriter_74 : decode cX6_tellWriter 74 = .ok (.if_icmp .ne 12, 3) := by decide +kernel
theorem dX6_tellWriter_77 : decode cX6_tellWriter 77 = .ok (.aload_n 0, 1) := by decide +kernel
theorem dX6_tellWriter_78 : decode cX6_tellWriter 78 = .ok (.iload_n 1, 1) := by decide +kernel
theorem dX6_tellWriter_79 : decode cX6_tellWriter 79 = .ok (.iconst 4, 1) := by decide +kernel
theorem dX6_tellWriter_80 : decode cX6_tellWriter 80 = .ok (.invokevirtual 56, 3) := by decide +kernel
theorem dX6_tellWriter_83 : decode cX6_tellWriter 83 = .ok (.goto 4, 3) := by decide +kernel
theorem dX6_tellWriter_86 : decode cX6_tellWriter 86 = .ok (.iconst 0, 1) := by decide +kernel
theorem dX6_tellWriter_87 : decode cX6_tellWriter 87 = .ok (.ireturn, 1) := by decide +kernel
theorem dX6_tellWriter_88 : decode cX6_tellWriter 88 = .ok (.aload_n 0, 1) := by decide +kernel
theorem dX6_tellWriter_89 : decode cX6_tellWriter 89 = .ok (.iload_n 1, 1) := by decide +kernel
theorem dX6_tellWriter_90 : decode cX6_tellWriter 90 = .ok (.iconst 1, 1) := by decide +kernel
theorem dX6_tellWriter_91 : decode cX6_tellWriter 91 = .ok (.invokevirtual 56, 3) := by decide +kernel
theorem dX6_tellWriter_94 : decode cX6_tellWriter 94 = .ok (.iconst 1, 1) := by decide +kernel
theorem dX6_tellWriter_95 : decode cX6_tellWriter 95 = .ok (.if_icmp .ne 19, 3) := by decide +kernel
theorem dX6_tellWriter_98 : decode cX6_tellWriter 98 = .ok (.aload_n 0, 1) := by decide +kernel
theorem dX6_tellWriter_99 : decode cX6_tellWriter 99 = .ok (.getfield 7, 3) := by decide +kernel
theorem dX6_tellWriter_102 : decode cX6_tellWriter 102 = .ok (.iconst 0, 1) := by decide +kernel
theorem dX6_tellWriter_103 : decode cX6_tellWriter 103 = .ok (.iaload, 1) := by decide +kernel
theorem dX6_tellWriter_104 : decode cX6_tellWriter 104 = .ok (.aload_n 0, 1) := by decide +kernel
theorem dX6_tellWriter_105 : decode cX6_tellWriter 105 = .ok (.iload_n 1, 1) := by decide +kernel
theorem dX6_tellWriter_106 : decode cX6_tellWriter 106 = .ok (.iconst 5, 1) := by decide +kernel
theorem dX6_tellWriter_107 : decode cX6_tellWriter 107 = .ok (.invokevirtual 56, 3) := by decide +kernel
theorem dX6_tellWriter_110 : decode cX6_tellWriter 110 = .ok (.isub, 1) := by decide +kernel
theorem dX6_tellWriter_111 : decode cX6_tellWriter 111 = .ok (.goto 4, 3) := by decide +kernel
theorem dX6_tellWriter_114 : decode cX6_tellWriter 114 = .ok (.iconst (-1), 1) := by decide +kernel
theorem dX6_tellWriter_115 : decode cX6_tellWriter 115 = .ok (.ireturn, 1) := by decide +kernel
theorem dX6_tellWriter_116 : decode cX6_tellWriter 116 = .ok (.aload_n 0, 1) := by decide +kernel
theorem dX6_tellWriter_117 : decode cX6_tellWriter 117 = .ok (.iload_n 1, 1) := by decide +kernel
theorem dX6_tellWriter_118 : decode cX6_tellWriter 118 = .ok (.iload_n 2, 1) := by decide +kernel
theorem dX6_tellWriter_119 : decode cX6_tellWriter 119 = .ok (.bipush 6, 2) := by decide +kernel
theorem dX6_tellWriter_121 : decode cX6_tellWriter 121 = .ok (.isub, 1) := by decide +kernel
theorem dX6_tellWriter_122 : decode cX6_tellWriter 122 = .ok (.invokevirtual 130, 3) := by decide +kernel
theorem dX6_tellWriter_125 : decode cX6_tellWriter 125 = .ok (.ireturn, 1) := by decide +kernel
theorem dX6_writer_0 : decode cX6_writer 0 = .ok (.iload_n 1, 1) := by decide +kernel
theorem dX6_writer_1 : decode cX6_writer 1 = .ok (.invokestatic 107, 3) := by decide +kernel
theorem dX6_writer_4 : decode cX6_writer 4 = .ok (.ifCond .eq 22, 3) := by decide +kernel
theorem dX6_writer_7 : decode cX6_writer 7 = .ok (.iload_n 2, 1) := by decide +kernel
theorem dX6_writer_8 : decode cX6_writer 8 = .ok (.iconst 0, 1) := by decide +kernel
theorem dX6_writer_9 : decode cX6_writer 9 = .ok (.bipush 8, 2) := by decide +kernel
theorem dX6_writer_11 : decode cX6_writer 11 = .ok (.invokestatic 36, 3) := by decide +kernel
theorem dX6_writer_14 : decode cX6_writer 14 = .ok (.ifCond .eq 12, 3) := by decide +kernel
theorem dX6_writer_17 : decode cX6_writer 17 = .ok (.aload_n 0, 1) := by decide +kernel
theorem dX6_writer_18 : decode cX6_writer 18 = .ok (.iload_n 1, 1) := by decide +kernel
theorem dX6_writer_19 : decode cX6_writer 19 = .ok (.iload_n 2, 1) := by decide +kernel
theorem dX6_writer_20 : decode cX6_writer 20 = .ok (.invokevirtual 152, 3) := by decide +kernel
theorem dX6_writer_23 : decode cX6_writer 23 = .ok (.goto 7, 3) := by decide +kernel
theorem dX6_writer_26 : decode cX6_writer 26 = .ok (.aload_n 0, 1) := by decide +kernel
theorem dX6_writer_27 : decode cX6_writer 27 = .ok (.invokevirtual 111, 3) := by decide +kernel
theorem dX6_writer_30 : decode cX6_writer 30 = .ok (.ireturn, 1) := by decide +kernel
theorem dX6_tellEntry_0 : decode cX6_tellEntry 0 = .ok (.aload_n 0, 1) := by decide +kernel
theorem dX6_tellEntry_1 : decode cX6_tellEntry 1 = .ok (.iload_n 1, 1) := by decide +kernel
theorem dX6_tellEntry_2 : decode cX6_tellEntry 2 = .ok (.iload_n 2, 1) := by decide +kernel
theorem dX6_tellEntry_3 : decode cX6_tellEntry 3 = .ok (.iconst 0, 1) := by decide +kernel
theorem dX6_tellEntry_4 : decode cX6_tellEntry 4 = .ok (.invokevirtual 73, 3) := by decide +kernel
theorem dX6_tellEntry_7 : decode cX6_tellEntry 7 = .ok (.iconst 1, 1) := by decide +kernel
theorem dX6_tellEntry_8 : decode cX6_tellEntry 8 = .ok (.if_icmp .ne 7, 3) := by decide +kernel
theorem dX6_tellEntry_11 : decode cX6_tellEntry 11 = .ok (.iconst 1, 1) := by decide +kernel
theorem dX6_tellEntry_12 : decode cX6_tellEntry 12 = .ok (.goto 4, 3) := by decide +kernel
theorem dX6_tellEntry_15 : decode cX6_tellEntry 15 = .ok (.iconst 0, 1) := by decide +kernel
theorem dX6_tellEntry_16 : decode cX6_tellEntry 16 = .ok (.istore 4, 2) := by decide +kernel
theorem dX6_tellEntry_18 : decode cX6_tellEntry 18 = .ok (.iload_n 3, 1) := by decide +kernel
theorem dX6_tellEntry_19 : decode cX6_tellEntry 19 = .ok (.lookupswitch 62 #[(5, 25), (6, 42)], 25) := by decide +kernel
theorem dX6_tellEntry_44 : decode cX6_tellEntry 44 = .ok (.iload 4, 2) := by decide +kernel
theorem dX6_tellEntry_46 : decode cX6_tellEntry 46 = .ok (.ifCond .eq 7, 3) := by decide +kernel
theorem dX6_tellEntry_49 : decode cX6_tellEntry 49 = .ok (.iconst (-1), 1) := by decide +kernel
theorem dX6_tellEntry_50 : decode cX6_tellEntry 50 = .ok (.goto 10, 3) := by decide +kernel
theorem dX6_tellEntry_53 : decode cX6_tellEntry 53 = .ok (.aload_n 0, 1) := by decide +kernel
theorem dX6_tellEntry_54 : decode cX6_tellEntry 54 = .ok (.iload_n 1, 1) := by decide +kernel
theorem dX6_tellEntry_55 : decode cX6_tellEntry 55 = .ok (.iload_n 2, 1) := by decide +kernel
theorem dX6_tellEntry_56 : decode cX6_tellEntry 56 = .ok (.iconst 5, 1) := by decide +kernel
theorem dX6_tellEntry_57 : decode cX6_tellEntry 57 = .ok (.invokevirtual 73, 3) := by decide +kernel
theorem dX6_tellEntry_60 : decode cX6_tellEntry 60 = .ok (.ireturn, 1) := by decide +kernel
theorem dX6_tellEntry_61 : decode cX6_tellEntry 61 = .ok (.aload_n 0, 1) := by decide +kernel
theorem dX6_tellEntry_62 : decode cX6_tellEntry 62 = .ok (.iload_n 1, 1) := by decide +kernel
theorem dX6_tellEntry_63 : decode cX6_tellEntry 63 = .ok (.iload_n 2, 1) := by decide +kernel
theorem dX6_tellEntry_64 : decode cX6_tellEntry 64 = .ok (.aload_n 0, 1) := by decide +kernel
theorem dX6_tellEntry_65 : decode cX6_tellEntry 65 = .ok (.iload_n 1, 1) := by decide +kernel
theorem dX6_tellEntry_66 : decode cX6_tellEntry 66 = .ok (.invokevirtual 77, 3) := by decide +kernel
theorem dX6_tellEntry_69 : decode cX6_tellEntry 69 = .ok (.invokevirtual 80, 3) := by decide +kernel
theorem dX6_tellEntry_72 : decode cX6_tellEntry 72 = .ok (.ifCond .eq 7, 3) := by decide +kernel
theorem dX6_tellEntry_75 : decode cX6_tellEntry 75 = .ok (.iconst 1, 1) := by decide +kernel
theorem dX6_tellEntry_76 : decode cX6_tellEntry 76 = .ok (.goto 4, 3) := by decide +kernel
theorem dX6_tellEntry_79 : decode cX6_tellEntry 79 = .ok (.iconst 0, 1) := by decide +kernel
theorem dX6_tellEntry_80 : decode cX6_tellEntry 80 = .ok (.ireturn, 1) := by decide +kernel
theorem dX6_tellEntry_81 : decode cX6_tellEntry 81 = .ok (.aload_n 0, 1) := by decide +kernel
theorem dX6_tellEntry_82 : decode cX6_tellEntry 82 = .ok (.iload_n 1, 1) := by decide +kernel
theorem dX6_tellEntry_83 : decode cX6_tellEntry 83 = .ok (.iload_n 2, 1) := by decide +kernel
theorem dX6_tellEntry_84 : decode cX6_tellEntry 84 = .ok (.iload_n 3, 1) := by decide +kernel
theorem dX6_tellEntry_85 : decode cX6_tellEntry 85 = .ok (.invokevirtual 73, 3) := by decide +kernel
theorem dX6_tellEntry_88 : decode cX6_tellEntry 88 = .ok (.ireturn, 1) := by decide +kernel
theorem dX6_entry_0 : decode cX6_entry 0 = .ok (.iload_n 1, 1) := by decide +kernel
theorem dX6_entry_1 : decode cX6_entry 1 = .ok (.invokestatic 124, 3) := by decide +kernel
theorem dX6_entry_4 : decode cX6_entry 4 = .ok (.ifCond .eq 28, 3) := by decide +kernel
theorem dX6_entry_7 : decode cX6_entry 7 = .ok (.iload_n 2, 1) := by decide +kernel
theorem dX6_entry_8 : decode cX6_entry 8 = .ok (.iconst 0, 1) := by decide +kernel
theorem dX6_entry_9 : decode cX6_entry 9 = .ok (.aload_n 0, 1) := by decide +kernel
theorem dX6_entry_10 : decode cX6_entry 10 = .ok (.iload_n 1, 1) := by decide +kernel
theorem dX6_entry_11 : decode cX6_entry 11 = .ok (.invokevirtual 70, 3) := by decide +kernel
theorem dX6_entry_14 : decode cX6_entry 14 = .ok (.iconst 1, 1) := by decide +kernel
theorem dX6_entry_15 : decode cX6_entry 15 = .ok (.isub, 1) := by decide +kernel
theorem dX6_entry_16 : decode cX6_entry 16 = .ok (.invokestatic 36, 3) := by decide +kernel
theorem dX6_entry_19 : decode cX6_entry 19 = .ok (.ifCond .eq 13, 3) := by decide +kernel
theorem dX6_entry_22 : decode cX6_entry 22 = .ok (.iload_n 3, 1) := by decide +kernel
theorem dX6_entry_23 : decode cX6_entry 23 = .ok (.iconst 0, 1) := by decide +kernel
theorem dX6_entry_24 : decode cX6_entry 24 = .ok (.bipush 6, 2) := by decide +kernel
theorem dX6_entry_26 : decode cX6_entry 26 = .ok (.invokestatic 36, 3) := by decide +kernel
theorem dX6_entry_29 : decode cX6_entry 29 = .ok (.ifCond .ne 8, 3) := by decide +kernel
theorem dX6_entry_32 : decode cX6_entry 32 = .ok (.aload_n 0, 1) := by decide +kernel
theorem dX6_entry_33 : decode cX6_entry 33 = .ok (.invokevirtual 111, 3) := by decide +kernel
theorem dX6_entry_36 : decode cX6_entry 36 = .ok (.ireturn, 1) := by decide +kernel
theorem dX6_entry_37 : decode cX6_entry 37 = .ok (.aload_n 0, 1) := by decide +kernel
theorem dX6_entry_38 : decode cX6_entry 38 = .ok (.iload_n 1, 1) := by decide +kernel
theorem dX6_entry_39 : decode cX6_entry 39 = .ok (.iload_n 2, 1) := by decide +kernel
theorem dX6_entry_40 : decode cX6_entry 40 = .ok (.iload_n 3, 1) := by decide +kernel
theorem dX6_entry_41 : decode cX6_entry 41 = .ok (.invokevirtual 155, 3) := by decide +kernel
theorem dX6_entry_44 : decode cX6_entry 44 = .ok (.ireturn, 1) := by decide +kernel
theorem dX6_isAbort_0 : decode cX6_isAbort 0 = .ok (.aload_n 0, 1) := by decide +kernel
theorem dX6_isAbort_1 : decode cX6_isAbort 1 = .ok (.iload_n 1, 1) := by decide +kernel
theorem dX6_isAbort_2 : decode cX6_isAbort 2 = .ok (.iload_n 2, 1) := by decide +kernel
theorem dX6_isAbort_3 : decode cX6_isAbort 3 = .ok (.iconst 0, 1) := by decide +kernel
theorem dX6_isAbort_4 : decode cX6_isAbort 4 = .ok (.invokevirtual 73, 3) := by decide +kernel
theorem dX6_isAbort_7 : decode cX6_isAbort 7 = .ok (.iconst 1, 1) := by decide +kernel
theorem dX6_isAbort_8 : decode cX6_isAbort 8 = .ok (.if_icmp .ne 17, 3) := by decide +kernel
theorem dX6_isAbort_11 : decode cX6_isAbort 11 = .ok (.aload_n 0, 1) := by decide +kernel
theorem dX6_isAbort_12 : decode cX6_isAbort 12 = .ok (.iload_n 1, 1) := by decide +kernel
theorem dX6_isAbort_13 : decode cX6_isAbort 13 = .ok (.iload_n 2, 1) := by decide +kernel
theorem dX6_isAbort_14 : decode cX6_isAbort 14 = .ok (.iconst 4, 1) := by decide +kernel
theorem dX6_isAbort_15 : decode cX6_isAbort 15 = .ok (.invokevirtual 73, 3) := by decide +kernel
theorem dX6_isAbort_18 : decode cX6_isAbort 18 = .ok (.ifCond .ne 7, 3) := by decide +kernel
theorem dX6_isAbort_21 : decode cX6_isAbort 21 = .ok (.iconst 1, 1) := by decide +kernel
theorem dX6_isAbort_22 : decode cX6_isAbort 22 = .ok (.goto 4, 3) := by decide +kernel
theorem dX6_isAbort_25 : decode cX6_isAbort 25 = .ok (.iconst 0, 1) := by decide +kernel
theorem dX6_isAbort_26 : decode cX6_isAbort 26 = .ok (.ireturn, 1) := by decide +kernel
theorem dX6_marksIn_0 : decode cX6_marksIn 0 = .ok (.iconst 0, 1) := by decide +kernel
theorem dX6_marksIn_1 : decode cX6_marksIn 1 = .ok (.istore_n 3, 1) := by decide +kernel
theorem dX6_marksIn_2 : decode cX6_marksIn 2 = .ok (.iconst 0, 1) := by decide +kernel
theorem dX6_marksIn_3 : decode cX6_marksIn 3 = .ok (.istore 4, 2) := by decide +kernel
theorem dX6_marksIn_5 : decode cX6_marksIn 5 = .ok (.iload 4, 2) := by decide +kernel
theorem dX6_marksIn_7 : decode cX6_marksIn 7 = .ok (.aload_n 0, 1) := by decide +kernel
theorem dX6_marksIn_8 : decode cX6_marksIn 8 = .ok (.iload_n 1, 1) := by decide +kernel
theorem dX6_marksIn_9 : decode cX6_marksIn 9 = .ok (.invokevirtual 70, 3) := by decide +kernel
theorem dX6_marksIn_12 : decode cX6_marksIn 12 = .ok (.if_icmp .ge 43, 3) := by decide +kernel
theorem dX6_marksIn_15 : decode cX6_marksIn 15 = .ok (.iload_n 3, 1) := by decide +kernel
theorem dX6_marksIn_16 : decode cX6_marksIn 16 = .ok (.aload_n 0, 1) := by decide +kernel
theorem dX6_marksIn_17 : decode cX6_marksIn 17 = .ok (.iload_n 1, 1) := by decide +kernel
theorem dX6_marksIn_18 : decode cX6_marksIn 18 = .ok (.iload 4, 2) := by decide +kernel
theorem dX6_marksIn_20 : decode cX6_marksIn 20 = .ok (.iconst 0, 1) := by decide +kernel
theorem dX6_marksIn_21 : decode cX6_marksIn 21 = .ok (.invokevirtual 73, 3) := by decide +kernel
theorem dX6_marksIn_24 : decode cX6_marksIn 24 = .ok (.iconst 1, 1) := by decide +kernel
theorem dX6_marksIn_25 : decode cX6_marksIn 25 = .ok (.if_icmp .ne 21, 3) := by decide +kernel
theorem dX6_marksIn_28 : decode cX6_marksIn 28 = .ok (.iload_n 2, 1) := by decide +kernel
theorem dX6_marksIn_29 : decode cX6_marksIn 29 = .ok (.ifCond .eq 13, 3) := by decide +kernel
theorem dX6_marksIn_32 : decode cX6_marksIn 32 = .ok (.aload_n 0, 1) := by decide +kernel
theorem dX6_marksIn_33 : decode cX6_marksIn 33 = .ok (.iload_n 1, 1) := by decide +kernel
theorem dX6_marksIn_34 : decode cX6_marksIn 34 = .ok (.iload 4, 2) := by decide +kernel
theorem dX6_marksIn_36 : decode cX6_marksIn 36 = .ok (.invokevirtual 158, 3) := by decide +kernel
theorem dX6_marksIn_39 : decode cX6_marksIn 39 = .ok (.ifCond .eq 7, 3) := by decide +kernel
theorem dX6_marksIn_42 : decode cX6_marksIn 42 = .ok (.iconst 1, 1) := by decide +kernel
theorem dX6_marksIn_43 : decode cX6_marksIn 43 = .ok (.goto 4, 3) := by decide +kernel
theorem dX6_marksIn_46 : decode cX6_marksIn 46 = .ok (.iconst 0, 1) := by decide +kernel
theorem dX6_marksIn_47 : decode cX6_marksIn 47 = .ok (.iadd, 1) := by decide +kernel
theorem dX6_marksIn_48 : decode cX6_marksIn 48 = .ok (.istore_n 3, 1) := by decide +kernel
theorem dX6_marksIn_49 : decode cX6_marksIn 49 = .ok (.iinc 4 1, 3) := by decide +kernel
theorem dX6_marksIn_52 : decode cX6_marksIn 52 = .ok (.goto (-47), 3) := by decide +kernel
theorem dX6_marksIn_55 : decode cX6_marksIn 55 = .ok (.iload_n 3, 1) := by decide +kernel
theorem dX6_marksIn_56 : decode cX6_marksIn 56 = .ok (.ireturn, 1) := by decide +kernel
theorem dX6_tellPart_0 : decode cX6_tellPart 0 = .ok (.iload_n 2, 1) := by decide +kernel
theorem dX6_tellPart_1 : decode cX6_tellPart 1 = .ok (.tableswitch 66 0 4 #[35, 41, 47, 54, 60], 35) := by decide +kernel
theorem dX6_tellPart_36 : decode cX6_tellPart 36 = .ok (.aload_n 0, 1) := by decide +kernel
theorem dX6_tellPart_37 : decode cX6_tellPart 37 = .ok (.iload_n 1, 1) := by decide +kernel
theorem dX6_tellPart_38 : decode cX6_tellPart 38 = .ok (.invokevirtual 70, 3) := by decide +kernel
theorem dX6_tellPart_41 : decode cX6_tellPart 41 = .ok (.ireturn, 1) := by decide +kernel
theorem dX6_tellPart_42 : decode cX6_tellPart 42 = .ok (.aload_n 0, 1) := by decide +kernel
theorem dX6_tellPart_43 : decode cX6_tellPart 43 = .ok (.iload_n 1, 1) := by decide +kernel
theorem dX6_tellPart_44 : decode cX6_tellPart 44 = .ok (.invokevirtual 77, 3) := by decide +kernel
theorem dX6_tellPart_47 : decode cX6_tellPart 47 = .ok (.ireturn, 1) := by decide +kernel
theorem dX6_tellPart_48 : decode cX6_tellPart 48 = .ok (.aload_n 0, 1) := by decide +kernel
theorem dX6_tellPart_49 : decode cX6_tellPart 49 = .ok (.iload_n 1, 1) := by decide +kernel
theorem dX6_tellPart_50 : decode cX6_tellPart 50 = .ok (.iconst 0, 1) := by decide +kernel
theorem dX6_tellPart_51 : decode cX6_tellPart 51 = .ok (.invokevirtual 161, 3) := by decide +kernel
theorem dX6_tellPart_54 : decode cX6_tellPart 54 = .ok (.ireturn, 1) := by decide +kernel
theorem dX6_tellPart_55 : decode cX6_tellPart 55 = .ok (.aload_n 0, 1) := by decide +kernel
theorem dX6_tellPart_56 : decode cX6_tellPart 56 = .ok (.iload_n 1, 1) := by decide +kernel
theorem dX6_tellPart_57 : decode cX6_tellPart 57 = .ok (.invokevirtual 133, 3) := by decide +kernel
theorem dX6_tellPart_60 : decode cX6_tellPart 60 = .ok (.ireturn, 1) := by decide +kernel
theorem dX6_tellPart_61 : decode cX6_tellPart 61 = .ok (.aload_n 0, 1) := by decide +kernel
theorem dX6_tellPart_62 : decode cX6_tellPart 62 = .ok (.iload_n 1, 1) := by decide +kernel
theorem dX6_tellPart_63 : decode cX6_tellPart 63 = .ok (.invokevirtual 66, 3) := by decide +kernel
theorem dX6_tellPart_66 : decode cX6_tellPart 66 = .ok (.ireturn, 1) := by decide +kernel
theorem dX6_tellPart_67 : decode cX6_tellPart 67 = .ok (.aload_n 0, 1) := by decide +kernel
theorem dX6_tellPart_68 : decode cX6_tellPart 68 = .ok (.iload_n 1, 1) := by decide +kernel
theorem dX6_tellPart_69 : decode cX6_tellPart 69 = .ok (.iconst 1, 1) := by decide +kernel
theorem dX6_tellPart_70 : decode cX6_tellPart 70 = .ok (.invokevirtual 164, 3) := by decide +kernel
theorem dX6_tellPart_73 : decode cX6_tellPart 73 = .ok (.ireturn, 1) := by decide +kernel
theorem dX6_part_0 : decode cX6_part 0 = .ok (.iload_n 1, 1) := by decide +kernel
theorem dX6_part_1 : decode cX6_part 1 = .ok (.invokestatic 124, 3) := by decide +kernel
theorem dX6_part_4 : decode cX6_part 4 = .ok (.ifCond .eq 21, 3) := by decide +kernel
theorem dX6_part_7 : decode cX6_part 7 = .ok (.iload_n 2, 1) := by decide +kernel
theorem dX6_part_8 : decode cX6_part 8 = .ok (.iconst 0, 1) := by decide +kernel
theorem dX6_part_9 : decode cX6_part 9 = .ok (.iconst 5, 1) := by decide +kernel
theorem dX6_part_10 : decode cX6_part 10 = .ok (.invokestatic 36, 3) := by decide +kernel
theorem dX6_part_13 : decode cX6_part 13 = .ok (.ifCond .eq 12, 3) := by decide +kernel
theorem dX6_part_16 : decode cX6_part 16 = .ok (.aload_n 0, 1) := by decide +kernel
theorem dX6_part_17 : decode cX6_part 17 = .ok (.iload_n 1, 1) := by decide +kernel
theorem dX6_part_18 : decode cX6_part 18 = .ok (.iload_n 2, 1) := by decide +kernel
theorem dX6_part_19 : decode cX6_part 19 = .ok (.invokevirtual 168, 3) := by decide +kernel
theorem dX6_part_22 : decode cX6_part 22 = .ok (.goto 7, 3) := by decide +kernel
theorem dX6_part_25 : decode cX6_part 25 = .ok (.aload_n 0, 1) := by decide +kernel
theorem dX6_part_26 : decode cX6_part 26 = .ok (.invokevirtual 111, 3) := by decide +kernel
theorem dX6_part_29 : decode cX6_part 29 = .ok (.ireturn, 1) := by decide +kernel
theorem dX6_aheadOf_0 : decode cX6_aheadOf 0 = .ok (.iconst 0, 1) := by decide +kernel
theorem dX6_aheadOf_1 : decode cX6_aheadOf 1 = .ok (.istore_n 3, 1) := by decide +kernel
theorem dX6_aheadOf_2 : decode cX6_aheadOf 2 = .ok (.iconst 0, 1) := by decide +kernel
theorem dX6_aheadOf_3 : decode cX6_aheadOf 3 = .ok (.istore 4, 2) := by decide +kernel
theorem dX6_aheadOf_5 : decode cX6_aheadOf 5 = .ok (.iload 4, 2) := by decide +kernel
theorem dX6_aheadOf_7 : decode cX6_aheadOf 7 = .ok (.aload_n 0, 1) := by decide +kernel
theorem dX6_aheadOf_8 : decode cX6_aheadOf 8 = .ok (.iload_n 1, 1) := by decide +kernel
theorem dX6_aheadOf_9 : decode cX6_aheadOf 9 = .ok (.invokevirtual 70, 3) := by decide +kernel
theorem dX6_aheadOf_12 : decode cX6_aheadOf 12 = .ok (.if_icmp .ge 45, 3) := by decide +kernel
theorem dX6_aheadOf_15 : decode cX6_aheadOf 15 = .ok (.iload_n 3, 1) := by decide +kernel
theorem dX6_aheadOf_16 : decode cX6_aheadOf 16 = .ok (.aload_n 0, 1) := by decide +kernel
theorem dX6_aheadOf_17 : decode cX6_aheadOf 17 = .ok (.iload_n 1, 1) := by decide +kernel
theorem dX6_aheadOf_18 : decode cX6_aheadOf 18 = .ok (.iload 4, 2) := by decide +kernel
theorem dX6_aheadOf_20 : decode cX6_aheadOf 20 = .ok (.invokevirtual 158, 3) := by decide +kernel
theorem dX6_aheadOf_23 : decode cX6_aheadOf 23 = .ok (.ifCond .eq 25, 3) := by decide +kernel
theorem dX6_aheadOf_26 : decode cX6_aheadOf 26 = .ok (.aload_n 0, 1) := by decide +kernel
theorem dX6_aheadOf_27 : decode cX6_aheadOf 27 = .ok (.iload_n 1, 1) := by decide +kernel
theorem dX6_aheadOf_28 : decode cX6_aheadOf 28 = .ok (.iload 4, 2) := by decide +kernel
theorem dX6_aheadOf_30 : decode cX6_aheadOf 30 = .ok (.iconst 5, 1) := by decide +kernel
theorem dX6_aheadOf_31 : decode cX6_aheadOf 31 = .ok (.invokevirtual 73, 3) := by decide +kernel
theorem dX6_aheadOf_34 : decode cX6_aheadOf 34 = .ok (.aload_n 0, 1) := by decide +kernel
theorem dX6_aheadOf_35 : decode cX6_aheadOf 35 = .ok (.iload_n 1, 1) := by decide +kernel
theorem dX6_aheadOf_36 : decode cX6_aheadOf 36 = .ok (.iload_n 2, 1) := by decide +kernel
theorem dX6_aheadOf_37 : decode cX6_aheadOf 37 = .ok (.iconst 5, 1) := by decide +kernel
theorem dX6_aheadOf_38 : decode cX6_aheadOf 38 = .ok (.invokevirtual 73, 3) := by decide +kernel
theorem dX6_aheadOf_41 : decode cX6_aheadOf 41 = .ok (.if_icmp .ge 7, 3) := by decide +kernel
theorem dX6_aheadOf_44 : decode cX6_aheadOf 44 = .ok (.iconst 1, 1) := by decide +kernel
theorem dX6_aheadOf_45 : decode cX6_aheadOf 45 = .ok (.goto 4, 3) := by decide +kernel
theorem dX6_aheadOf_48 : decode cX6_aheadOf 48 = .ok (.iconst 0, 1) := by decide +kernel
theorem dX6_aheadOf_49 : decode cX6_aheadOf 49 = .ok (.iadd, 1) := by decide +kernel
theorem dX6_aheadOf_50 : decode cX6_aheadOf 50 = .ok (.istore_n 3, 1) := by decide +kernel
theorem dX6_aheadOf_51 : decode cX6_aheadOf 51 = .ok (.iinc 4 1, 3) := by decide +kernel
theorem dX6_aheadOf_54 : decode cX6_aheadOf 54 = .ok (.goto (-49), 3) := by decide +kernel
theorem dX6_aheadOf_57 : decode cX6_aheadOf 57 = .ok (.iload_n 3, 1) := by decide +kernel
theorem dX6_aheadOf_58 : decode cX6_aheadOf 58 = .ok (.ireturn, 1) := by decide +kernel
theorem dX6_tellAborted_0 : decode cX6_tellAborted 0 = .ok (.iconst 0, 1) := by decide +kernel
theorem dX6_tellAborted_1 : decode cX6_tellAborted 1 = .ok (.istore 4, 2) := by decide +kernel
theorem dX6_tellAborted_3 : decode cX6_tellAborted 3 = .ok (.iload 4, 2) := by decide +kernel
theorem dX6_tellAborted_5 : decode cX6_tellAborted 5 = .ok (.aload_n 0, 1) := by decide +kernel
theorem dX6_tellAborted_6 : decode cX6_tellAborted 6 = .ok (.iload_n 1, 1) := by decide +kernel
theorem dX6_tellAborted_7 : decode cX6_tellAborted 7 = .ok (.invokevirtual 70, 3) := by decide +kernel
theorem dX6_tellAborted_10 : decode cX6_tellAborted 10 = .ok (.if_icmp .ge 64, 3) := by decide +kernel
theorem dX6_tellAborted_13 : decode cX6_tellAborted 13 = .ok (.aload_n 0, 1) := by decide +kernel
theorem dX6_tellAborted_14 : decode cX6_tellAborted 14 = .ok (.iload_n 1, 1) := by decide +kernel
theorem dX6_tellAborted_15 : decode cX6_tellAborted 15 = .ok (.iload 4, 2) := by decide +kernel
theorem dX6_tellAborted_17 : decode cX6_tellAborted 17 = .ok (.invokevirtual 158, 3) := by decide +kernel
theorem dX6_tellAborted_20 : decode cX6_tellAborted 20 = .ok (.ifCond .eq 48, 3) := by decide +kernel
theorem dX6_tellAborted_23 : decode cX6_tellAborted 23 = .ok (.aload_n 0, 1) := by decide +kernel
theorem dX6_tellAborted_24 : decode cX6_tellAborted 24 = .ok (.iload_n 1, 1) := by decide +kernel
theorem dX6_tellAborted_25 : decode cX6_tellAborted 25 = .ok (.iload 4, 2) := by decide +kernel
theorem dX6_tellAborted_27 : decode cX6_tellAborted 27 = .ok (.invokevirtual 171, 3) := by decide +kernel
theorem dX6_tellAborted_30 : decode cX6_tellAborted 30 = .ok (.iload_n 2, 1) := by decide +kernel
theorem dX6_tellAborted_31 : decode cX6_tellAborted 31 = .ok (.if_icmp .ne 37, 3) := by decide +kernel
theorem dX6_tellAborted_34 : decode cX6_tellAborted 34 = .ok (.iload_n 3, 1) := by decide +kernel
theorem dX6_tellAborted_35 : decode cX6_tellAborted 35 = .ok (.ifCond .ne 14, 3) := by decide +kernel
theorem dX6_tellAborted_38 : decode cX6_tellAborted 38 = .ok (.aload_n 0, 1) := by decide +kernel
theorem dX6_tellAborted_39 : decode cX6_tellAborted 39 = .ok (.iload_n 1, 1) := by decide +kernel
theorem dX6_tellAborted_40 : decode cX6_tellAborted 40 = .ok (.iload 4, 2) := by decide +kernel
theorem dX6_tellAborted_42 : decode cX6_tellAborted 42 = .ok (.iconst 1, 1) := by decide +kernel
theorem dX6_tellAborted_43 : decode cX6_tellAborted 43 = .ok (.invokevirtual 73, 3) := by decide +kernel
theorem dX6_tellAborted_46 : decode cX6_tellAborted 46 = .ok (.goto 21, 3) := by decide +kernel
theorem dX6_tellAborted_49 : decode cX6_tellAborted 49 = .ok (.iload_n 3, 1) := by decide +kernel
theorem dX6_tellAborted_50 : decode cX6_tellAborted 50 = .ok (.iconst 1, 1) := by decide +kernel
theorem dX6_tellAborted_51 : decode cX6_tellAborted 51 = .ok (.if_icmp .ne 14, 3) := by decide +kernel
theorem dX6_tellAborted_54 : decode cX6_tellAborted 54 = .ok (.aload_n 0, 1) := by decide +kernel
theorem dX6_tellAborted_55 : decode cX6_tellAborted 55 = .ok (.iload_n 1, 1) := by decide +kernel
theorem dX6_tellAborted_56 : decode cX6_tellAborted 56 = .ok (.iload 4, 2) := by decide +kernel
theorem dX6_tellAborted_58 : decode cX6_tellAborted 58 = .ok (.iconst 5, 1) := by decide +kernel
theorem dX6_tellAborted_59 : decode cX6_tellAborted 59 = .ok (.invokevirtual 73, 3) := by decide +kernel
theorem dX6_tellAborted_62 : decode cX6_tellAborted 62 = .ok (.goto 5, 3) := by decide +kernel
theorem dX6_tellAborted_65 : decode cX6_tellAborted 65 = .ok (.iload 4, 2) := by decide +kernel
theorem dX6_tellAborted_67 : decode cX6_tellAborted 67 = .ok (.ireturn, 1) := by decide +kernel
theorem dX6_tellAborted_68 : decode cX6_tellAborted 68 = .ok (.iinc 4 1, 3) := by decide +kernel
theorem dX6_tellAborted_71 : decode cX6_tellAborted 71 = .ok (.goto (-68), 3) := by decide +kernel
theorem dX6_tellAborted_74 : decode cX6_tellAborted 74 = .ok (.iconst (-1), 1) := by decide +kernel
theorem dX6_tellAborted_75 : decode cX6_tellAborted 75 = .ok (.ireturn, 1) := by decide +kernel
theorem dX6_aborted_0 : decode cX6_aborted 0 = .ok (.iload_n 1, 1) := by decide +kernel
theorem dX6_aborted_1 : decode cX6_aborted 1 = .ok (.invokestatic 124, 3) := by decide +kernel
theorem dX6_aborted_4 : decode cX6_aborted 4 = .ok (.ifCond .eq 26, 3) := by decide +kernel
theorem dX6_aborted_7 : decode cX6_aborted 7 = .ok (.iload_n 2, 1) := by decide +kernel
theorem dX6_aborted_8 : decode cX6_aborted 8 = .ok (.ifCond .lt 22, 3) := by decide +kernel
theorem dX6_aborted_11 : decode cX6_aborted 11 = .ok (.iload_n 3, 1) := by decide +kernel
theorem dX6_aborted_12 : decode cX6_aborted 12 = .ok (.iconst 0, 1) := by decide +kernel
theorem dX6_aborted_13 : decode cX6_aborted 13 = .ok (.iconst 2, 1) := by decide +kernel
theorem dX6_aborted_14 : decode cX6_aborted 14 = .ok (.invokestatic 36, 3) := by decide +kernel
theorem dX6_aborted_17 : decode cX6_aborted 17 = .ok (.ifCond .eq 13, 3) := by decide +kernel
theorem dX6_aborted_20 : decode cX6_aborted 20 = .ok (.aload_n 0, 1) := by decide +kernel
theorem dX6_aborted_21 : decode cX6_aborted 21 = .ok (.iload_n 1, 1) := by decide +kernel
theorem dX6_aborted_22 : decode cX6_aborted 22 = .ok (.iload_n 2, 1) := by decide +kernel
theorem dX6_aborted_23 : decode cX6_aborted 23 = .ok (.iload_n 3, 1) := by decide +kernel
theorem dX6_aborted_24 : decode cX6_aborted 24 = .ok (.invokevirtual 174, 3) := by decide +kernel
theorem dX6_aborted_27 : decode cX6_aborted 27 = .ok (.goto 7, 3) := by decide +kernel
theorem dX6_aborted_30 : decode cX6_aborted 30 = .ok (.aload_n 0, 1) := by decide +kernel
theorem dX6_aborted_31 : decode cX6_aborted 31 = .ok (.invokevirtual 111, 3) := by decide +kernel
theorem dX6_aborted_34 : decode cX6_aborted 34 = .ok (.ireturn, 1) := by decide +kernel
theorem dX6_reads_0 : decode cX6_reads 0 = .ok (.iload_n 1, 1) := by decide +kernel
theorem dX6_reads_1 : decode cX6_reads 1 = .ok (.invokestatic 143, 3) := by decide +kernel
theorem dX6_reads_4 : decode cX6_reads 4 = .ok (.ifCond .eq 10, 3) := by decide +kernel
theorem dX6_reads_7 : decode cX6_reads 7 = .ok (.iload_n 2, 1) := by decide +kernel
theorem dX6_reads_8 : decode cX6_reads 8 = .ok (.invokestatic 124, 3) := by decide +kernel
theorem dX6_reads_11 : decode cX6_reads 11 = .ok (.ifCond .ne 8, 3) := by decide +kernel
theorem dX6_reads_14 : decode cX6_reads 14 = .ok (.aload_n 0, 1) := by decide +kernel
theorem dX6_reads_15 : decode cX6_reads 15 = .ok (.invokevirtual 111, 3) := by decide +kernel
theorem dX6_reads_18 : decode cX6_reads 18 = .ok (.ireturn, 1) := by decide +kernel
theorem dX6_reads_19 : decode cX6_reads 19 = .ok (.bipush 69, 2) := by decide +kernel
theorem dX6_reads_21 : decode cX6_reads 21 = .ok (.bipush 6, 2) := by decide +kernel
theorem dX6_reads_23 : decode cX6_reads 23 = .ok (.iload_n 1, 1) := by decide +kernel
theorem dX6_reads_24 : decode cX6_reads 24 = .ok (.imul, 1) := by decide +kernel
theorem dX6_reads_25 : decode cX6_reads 25 = .ok (.iadd, 1) := by decide +kernel
theorem dX6_reads_26 : decode cX6_reads 26 = .ok (.iload_n 2, 1) := by decide +kernel
theorem dX6_reads_27 : decode cX6_reads 27 = .ok (.iadd, 1) := by decide +kernel
end
section
theorem dX6_reads_28 : decode cX6_reads 28 = .ok (.istore_n 3, 1) := by decide +kernel
theorem dX6_reads_29 : decode cX6_reads 29 = .ok (.aload_n 0, 1) := by decide +kernel
theorem dX6_reads_30 : decode cX6_reads 30 = .ok (.iload_n 2, 1) := by decide +kernel
theorem dX6_reads_31 : decode cX6_reads 31 = .ok (.aload_n 0, 1) := by decide +kernel
theorem dX6_reads_32 : decode cX6_reads 32 = .ok (.getfield 7, 3) := by decide +kernel
theorem dX6_reads_35 : decode cX6_reads 35 = .ok (.iload_n 3, 1) := by decide +kernel
theorem dX6_reads_36 : decode cX6_reads 36 = .ok (.iaload, 1) := by decide +kernel
theorem dX6_reads_37 : decode cX6_reads 37 = .ok (.invokevirtual 177, 3) := by decide +kernel
theorem dX6_reads_40 : decode cX6_reads 40 = .ok (.istore 4, 2) := by decide +kernel
theorem dX6_reads_42 : decode cX6_reads 42 = .ok (.iload 4, 2) := by decide +kernel
theorem dX6_reads_44 : decode cX6_reads 44 = .ok (.iconst (-1), 1) := by decide +kernel
theorem dX6_reads_45 : decode cX6_reads 45 = .ok (.if_icmp .ne 5, 3) := by decide +kernel
theorem dX6_reads_48 : decode cX6_reads 48 = .ok (.iconst (-1), 1) := by decide +kernel
theorem dX6_reads_49 : decode cX6_reads 49 = .ok (.ireturn, 1) := by decide +kernel
theorem dX6_reads_50 : decode cX6_reads 50 = .ok (.aload_n 0, 1) := by decide +kernel
theorem dX6_reads_51 : decode cX6_reads 51 = .ok (.invokevirtual 115, 3) := by decide +kernel
theorem dX6_reads_54 : decode cX6_reads 54 = .ok (.aload_n 0, 1) := by decide +kernel
theorem dX6_reads_55 : decode cX6_reads 55 = .ok (.getfield 7, 3) := by decide +kernel
theorem dX6_reads_58 : decode cX6_reads 58 = .ok (.iload_n 3, 1) := by decide +kernel
theorem dX6_reads_59 : decode cX6_reads 59 = .ok (.iload 4, 2) := by decide +kernel
theorem dX6_reads_61 : decode cX6_reads 61 = .ok (.iconst 1, 1) := by decide +kernel
theorem dX6_reads_62 : decode cX6_reads 62 = .ok (.iadd, 1) := by decide +kernel
theorem dX6_reads_63 : decode cX6_reads 63 = .ok (.iastore, 1) := by decide +kernel
theorem dX6_reads_64 : decode cX6_reads 64 = .ok (.aload_n 0, 1) := by decide +kernel
theorem dX6_reads_65 : decode cX6_reads 65 = .ok (.iload_n 2, 1) := by decide +kernel
theorem dX6_reads_66 : decode cX6_reads 66 = .ok (.iload 4, 2) := by decide +kernel
theorem dX6_reads_68 : decode cX6_reads 68 = .ok (.iconst 4, 1) := by decide +kernel
theorem dX6_reads_69 : decode cX6_reads 69 = .ok (.invokevirtual 73, 3) := by decide +kernel
theorem dX6_reads_72 : decode cX6_reads 72 = .ok (.ireturn, 1) := by decide +kernel
theorem dX6_rewinds_0 : decode cX6_rewinds 0 = .ok (.iload_n 1, 1) := by decide +kernel
theorem dX6_rewinds_1 : decode cX6_rewinds 1 = .ok (.invokestatic 143, 3) := by decide +kernel
theorem dX6_rewinds_4 : decode cX6_rewinds 4 = .ok (.ifCond .ne 8, 3) := by decide +kernel
theorem dX6_rewinds_7 : decode cX6_rewinds 7 = .ok (.aload_n 0, 1) := by decide +kernel
theorem dX6_rewinds_8 : decode cX6_rewinds 8 = .ok (.invokevirtual 111, 3) := by decide +kernel
theorem dX6_rewinds_11 : decode cX6_rewinds 11 = .ok (.ireturn, 1) := by decide +kernel
theorem dX6_rewinds_12 : decode cX6_rewinds 12 = .ok (.aload_n 0, 1) := by decide +kernel
theorem dX6_rewinds_13 : decode cX6_rewinds 13 = .ok (.invokevirtual 115, 3) := by decide +kernel
theorem dX6_rewinds_16 : decode cX6_rewinds 16 = .ok (.iconst 0, 1) := by decide +kernel
theorem dX6_rewinds_17 : decode cX6_rewinds 17 = .ok (.istore_n 2, 1) := by decide +kernel
theorem dX6_rewinds_18 : decode cX6_rewinds 18 = .ok (.iconst 0, 1) := by decide +kernel
theorem dX6_rewinds_19 : decode cX6_rewinds 19 = .ok (.istore_n 3, 1) := by decide +kernel
theorem dX6_rewinds_20 : decode cX6_rewinds 20 = .ok (.iload_n 3, 1) := by decide +kernel
theorem dX6_rewinds_21 : decode cX6_rewinds 21 = .ok (.iconst 3, 1) := by decide +kernel
theorem dX6_rewinds_22 : decode cX6_rewinds 22 = .ok (.if_icmp .ge 63, 3) := by decide +kernel
theorem dX6_rewinds_25 : decode cX6_rewinds 25 = .ok (.bipush 69, 2) := by decide +kernel
theorem dX6_rewinds_27 : decode cX6_rewinds 27 = .ok (.bipush 6, 2) := by decide +kernel
theorem dX6_rewinds_29 : decode cX6_rewinds 29 = .ok (.iload_n 1, 1) := by decide +kernel
theorem dX6_rewinds_30 : decode cX6_rewinds 30 = .ok (.imul, 1) := by decide +kernel
theorem dX6_rewinds_31 : decode cX6_rewinds 31 = .ok (.iadd, 1) := by decide +kernel
theorem dX6_rewinds_32 : decode cX6_rewinds 32 = .ok (.iload_n 3, 1) := by decide +kernel
theorem dX6_rewinds_33 : decode cX6_rewinds 33 = .ok (.iadd, 1) := by decide +kernel
theorem dX6_rewinds_34 : decode cX6_rewinds 34 = .ok (.istore 4, 2) := by decide +kernel
theorem dX6_rewinds_36 : decode cX6_rewinds 36 = .ok (.iload_n 2, 1) := by decide +kernel
theorem dX6_rewinds_37 : decode cX6_rewinds 37 = .ok (.aload_n 0, 1) := by decide +kernel
theorem dX6_rewinds_38 : decode cX6_rewinds 38 = .ok (.getfield 7, 3) := by decide +kernel
theorem dX6_rewinds_41 : decode cX6_rewinds 41 = .ok (.iload 4, 2) := by decide +kernel
theorem dX6_rewinds_43 : decode cX6_rewinds 43 = .ok (.iaload, 1) := by decide +kernel
theorem dX6_rewinds_44 : decode cX6_rewinds 44 = .ok (.aload_n 0, 1) := by decide +kernel
theorem dX6_rewinds_45 : decode cX6_rewinds 45 = .ok (.getfield 7, 3) := by decide +kernel
theorem dX6_rewinds_48 : decode cX6_rewinds 48 = .ok (.iload 4, 2) := by decide +kernel
theorem dX6_rewinds_50 : decode cX6_rewinds 50 = .ok (.iconst 3, 1) := by decide +kernel
theorem dX6_rewinds_51 : decode cX6_rewinds 51 = .ok (.iadd, 1) := by decide +kernel
theorem dX6_rewinds_52 : decode cX6_rewinds 52 = .ok (.iaload, 1) := by decide +kernel
theorem dX6_rewinds_53 : decode cX6_rewinds 53 = .ok (.if_icmp .ne 7, 3) := by decide +kernel
theorem dX6_rewinds_56 : decode cX6_rewinds 56 = .ok (.iconst 0, 1) := by decide +kernel
theorem dX6_rewinds_57 : decode cX6_rewinds 57 = .ok (.goto 4, 3) := by decide +kernel
theorem dX6_rewinds_60 : decode cX6_rewinds 60 = .ok (.iconst 1, 1) := by decide +kernel
theorem dX6_rewinds_61 : decode cX6_rewinds 61 = .ok (.iadd, 1) := by decide +kernel
theorem dX6_rewinds_62 : decode cX6_rewinds 62 = .ok (.istore_n 2, 1) := by decide +kernel
theorem dX6_rewinds_63 : decode cX6_rewinds 63 = .ok (.aload_n 0, 1) := by decide +kernel
theorem dX6_rewinds_64 : decode cX6_rewinds 64 = .ok (.getfield 7, 3) := by decide +kernel
theorem dX6_rewinds_67 : decode cX6_rewinds 67 = .ok (.iload 4, 2) := by decide +kernel
theorem dX6_rewinds_69 : decode cX6_rewinds 69 = .ok (.aload_n 0, 1) := by decide +kernel
theorem dX6_rewinds_70 : decode cX6_rewinds 70 = .ok (.getfield 7, 3) := by decide +kernel
theorem dX6_rewinds_73 : decode cX6_rewinds 73 = .ok (.iload 4, 2) := by decide +kernel
theorem dX6_rewinds_75 : decode cX6_rewinds 75 = .ok (.iconst 3, 1) := by decide +kernel
theorem dX6_rewinds_76 : decode cX6_rewinds 76 = .ok (.iadd, 1) := by decide +kernel
theorem dX6_rewinds_77 : decode cX6_rewinds 77 = .ok (.iaload, 1) := by decide +kernel
theorem dX6_rewinds_78 : decode cX6_rewinds 78 = .ok (.iastore, 1) := by decide +kernel
theorem dX6_rewinds_79 : decode cX6_rewinds 79 = .ok (.iinc 3 1, 3) := by decide +kernel
theorem dX6_rewinds_82 : decode cX6_rewinds 82 = .ok (.goto (-62), 3) := by decide +kernel
theorem dX6_rewinds_85 : decode cX6_rewinds 85 = .ok (.iload_n 2, 1) := by decide +kernel
theorem dX6_rewinds_86 : decode cX6_rewinds 86 = .ok (.ireturn, 1) := by decide +kernel
theorem dX6_tellReader_0 : decode cX6_tellReader 0 = .ok (.bipush 69, 2) := by decide +kernel
theorem dX6_tellReader_2 : decode cX6_tellReader 2 = .ok (.bipush 6, 2) := by decide +kernel
theorem dX6_tellReader_4 : decode cX6_tellReader 4 = .ok (.iload_n 1, 1) := by decide +kernel
theorem dX6_tellReader_5 : decode cX6_tellReader 5 = .ok (.imul, 1) := by decide +kernel
theorem dX6_tellReader_6 : decode cX6_tellReader 6 = .ok (.iadd, 1) := by decide +kernel
theorem dX6_tellReader_7 : decode cX6_tellReader 7 = .ok (.iload_n 2, 1) := by decide +kernel
theorem dX6_tellReader_8 : decode cX6_tellReader 8 = .ok (.iadd, 1) := by decide +kernel
theorem dX6_tellReader_9 : decode cX6_tellReader 9 = .ok (.istore 4, 2) := by decide +kernel
theorem dX6_tellReader_11 : decode cX6_tellReader 11 = .ok (.iload_n 3, 1) := by decide +kernel
theorem dX6_tellReader_12 : decode cX6_tellReader 12 = .ok (.ifCond .ne 13, 3) := by decide +kernel
theorem dX6_tellReader_15 : decode cX6_tellReader 15 = .ok (.aload_n 0, 1) := by decide +kernel
theorem dX6_tellReader_16 : decode cX6_tellReader 16 = .ok (.getfield 7, 3) := by decide +kernel
theorem dX6_tellReader_19 : decode cX6_tellReader 19 = .ok (.iload 4, 2) := by decide +kernel
theorem dX6_tellReader_21 : decode cX6_tellReader 21 = .ok (.iaload, 1) := by decide +kernel
theorem dX6_tellReader_22 : decode cX6_tellReader 22 = .ok (.goto 52, 3) := by decide +kernel
theorem dX6_tellReader_25 : decode cX6_tellReader 25 = .ok (.iload_n 3, 1) := by decide +kernel
theorem dX6_tellReader_26 : decode cX6_tellReader 26 = .ok (.iconst 1, 1) := by decide +kernel
theorem dX6_tellReader_27 : decode cX6_tellReader 27 = .ok (.if_icmp .ne 15, 3) := by decide +kernel
theorem dX6_tellReader_30 : decode cX6_tellReader 30 = .ok (.aload_n 0, 1) := by decide +kernel
theorem dX6_tellReader_31 : decode cX6_tellReader 31 = .ok (.getfield 7, 3) := by decide +kernel
theorem dX6_tellReader_34 : decode cX6_tellReader 34 = .ok (.iload 4, 2) := by decide +kernel
theorem dX6_tellReader_36 : decode cX6_tellReader 36 = .ok (.iconst 3, 1) := by decide +kernel
theorem dX6_tellReader_37 : decode cX6_tellReader 37 = .ok (.iadd, 1) := by decide +kernel
theorem dX6_tellReader_38 : decode cX6_tellReader 38 = .ok (.iaload, 1) := by decide +kernel
theorem dX6_tellReader_39 : decode cX6_tellReader 39 = .ok (.goto 35, 3) := by decide +kernel
theorem dX6_tellReader_42 : decode cX6_tellReader 42 = .ok (.iload_n 3, 1) := by decide +kernel
theorem dX6_tellReader_43 : decode cX6_tellReader 43 = .ok (.iconst 2, 1) := by decide +kernel
theorem dX6_tellReader_44 : decode cX6_tellReader 44 = .ok (.if_icmp .ne 18, 3) := by decide +kernel
theorem dX6_tellReader_47 : decode cX6_tellReader 47 = .ok (.aload_n 0, 1) := by decide +kernel
theorem dX6_tellReader_48 : decode cX6_tellReader 48 = .ok (.iload_n 2, 1) := by decide +kernel
theorem dX6_tellReader_49 : decode cX6_tellReader 49 = .ok (.aload_n 0, 1) := by decide +kernel
theorem dX6_tellReader_50 : decode cX6_tellReader 50 = .ok (.getfield 7, 3) := by decide +kernel
theorem dX6_tellReader_53 : decode cX6_tellReader 53 = .ok (.iload 4, 2) := by decide +kernel
theorem dX6_tellReader_55 : decode cX6_tellReader 55 = .ok (.iaload, 1) := by decide +kernel
theorem dX6_tellReader_56 : decode cX6_tellReader 56 = .ok (.invokevirtual 161, 3) := by decide +kernel
theorem dX6_tellReader_59 : decode cX6_tellReader 59 = .ok (.goto 15, 3) := by decide +kernel
theorem dX6_tellReader_62 : decode cX6_tellReader 62 = .ok (.aload_n 0, 1) := by decide +kernel
theorem dX6_tellReader_63 : decode cX6_tellReader 63 = .ok (.iload_n 2, 1) := by decide +kernel
theorem dX6_tellReader_64 : decode cX6_tellReader 64 = .ok (.aload_n 0, 1) := by decide +kernel
theorem dX6_tellReader_65 : decode cX6_tellReader 65 = .ok (.getfield 7, 3) := by decide +kernel
theorem dX6_tellReader_68 : decode cX6_tellReader 68 = .ok (.iload 4, 2) := by decide +kernel
theorem dX6_tellReader_70 : decode cX6_tellReader 70 = .ok (.iaload, 1) := by decide +kernel
theorem dX6_tellReader_71 : decode cX6_tellReader 71 = .ok (.invokevirtual 177, 3) := by decide +kernel
theorem dX6_tellReader_74 : decode cX6_tellReader 74 = .ok (.ireturn, 1) := by decide +kernel
theorem dX6_reader_0 : decode cX6_reader 0 = .ok (.iload_n 1, 1) := by decide +kernel
theorem dX6_reader_1 : decode cX6_reader 1 = .ok (.invokestatic 143, 3) := by decide +kernel
theorem dX6_reader_4 : decode cX6_reader 4 = .ok (.ifCond .eq 29, 3) := by decide +kernel
theorem dX6_reader_7 : decode cX6_reader 7 = .ok (.iload_n 2, 1) := by decide +kernel
theorem dX6_reader_8 : decode cX6_reader 8 = .ok (.invokestatic 124, 3) := by decide +kernel
theorem dX6_reader_11 : decode cX6_reader 11 = .ok (.ifCond .eq 22, 3) := by decide +kernel
theorem dX6_reader_14 : decode cX6_reader 14 = .ok (.iload_n 3, 1) := by decide +kernel
theorem dX6_reader_15 : decode cX6_reader 15 = .ok (.iconst 0, 1) := by decide +kernel
theorem dX6_reader_16 : decode cX6_reader 16 = .ok (.iconst 3, 1) := by decide +kernel
theorem dX6_reader_17 : decode cX6_reader 17 = .ok (.invokestatic 36, 3) := by decide +kernel
theorem dX6_reader_20 : decode cX6_reader 20 = .ok (.ifCond .eq 13, 3) := by decide +kernel
theorem dX6_reader_23 : decode cX6_reader 23 = .ok (.aload_n 0, 1) := by decide +kernel
theorem dX6_reader_24 : decode cX6_reader 24 = .ok (.iload_n 1, 1) := by decide +kernel
theorem dX6_reader_25 : decode cX6_reader 25 = .ok (.iload_n 2, 1) := by decide +kernel
theorem dX6_reader_26 : decode cX6_reader 26 = .ok (.iload_n 3, 1) := by decide +kernel
theorem dX6_reader_27 : decode cX6_reader 27 = .ok (.invokevirtual 180, 3) := by decide +kernel
theorem dX6_reader_30 : decode cX6_reader 30 = .ok (.goto 7, 3) := by decide +kernel
theorem dX6_reader_33 : decode cX6_reader 33 = .ok (.aload_n 0, 1) := by decide +kernel
theorem dX6_reader_34 : decode cX6_reader 34 = .ok (.invokevirtual 111, 3) := by decide +kernel
theorem dX6_reader_37 : decode cX6_reader 37 = .ok (.ireturn, 1) := by decide +kernel
theorem dX6_type_0 : decode cX6_type 0 = .ok (.iload_n 1, 1) := by decide +kernel
theorem dX6_type_1 : decode cX6_type 1 = .ok (.iconst 0, 1) := by decide +kernel
theorem dX6_type_2 : decode cX6_type 2 = .ok (.bipush 127, 2) := by decide +kernel
theorem dX6_type_4 : decode cX6_type 4 = .ok (.invokestatic 36, 3) := by decide +kernel
theorem dX6_type_7 : decode cX6_type 7 = .ok (.ifCond .ne 8, 3) := by decide +kernel
theorem dX6_type_10 : decode cX6_type 10 = .ok (.aload_n 0, 1) := by decide +kernel
theorem dX6_type_11 : decode cX6_type 11 = .ok (.invokevirtual 111, 3) := by decide +kernel
theorem dX6_type_14 : decode cX6_type 14 = .ok (.ireturn, 1) := by decide +kernel
theorem dX6_type_15 : decode cX6_type 15 = .ok (.aload_n 0, 1) := by decide +kernel
theorem dX6_type_16 : decode cX6_type 16 = .ok (.getfield 183, 3) := by decide +kernel
theorem dX6_type_19 : decode cX6_type 19 = .ok (.bipush 120, 2) := by decide +kernel
theorem dX6_type_21 : decode cX6_type 21 = .ok (.if_icmp .ne 11, 3) := by decide +kernel
theorem dX6_type_24 : decode cX6_type 24 = .ok (.aload_n 0, 1) := by decide +kernel
theorem dX6_type_25 : decode cX6_type 25 = .ok (.iconst 4, 1) := by decide +kernel
theorem dX6_type_26 : decode cX6_type 26 = .ok (.bipush (-4), 2) := by decide +kernel
theorem dX6_type_28 : decode cX6_type 28 = .ok (.invokevirtual 32, 3) := by decide +kernel
theorem dX6_type_31 : decode cX6_type 31 = .ok (.ireturn, 1) := by decide +kernel
theorem dX6_type_32 : decode cX6_type 32 = .ok (.aload_n 0, 1) := by decide +kernel
theorem dX6_type_33 : decode cX6_type 33 = .ok (.getfield 19, 3) := by decide +kernel
theorem dX6_type_36 : decode cX6_type 36 = .ok (.aload_n 0, 1) := by decide +kernel
theorem dX6_type_37 : decode cX6_type 37 = .ok (.getfield 183, 3) := by decide +kernel
theorem dX6_type_40 : decode cX6_type 40 = .ok (.iload_n 1, 1) := by decide +kernel
theorem dX6_type_41 : decode cX6_type 41 = .ok (.iastore, 1) := by decide +kernel
theorem dX6_type_42 : decode cX6_type 42 = .ok (.aload_n 0, 1) := by decide +kernel
theorem dX6_type_43 : decode cX6_type 43 = .ok (.dup, 1) := by decide +kernel
theorem dX6_type_44 : decode cX6_type 44 = .ok (.getfield 183, 3) := by decide +kernel
theorem dX6_type_47 : decode cX6_type 47 = .ok (.iconst 1, 1) := by decide +kernel
theorem dX6_type_48 : decode cX6_type 48 = .ok (.iadd, 1) := by decide +kernel
theorem dX6_type_49 : decode cX6_type 49 = .ok (.putfield 183, 3) := by decide +kernel
theorem dX6_type_52 : decode cX6_type 52 = .ok (.aload_n 0, 1) := by decide +kernel
theorem dX6_type_53 : decode cX6_type 53 = .ok (.getfield 183, 3) := by decide +kernel
theorem dX6_type_56 : decode cX6_type 56 = .ok (.ireturn, 1) := by decide +kernel
theorem dX6_clear_0 : decode cX6_clear 0 = .ok (.aload_n 0, 1) := by decide +kernel
theorem dX6_clear_1 : decode cX6_clear 1 = .ok (.getfield 183, 3) := by decide +kernel
theorem dX6_clear_4 : decode cX6_clear 4 = .ok (.istore_n 1, 1) := by decide +kernel
theorem dX6_clear_5 : decode cX6_clear 5 = .ok (.aload_n 0, 1) := by decide +kernel
theorem dX6_clear_6 : decode cX6_clear 6 = .ok (.iconst 0, 1) := by decide +kernel
theorem dX6_clear_7 : decode cX6_clear 7 = .ok (.putfield 183, 3) := by decide +kernel
theorem dX6_clear_10 : decode cX6_clear 10 = .ok (.iload_n 1, 1) := by decide +kernel
theorem dX6_clear_11 : decode cX6_clear 11 = .ok (.ireturn, 1) := by decide +kernel
theorem dX6_here_0 : decode cX6_here 0 = .ok (.aload_n 0, 1) := by decide +kernel
theorem dX6_here_1 : decode cX6_here 1 = .ok (.getfield 186, 3) := by decide +kernel
theorem dX6_here_4 : decode cX6_here 4 = .ok (.aload_n 0, 1) := by decide +kernel
theorem dX6_here_5 : decode cX6_here 5 = .ok (.getfield 183, 3) := by decide +kernel
theorem dX6_here_8 : decode cX6_here 8 = .ok (.if_icmp .ge 15, 3) := by decide +kernel
theorem dX6_here_11 : decode cX6_here 11 = .ok (.aload_n 0, 1) := by decide +kernel
theorem dX6_here_12 : decode cX6_here 12 = .ok (.getfield 19, 3) := by decide +kernel
theorem dX6_here_15 : decode cX6_here 15 = .ok (.aload_n 0, 1) := by decide +kernel
theorem dX6_here_16 : decode cX6_here 16 = .ok (.getfield 186, 3) := by decide +kernel
theorem dX6_here_19 : decode cX6_here 19 = .ok (.iaload, 1) := by decide +kernel
theorem dX6_here_20 : decode cX6_here 20 = .ok (.goto 4, 3) := by decide +kernel
theorem dX6_here_23 : decode cX6_here 23 = .ok (.iconst (-1), 1) := by decide +kernel
theorem dX6_here_24 : decode cX6_here 24 = .ok (.ireturn, 1) := by decide +kernel
theorem dX6_skips_0 : decode cX6_skips 0 = .ok (.aload_n 0, 1) := by decide +kernel
theorem dX6_skips_1 : decode cX6_skips 1 = .ok (.invokevirtual 189, 3) := by decide +kernel
theorem dX6_skips_4 : decode cX6_skips 4 = .ok (.bipush 32, 2) := by decide +kernel
theorem dX6_skips_6 : decode cX6_skips 6 = .ok (.if_icmp .ne 16, 3) := by decide +kernel
theorem dX6_skips_9 : decode cX6_skips 9 = .ok (.aload_n 0, 1) := by decide +kernel
theorem dX6_skips_10 : decode cX6_skips 10 = .ok (.dup, 1) := by decide +kernel
theorem dX6_skips_11 : decode cX6_skips 11 = .ok (.getfield 186, 3) := by decide +kernel
theorem dX6_skips_14 : decode cX6_skips 14 = .ok (.iconst 1, 1) := by decide +kernel
theorem dX6_skips_15 : decode cX6_skips 15 = .ok (.iadd, 1) := by decide +kernel
theorem dX6_skips_16 : decode cX6_skips 16 = .ok (.putfield 186, 3) := by decide +kernel
theorem dX6_skips_19 : decode cX6_skips 19 = .ok (.goto (-19), 3) := by decide +kernel
theorem dX6_skips_22 : decode cX6_skips 22 = .ok (.return_, 1) := by decide +kernel
theorem dX6_isFigure_0 : decode cX6_isFigure 0 = .ok (.aload_n 0, 1) := by decide +kernel
theorem dX6_isFigure_1 : decode cX6_isFigure 1 = .ok (.invokevirtual 189, 3) := by decide +kernel
theorem dX6_isFigure_4 : decode cX6_isFigure 4 = .ok (.bipush 48, 2) := by decide +kernel
theorem dX6_isFigure_6 : decode cX6_isFigure 6 = .ok (.bipush 57, 2) := by decide +kernel
theorem dX6_isFigure_8 : decode cX6_isFigure 8 = .ok (.invokestatic 36, 3) := by decide +kernel
theorem dX6_isFigure_11 : decode cX6_isFigure 11 = .ok (.ireturn, 1) := by decide +kernel
theorem dX6_stopsHere_0 : decode cX6_stopsHere 0 = .ok (.aload_n 0, 1) := by decide +kernel
theorem dX6_stopsHere_1 : decode cX6_stopsHere 1 = .ok (.aload_n 0, 1) := by decide +kernel
theorem dX6_stopsHere_2 : decode cX6_stopsHere 2 = .ok (.getfield 186, 3) := by decide +kernel
theorem dX6_stopsHere_5 : decode cX6_stopsHere 5 = .ok (.putfield 192, 3) := by decide +kernel
theorem dX6_stopsHere_8 : decode cX6_stopsHere 8 = .ok (.iconst 0, 1) := by decide +kernel
theorem dX6_stopsHere_9 : decode cX6_stopsHere 9 = .ok (.ireturn, 1) := by decide +kernel
theorem dX6_numbersOf_0 : decode cX6_numbersOf 0 = .ok (.iload_n 0, 1) := by decide +kernel
theorem dX6_numbersOf_1 : decode cX6_numbersOf 1 = .ok (.tableswitch 101 98 116 #[91, 97, 101, 95, 101, 101, 101, 101, 101, 101, 101, 101, 101, 93, 101, 101, 93, 99, 91], 91) := by decide +kernel
theorem dX6_numbersOf_92 : decode cX6_numbersOf 92 = .ok (.iconst 1, 1) := by decide +kernel
theorem dX6_numbersOf_93 : decode cX6_numbersOf 93 = .ok (.ireturn, 1) := by decide +kernel
theorem dX6_numbersOf_94 : decode cX6_numbersOf 94 = .ok (.iconst 2, 1) := by decide +kernel
theorem dX6_numbersOf_95 : decode cX6_numbersOf 95 = .ok (.ireturn, 1) := by decide +kernel
theorem dX6_numbersOf_96 : decode cX6_numbersOf 96 = .ok (.iconst 3, 1) := by decide +kernel
theorem dX6_numbersOf_97 : decode cX6_numbersOf 97 = .ok (.ireturn, 1) := by decide +kernel
theorem dX6_numbersOf_98 : decode cX6_numbersOf 98 = .ok (.iconst 4, 1) := by decide +kernel
theorem dX6_numbersOf_99 : decode cX6_numbersOf 99 = .ok (.ireturn, 1) := by decide +kernel
theorem dX6_numbersOf_100 : decode cX6_numbersOf 100 = .ok (.iconst 5, 1) := by decide +kernel
theorem dX6_numbersOf_101 : decode cX6_numbersOf 101 = .ok (.ireturn, 1) := by decide +kernel
theorem dX6_numbersOf_102 : decode cX6_numbersOf 102 = .ok (.iconst (-1), 1) := by decide +kernel
theorem dX6_numbersOf_103 : decode cX6_numbersOf 103 = .ok (.ireturn, 1) := by decide +kernel
theorem dX6_number_0 : decode cX6_number 0 = .ok (.aload_n 0, 1) := by decide +kernel
theorem dX6_number_1 : decode cX6_number 1 = .ok (.invokevirtual 195, 3) := by decide +kernel
theorem dX6_number_4 : decode cX6_number 4 = .ok (.aload_n 0, 1) := by decide +kernel
theorem dX6_number_5 : decode cX6_number 5 = .ok (.invokevirtual 198, 3) := by decide +kernel
theorem dX6_number_8 : decode cX6_number 8 = .ok (.ifCond .ne 8, 3) := by decide +kernel
theorem dX6_number_11 : decode cX6_number 11 = .ok (.aload_n 0, 1) := by decide +kernel
theorem dX6_number_12 : decode cX6_number 12 = .ok (.invokevirtual 202, 3) := by decide +kernel
theorem dX6_number_15 : decode cX6_number 15 = .ok (.ireturn, 1) := by decide +kernel
theorem dX6_number_16 : decode cX6_number 16 = .ok (.aload_n 0, 1) := by decide +kernel
theorem dX6_number_17 : decode cX6_number 17 = .ok (.invokevirtual 189, 3) := by decide +kernel
theorem dX6_number_20 : decode cX6_number 20 = .ok (.bipush 48, 2) := by decide +kernel
theorem dX6_number_22 : decode cX6_number 22 = .ok (.isub, 1) := by decide +kernel
theorem dX6_number_23 : decode cX6_number 23 = .ok (.istore_n 2, 1) := by decide +kernel
theorem dX6_number_24 : decode cX6_number 24 = .ok (.aload_n 0, 1) := by decide +kernel
theorem dX6_number_25 : decode cX6_number 25 = .ok (.dup, 1) := by decide +kernel
theorem dX6_number_26 : decode cX6_number 26 = .ok (.getfield 186, 3) := by decide +kernel
theorem dX6_number_29 : decode cX6_number 29 = .ok (.iconst 1, 1) := by decide +kernel
theorem dX6_number_30 : decode cX6_number 30 = .ok (.iadd, 1) := by decide +kernel
theorem dX6_number_31 : decode cX6_number 31 = .ok (.putfield 186, 3) := by decide +kernel
theorem dX6_number_34 : decode cX6_number 34 = .ok (.aload_n 0, 1) := by decide +kernel
theorem dX6_number_35 : decode cX6_number 35 = .ok (.invokevirtual 198, 3) := by decide +kernel
theorem dX6_number_38 : decode cX6_number 38 = .ok (.ifCond .eq 26, 3) := by decide +kernel
theorem dX6_number_41 : decode cX6_number 41 = .ok (.bipush 10, 2) := by decide +kernel
theorem dX6_number_43 : decode cX6_number 43 = .ok (.iload_n 2, 1) := by decide +kernel
theorem dX6_number_44 : decode cX6_number 44 = .ok (.imul, 1) := by decide +kernel
theorem dX6_number_45 : decode cX6_number 45 = .ok (.aload_n 0, 1) := by decide +kernel
theorem dX6_number_46 : decode cX6_number 46 = .ok (.invokevirtual 189, 3) := by decide +kernel
theorem dX6_number_49 : decode cX6_number 49 = .ok (.iadd, 1) := by decide +kernel
theorem dX6_number_50 : decode cX6_number 50 = .ok (.bipush 48, 2) := by decide +kernel
theorem dX6_number_52 : decode cX6_number 52 = .ok (.isub, 1) := by decide +kernel
theorem dX6_number_53 : decode cX6_number 53 = .ok (.istore_n 2, 1) := by decide +kernel
theorem dX6_number_54 : decode cX6_number 54 = .ok (.aload_n 0, 1) := by decide +kernel
theorem dX6_number_55 : decode cX6_number 55 = .ok (.dup, 1) := by decide +kernel
theorem dX6_number_56 : decode cX6_number 56 = .ok (.getfield 186, 3) := by decide +kernel
theorem dX6_number_59 : decode cX6_number 59 = .ok (.iconst 1, 1) := by decide +kernel
theorem dX6_number_60 : decode cX6_number 60 = .ok (.iadd, 1) := by decide +kernel
theorem dX6_number_61 : decode cX6_number 61 = .ok (.putfield 186, 3) := by decide +kernel
theorem dX6_number_64 : decode cX6_number 64 = .ok (.aload_n 0, 1) := by decide +kernel
theorem dX6_number_65 : decode cX6_number 65 = .ok (.invokevirtual 198, 3) := by decide +kernel
theorem dX6_number_68 : decode cX6_number 68 = .ok (.ifCond .eq 8, 3) := by decide +kernel
theorem dX6_number_71 : decode cX6_number 71 = .ok (.aload_n 0, 1) := by decide +kernel
theorem dX6_number_72 : decode cX6_number 72 = .ok (.invokevirtual 202, 3) := by decide +kernel
theorem dX6_number_75 : decode cX6_number 75 = .ok (.ireturn, 1) := by decide +kernel
theorem dX6_number_76 : decode cX6_number 76 = .ok (.aload_n 0, 1) := by decide +kernel
theorem dX6_number_77 : decode cX6_number 77 = .ok (.getfield 25, 3) := by decide +kernel
theorem dX6_number_80 : decode cX6_number 80 = .ok (.iload_n 1, 1) := by decide +kernel
theorem dX6_number_81 : decode cX6_number 81 = .ok (.iload_n 2, 1) := by decide +kernel
theorem dX6_number_82 : decode cX6_number 82 = .ok (.iastore, 1) := by decide +kernel
theorem dX6_number_83 : decode cX6_number 83 = .ok (.iconst 1, 1) := by decide +kernel
theorem dX6_number_84 : decode cX6_number 84 = .ok (.ireturn, 1) := by decide +kernel
theorem dX6_order_0 : decode cX6_order 0 = .ok (.aload_n 0, 1) := by decide +kernel
theorem dX6_order_1 : decode cX6_order 1 = .ok (.invokevirtual 189, 3) := by decide +kernel
theorem dX6_order_4 : decode cX6_order 4 = .ok (.istore_n 1, 1) := by decide +kernel
theorem dX6_order_5 : decode cX6_order 5 = .ok (.iload_n 1, 1) := by decide +kernel
theorem dX6_order_6 : decode cX6_order 6 = .ok (.invokestatic 205, 3) := by decide +kernel
theorem dX6_order_9 : decode cX6_order 9 = .ok (.istore_n 2, 1) := by decide +kernel
theorem dX6_order_10 : decode cX6_order 10 = .ok (.iload_n 2, 1) := by decide +kernel
theorem dX6_order_11 : decode cX6_order 11 = .ok (.iconst (-1), 1) := by decide +kernel
theorem dX6_order_12 : decode cX6_order 12 = .ok (.if_icmp .ne 8, 3) := by decide +kernel
theorem dX6_order_15 : decode cX6_order 15 = .ok (.aload_n 0, 1) := by decide +kernel
theorem dX6_order_16 : decode cX6_order 16 = .ok (.invokevirtual 202, 3) := by decide +kernel
theorem dX6_order_19 : decode cX6_order 19 = .ok (.ireturn, 1) := by decide +kernel
theorem dX6_order_20 : decode cX6_order 20 = .ok (.aload_n 0, 1) := by decide +kernel
theorem dX6_order_21 : decode cX6_order 21 = .ok (.dup, 1) := by decide +kernel
theorem dX6_order_22 : decode cX6_order 22 = .ok (.getfield 186, 3) := by decide +kernel
theorem dX6_order_25 : decode cX6_order 25 = .ok (.iconst 1, 1) := by decide +kernel
theorem dX6_order_26 : decode cX6_order 26 = .ok (.iadd, 1) := by decide +kernel
theorem dX6_order_27 : decode cX6_order 27 = .ok (.putfield 186, 3) := by decide +kernel
theorem dX6_order_30 : decode cX6_order 30 = .ok (.iconst 0, 1) := by decide +kernel
theorem dX6_order_31 : decode cX6_order 31 = .ok (.istore_n 3, 1) := by decide +kernel
theorem dX6_order_32 : decode cX6_order 32 = .ok (.iload_n 3, 1) := by decide +kernel
theorem dX6_order_33 : decode cX6_order 33 = .ok (.iload_n 2, 1) := by decide +kernel
theorem dX6_order_34 : decode cX6_order 34 = .ok (.if_icmp .ge 26, 3) := by decide +kernel
theorem dX6_order_37 : decode cX6_order 37 = .ok (.aload_n 0, 1) := by decide +kernel
theorem dX6_order_38 : decode cX6_order 38 = .ok (.iconst 5, 1) := by decide +kernel
theorem dX6_order_39 : decode cX6_order 39 = .ok (.aload_n 0, 1) := by decide +kernel
theorem dX6_order_40 : decode cX6_order 40 = .ok (.getfield 208, 3) := by decide +kernel
theorem dX6_order_43 : decode cX6_order 43 = .ok (.imul, 1) := by decide +kernel
theorem dX6_order_44 : decode cX6_order 44 = .ok (.iload_n 3, 1) := by decide +kernel
theorem dX6_order_45 : decode cX6_order 45 = .ok (.iadd, 1) := by decide +kernel
theorem dX6_order_46 : decode cX6_order 46 = .ok (.invokevirtual 211, 3) := by decide +kernel
theorem dX6_order_49 : decode cX6_order 49 = .ok (.ifCond .ne 5, 3) := by decide +kernel
theorem dX6_order_52 : decode cX6_order 52 = .ok (.iconst 0, 1) := by decide +kernel
theorem dX6_order_53 : decode cX6_order 53 = .ok (.ireturn, 1) := by decide +kernel
theorem dX6_order_54 : decode cX6_order 54 = .ok (.iinc 3 1, 3) := by decide +kernel
theorem dX6_order_57 : decode cX6_order 57 = .ok (.goto (-25), 3) := by decide +kernel
theorem dX6_order_60 : decode cX6_order 60 = .ok (.aload_n 0, 1) := by decide +kernel
theorem dX6_order_61 : decode cX6_order 61 = .ok (.invokevirtual 195, 3) := by decide +kernel
theorem dX6_order_64 : decode cX6_order 64 = .ok (.aload_n 0, 1) := by decide +kernel
theorem dX6_order_65 : decode cX6_order 65 = .ok (.invokevirtual 189, 3) := by decide +kernel
theorem dX6_order_68 : decode cX6_order 68 = .ok (.bipush 59, 2) := by decide +kernel
theorem dX6_order_70 : decode cX6_order 70 = .ok (.if_icmp .eq 8, 3) := by decide +kernel
theorem dX6_order_73 : decode cX6_order 73 = .ok (.aload_n 0, 1) := by decide +kernel
theorem dX6_order_74 : decode cX6_order 74 = .ok (.invokevirtual 202, 3) := by decide +kernel
theorem dX6_order_77 : decode cX6_order 77 = .ok (.ireturn, 1) := by decide +kernel
theorem dX6_order_78 : decode cX6_order 78 = .ok (.aload_n 0, 1) := by decide +kernel
theorem dX6_order_79 : decode cX6_order 79 = .ok (.dup, 1) := by decide +kernel
theorem dX6_order_80 : decode cX6_order 80 = .ok (.getfield 186, 3) := by decide +kernel
theorem dX6_order_83 : decode cX6_order 83 = .ok (.iconst 1, 1) := by decide +kernel
theorem dX6_order_84 : decode cX6_order 84 = .ok (.iadd, 1) := by decide +kernel
theorem dX6_order_85 : decode cX6_order 85 = .ok (.putfield 186, 3) := by decide +kernel
theorem dX6_order_88 : decode cX6_order 88 = .ok (.aload_n 0, 1) := by decide +kernel
theorem dX6_order_89 : decode cX6_order 89 = .ok (.getfield 22, 3) := by decide +kernel
theorem dX6_order_92 : decode cX6_order 92 = .ok (.aload_n 0, 1) := by decide +kernel
theorem dX6_order_93 : decode cX6_order 93 = .ok (.getfield 208, 3) := by decide +kernel
theorem dX6_order_96 : decode cX6_order 96 = .ok (.iload_n 1, 1) := by decide +kernel
theorem dX6_order_97 : decode cX6_order 97 = .ok (.iastore, 1) := by decide +kernel
theorem dX6_order_98 : decode cX6_order 98 = .ok (.aload_n 0, 1) := by decide +kernel
theorem dX6_order_99 : decode cX6_order 99 = .ok (.dup, 1) := by decide +kernel
theorem dX6_order_100 : decode cX6_order 100 = .ok (.getfield 208, 3) := by decide +kernel
theorem dX6_order_103 : decode cX6_order 103 = .ok (.iconst 1, 1) := by decide +kernel
theorem dX6_order_104 : decode cX6_order 104 = .ok (.iadd, 1) := by decide +kernel
theorem dX6_order_105 : decode cX6_order 105 = .ok (.putfield 208, 3) := by decide +kernel
theorem dX6_order_108 : decode cX6_order 108 = .ok (.iconst 1, 1) := by decide +kernel
theorem dX6_order_109 : decode cX6_order 109 = .ok (.ireturn, 1) := by decide +kernel
theorem dX6_parses_0 : decode cX6_parses 0 = .ok (.aload_n 0, 1) := by decide +kernel
theorem dX6_parses_1 : decode cX6_parses 1 = .ok (.iconst 0, 1) := by decide +kernel
theorem dX6_parses_2 : decode cX6_parses 2 = .ok (.putfield 186, 3) := by decide +kernel
theorem dX6_parses_5 : decode cX6_parses 5 = .ok (.aload_n 0, 1) := by decide +kernel
theorem dX6_parses_6 : decode cX6_parses 6 = .ok (.iconst 0, 1) := by decide +kernel
theorem dX6_parses_7 : decode cX6_parses 7 = .ok (.putfield 208, 3) := by decide +kernel
theorem dX6_parses_10 : decode cX6_parses 10 = .ok (.iconst 1, 1) := by decide +kernel
theorem dX6_parses_11 : decode cX6_parses 11 = .ok (.istore_n 1, 1) := by decide +kernel
theorem dX6_parses_12 : decode cX6_parses 12 = .ok (.aload_n 0, 1) := by decide +kernel
theorem dX6_parses_13 : decode cX6_parses 13 = .ok (.invokevirtual 195, 3) := by decide +kernel
theorem dX6_parses_16 : decode cX6_parses 16 = .ok (.iload_n 1, 1) := by decide +kernel
theorem dX6_parses_17 : decode cX6_parses 17 = .ok (.ifCond .eq 37, 3) := by decide +kernel
theorem dX6_parses_20 : decode cX6_parses 20 = .ok (.aload_n 0, 1) := by decide +kernel
theorem dX6_parses_21 : decode cX6_parses 21 = .ok (.getfield 208, 3) := by decide +kernel
theorem dX6_parses_24 : decode cX6_parses 24 = .ok (.ifCond .eq 14, 3) := by decide +kernel
theorem dX6_parses_27 : decode cX6_parses 27 = .ok (.aload_n 0, 1) := by decide +kernel
theorem dX6_parses_28 : decode cX6_parses 28 = .ok (.getfield 186, 3) := by decide +kernel
theorem dX6_parses_31 : decode cX6_parses 31 = .ok (.aload_n 0, 1) := by decide +kernel
theorem dX6_parses_32 : decode cX6_parses 32 = .ok (.getfield 183, 3) := by decide +kernel
theorem dX6_parses_35 : decode cX6_parses 35 = .ok (.if_icmp .ge 19, 3) := by decide +kernel
theorem dX6_parses_38 : decode cX6_parses 38 = .ok (.aload_n 0, 1) := by decide +kernel
theorem dX6_parses_39 : decode cX6_parses 39 = .ok (.invokevirtual 214, 3) := by decide +kernel
theorem dX6_parses_42 : decode cX6_parses 42 = .ok (.istore_n 1, 1) := by decide +kernel
theorem dX6_parses_43 : decode cX6_parses 43 = .ok (.iload_n 1, 1) := by decide +kernel
theorem dX6_parses_44 : decode cX6_parses 44 = .ok (.ifCond .eq (-28), 3) := by decide +kernel
theorem dX6_parses_47 : decode cX6_parses 47 = .ok (.aload_n 0, 1) := by decide +kernel
theorem dX6_parses_48 : decode cX6_parses 48 = .ok (.invokevirtual 195, 3) := by decide +kernel
theorem dX6_parses_51 : decode cX6_parses 51 = .ok (.goto (-35), 3) := by decide +kernel
theorem dX6_parses_54 : decode cX6_parses 54 = .ok (.iload_n 1, 1) := by decide +kernel
theorem dX6_parses_55 : decode cX6_parses 55 = .ok (.ireturn, 1) := by decide +kernel
theorem dX6_answers_0 : decode cX6_answers 0 = .ok (.iconst 5, 1) := by decide +kernel
theorem dX6_answers_1 : decode cX6_answers 1 = .ok (.iload_n 1, 1) := by decide +kernel
theorem dX6_answers_2 : decode cX6_answers 2 = .ok (.imul, 1) := by decide +kernel
theorem dX6_answers_3 : decode cX6_answers 3 = .ok (.istore_n 2, 1) := by decide +kernel
theorem dX6_answers_4 : decode cX6_answers 4 = .ok (.aload_n 0, 1) := by decide +kernel
theorem dX6_answers_5 : decode cX6_answers 5 = .ok (.getfield 25, 3) := by decide +kernel
theorem dX6_answers_8 : decode cX6_answers 8 = .ok (.iload_n 2, 1) := by decide +kernel
theorem dX6_answers_9 : decode cX6_answers 9 = .ok (.iaload, 1) := by decide +kernel
theorem dX6_answers_10 : decode cX6_answers 10 = .ok (.istore_n 3, 1) := by decide +kernel
theorem dX6_answers_11 : decode cX6_answers 11 = .ok (.aload_n 0, 1) := by decide +kernel
theorem dX6_answers_12 : decode cX6_answers 12 = .ok (.getfield 25, 3) := by decide +kernel
theorem dX6_answers_15 : decode cX6_answers 15 = .ok (.iload_n 2, 1) := by decide +kernel
theorem dX6_answers_16 : decode cX6_answers 16 = .ok (.iconst 1, 1) := by decide +kernel
theorem dX6_answers_17 : decode cX6_answers 17 = .ok (.iadd, 1) := by decide +kernel
theorem dX6_answers_18 : decode cX6_answers 18 = .ok (.iaload, 1) := by decide +kernel
theorem dX6_answers_19 : decode cX6_answers 19 = .ok (.istore 4, 2) := by decide +kernel
theorem dX6_answers_21 : decode cX6_answers 21 = .ok (.aload_n 0, 1) := by decide +kernel
theorem dX6_answers_22 : decode cX6_answers 22 = .ok (.getfield 25, 3) := by decide +kernel
theorem dX6_answers_25 : decode cX6_answers 25 = .ok (.iload_n 2, 1) := by decide +kernel
theorem dX6_answers_26 : decode cX6_answers 26 = .ok (.iconst 2, 1) := by decide +kernel
theorem dX6_answers_27 : decode cX6_answers 27 = .ok (.iadd, 1) := by decide +kernel
theorem dX6_answers_28 : decode cX6_answers 28 = .ok (.iaload, 1) := by decide +kernel
theorem dX6_answers_29 : decode cX6_answers 29 = .ok (.istore 5, 2) := by decide +kernel
theorem dX6_answers_31 : decode cX6_answers 31 = .ok (.aload_n 0, 1) := by decide +kernel
theorem dX6_answers_32 : decode cX6_answers 32 = .ok (.getfield 25, 3) := by decide +kernel
theorem dX6_answers_35 : decode cX6_answers 35 = .ok (.iload_n 2, 1) := by decide +kernel
theorem dX6_answers_36 : decode cX6_answers 36 = .ok (.iconst 3, 1) := by decide +kernel
theorem dX6_answers_37 : decode cX6_answers 37 = .ok (.iadd, 1) := by decide +kernel
theorem dX6_answers_38 : decode cX6_answers 38 = .ok (.iaload, 1) := by decide +kernel
theorem dX6_answers_39 : decode cX6_answers 39 = .ok (.istore 6, 2) := by decide +kernel
theorem dX6_answers_41 : decode cX6_answers 41 = .ok (.aload_n 0, 1) := by decide +kernel
theorem dX6_answers_42 : decode cX6_answers 42 = .ok (.getfield 22, 3) := by decide +kernel
theorem dX6_answers_45 : decode cX6_answers 45 = .ok (.iload_n 1, 1) := by decide +kernel
theorem dX6_answers_46 : decode cX6_answers 46 = .ok (.iaload, 1) := by decide +kernel
theorem dX6_answers_47 : decode cX6_answers 47 = .ok (.tableswitch 147 98 116 #[89, 147, 147, 123, 147, 147, 147, 147, 147, 147, 147, 147, 147, 95, 147, 147, 139, 103, 133], 89) := by decide +kernel
theorem dX6_answers_136 : decode cX6_answers 136 = .ok (.aload_n 0, 1) := by decide +kernel
theorem dX6_answers_137 : decode cX6_answers 137 = .ok (.iload_n 3, 1) := by decide +kernel
theorem dX6_answers_138 : decode cX6_answers 138 = .ok (.invokevirtual 217, 3) := by decide +kernel
theorem dX6_answers_141 : decode cX6_answers 141 = .ok (.ireturn, 1) := by decide +kernel
theorem dX6_answers_142 : decode cX6_answers 142 = .ok (.aload_n 0, 1) := by decide +kernel
theorem dX6_answers_143 : decode cX6_answers 143 = .ok (.iload_n 3, 1) := by decide +kernel
theorem dX6_answers_144 : decode cX6_answers 144 = .ok (.iload 4, 2) := by decide +kernel
theorem dX6_answers_146 : decode cX6_answers 146 = .ok (.invokevirtual 220, 3) := by decide +kernel
theorem dX6_answers_149 : decode cX6_answers 149 = .ok (.ireturn, 1) := by decide +kernel
theorem dX6_answers_150 : decode cX6_answers 150 = .ok (.aload_n 0, 1) := by decide +kernel
theorem dX6_answers_151 : decode cX6_answers 151 = .ok (.iload_n 3, 1) := by decide +kernel
theorem dX6_answers_152 : decode cX6_answers 152 = .ok (.iload 4, 2) := by decide +kernel
theorem dX6_answers_154 : decode cX6_answers 154 = .ok (.iload 5, 2) := by decide +kernel
theorem dX6_answers_156 : decode cX6_answers 156 = .ok (.iload 6, 2) := by decide +kernel
theorem dX6_answers_158 : decode cX6_answers 158 = .ok (.aload_n 0, 1) := by decide +kernel
theorem dX6_answers_159 : decode cX6_answers 159 = .ok (.getfield 25, 3) := by decide +kernel
theorem dX6_answers_162 : decode cX6_answers 162 = .ok (.iload_n 2, 1) := by decide +kernel
theorem dX6_answers_163 : decode cX6_answers 163 = .ok (.iconst 4, 1) := by decide +kernel
theorem dX6_answers_164 : decode cX6_answers 164 = .ok (.iadd, 1) := by decide +kernel
theorem dX6_answers_165 : decode cX6_answers 165 = .ok (.iaload, 1) := by decide +kernel
theorem dX6_answers_166 : decode cX6_answers 166 = .ok (.invokevirtual 223, 3) := by decide +kernel
theorem dX6_answers_169 : decode cX6_answers 169 = .ok (.ireturn, 1) := by decide +kernel
theorem dX6_answers_170 : decode cX6_answers 170 = .ok (.aload_n 0, 1) := by decide +kernel
theorem dX6_answers_171 : decode cX6_answers 171 = .ok (.iload_n 3, 1) := by decide +kernel
theorem dX6_answers_172 : decode cX6_answers 172 = .ok (.iload 4, 2) := by decide +kernel
theorem dX6_answers_174 : decode cX6_answers 174 = .ok (.iload 5, 2) := by decide +kernel
theorem dX6_answers_176 : decode cX6_answers 176 = .ok (.invokevirtual 227, 3) := by decide +kernel
theorem dX6_answers_179 : decode cX6_answers 179 = .ok (.ireturn, 1) := by decide +kernel
theorem dX6_answers_180 : decode cX6_answers 180 = .ok (.aload_n 0, 1) := by decide +kernel
theorem dX6_answers_181 : decode cX6_answers 181 = .ok (.iload_n 3, 1) := by decide +kernel
theorem dX6_answers_182 : decode cX6_answers 182 = .ok (.invokevirtual 230, 3) := by decide +kernel
theorem dX6_answers_185 : decode cX6_answers 185 = .ok (.ireturn, 1) := by decide +kernel
theorem dX6_answers_186 : decode cX6_answers 186 = .ok (.aload_n 0, 1) := by decide +kernel
theorem dX6_answers_187 : decode cX6_answers 187 = .ok (.iload_n 3, 1) := by decide +kernel
theorem dX6_answers_188 : decode cX6_answers 188 = .ok (.iload 4, 2) := by decide +kernel
theorem dX6_answers_190 : decode cX6_answers 190 = .ok (.invokevirtual 233, 3) := by decide +kernel
theorem dX6_answers_193 : decode cX6_answers 193 = .ok (.ireturn, 1) := by decide +kernel
theorem dX6_answers_194 : decode cX6_answers 194 = .ok (.aload_n 0, 1) := by decide +kernel
theorem dX6_answers_195 : decode cX6_answers 195 = .ok (.iload_n 3, 1) := by decide +kernel
theorem dX6_answers_196 : decode cX6_answers 196 = .ok (.iload 4, 2) := by decide +kernel
theorem dX6_answers_198 : decode cX6_answers 198 = .ok (.iload 5, 2) := by decide +kernel
theorem dX6_answers_200 : decode cX6_answers 200 = .ok (.iload 6, 2) := by decide +kernel
theorem dX6_answers_202 : decode cX6_answers 202 = .ok (.invokevirtual 236, 3) := by decide +kernel
theorem dX6_answers_205 : decode cX6_answers 205 = .ok (.ireturn, 1) := by decide +kernel
theorem dX6_does_0 : decode cX6_does 0 = .ok (.aload_n 0, 1) := by decide +kernel
theorem dX6_does_1 : decode cX6_does 1 = .ok (.invokevirtual 239, 3) := by decide +kernel
theorem dX6_does_4 : decode cX6_does 4 = .ok (.ifCond .ne 11, 3) := by decide +kernel
theorem dX6_does_7 : decode cX6_does 7 = .ok (.bipush (-10), 2) := by decide +kernel
theorem dX6_does_9 : decode cX6_does 9 = .ok (.aload_n 0, 1) := by decide +kernel
theorem dX6_does_10 : decode cX6_does 10 = .ok (.getfield 192, 3) := by decide +kernel
theorem dX6_does_13 : decode cX6_does 13 = .ok (.isub, 1) := by decide +kernel
theorem dX6_does_14 : decode cX6_does 14 = .ok (.ireturn, 1) := by decide +kernel
theorem dX6_does_15 : decode cX6_does 15 = .ok (.aload_n 0, 1) := by decide +kernel
theorem dX6_does_16 : decode cX6_does 16 = .ok (.aload_n 0, 1) := by decide +kernel
theorem dX6_does_17 : decode cX6_does 17 = .ok (.getfield 7, 3) := by decide +kernel
theorem dX6_does_20 : decode cX6_does 20 = .ok (.iconst 0, 1) := by decide +kernel
theorem dX6_does_21 : decode cX6_does 21 = .ok (.aload_n 0, 1) := by decide +kernel
theorem dX6_does_22 : decode cX6_does 22 = .ok (.getfield 13, 3) := by decide +kernel
theorem dX6_does_25 : decode cX6_does 25 = .ok (.sipush 5670, 3) := by decide +kernel
theorem dX6_does_28 : decode cX6_does 28 = .ok (.invokevirtual 44, 3) := by decide +kernel
theorem dX6_does_31 : decode cX6_does 31 = .ok (.aload_n 0, 1) := by decide +kernel
theorem dX6_does_32 : decode cX6_does 32 = .ok (.iconst 1, 1) := by decide +kernel
theorem dX6_does_33 : decode cX6_does 33 = .ok (.putfield 48, 3) := by decide +kernel
theorem dX6_does_36 : decode cX6_does 36 = .ok (.iconst 0, 1) := by decide +kernel
theorem dX6_does_37 : decode cX6_does 37 = .ok (.istore_n 1, 1) := by decide +kernel
theorem dX6_does_38 : decode cX6_does 38 = .ok (.iconst 0, 1) := by decide +kernel
theorem dX6_does_39 : decode cX6_does 39 = .ok (.istore_n 2, 1) := by decide +kernel
theorem dX6_does_40 : decode cX6_does 40 = .ok (.iload_n 2, 1) := by decide +kernel
theorem dX6_does_41 : decode cX6_does 41 = .ok (.aload_n 0, 1) := by decide +kernel
theorem dX6_does_42 : decode cX6_does 42 = .ok (.getfield 208, 3) := by decide +kernel
theorem dX6_does_45 : decode cX6_does 45 = .ok (.if_icmp .ge 33, 3) := by decide +kernel
theorem dX6_does_48 : decode cX6_does 48 = .ok (.aload_n 0, 1) := by decide +kernel
theorem dX6_does_49 : decode cX6_does 49 = .ok (.aload_n 0, 1) := by decide +kernel
theorem dX6_does_50 : decode cX6_does 50 = .ok (.iload_n 2, 1) := by decide +kernel
theorem dX6_does_51 : decode cX6_does 51 = .ok (.invokevirtual 242, 3) := by decide +kernel
theorem dX6_does_54 : decode cX6_does 54 = .ok (.putfield 245, 3) := by decide +kernel
theorem dX6_does_57 : decode cX6_does 57 = .ok (.iload_n 1, 1) := by decide +kernel
theorem dX6_does_58 : decode cX6_does 58 = .ok (.aload_n 0, 1) := by decide +kernel
theorem dX6_does_59 : decode cX6_does 59 = .ok (.getfield 245, 3) := by decide +kernel
theorem dX6_does_62 : decode cX6_does 62 = .ok (.ifCond .lt 7, 3) := by decide +kernel
theorem dX6_does_65 : decode cX6_does 65 = .ok (.iconst 1, 1) := by decide +kernel
theorem dX6_does_66 : decode cX6_does 66 = .ok (.goto 4, 3) := by decide +kernel
theorem dX6_does_69 : decode cX6_does 69 = .ok (.iconst 0, 1) := by decide +kernel
theorem dX6_does_70 : decode cX6_does 70 = .ok (.iadd, 1) := by decide +kernel
theorem dX6_does_71 : decode cX6_does 71 = .ok (.istore_n 1, 1) := by decide +kernel
theorem dX6_does_72 : decode cX6_does 72 = .ok (.iinc 2 1, 3) := by decide +kernel
theorem dX6_does_75 : decode cX6_does 75 = .ok (.goto (-35), 3) := by decide +kernel
theorem dX6_does_78 : decode cX6_does 78 = .ok (.aload_n 0, 1) := by decide +kernel
theorem dX6_does_79 : decode cX6_does 79 = .ok (.iconst 0, 1) := by decide +kernel
theorem dX6_does_80 : decode cX6_does 80 = .ok (.putfield 48, 3) := by decide +kernel
theorem dX6_does_83 : decode cX6_does 83 = .ok (.aload_n 0, 1) := by decide +kernel
theorem dX6_does_84 : decode cX6_does 84 = .ok (.aload_n 0, 1) := by decide +kernel
theorem dX6_does_85 : decode cX6_does 85 = .ok (.getfield 13, 3) := by decide +kernel
theorem dX6_does_88 : decode cX6_does 88 = .ok (.sipush 5670, 3) := by decide +kernel
theorem dX6_does_91 : decode cX6_does 91 = .ok (.invokevirtual 52, 3) := by decide +kernel
theorem dX6_does_94 : decode cX6_does 94 = .ok (.iload_n 1, 1) := by decide +kernel
theorem dX6_does_95 : decode cX6_does 95 = .ok (.ireturn, 1) := by decide +kernel
theorem dX6_asked_0 : decode cX6_asked 0 = .ok (.aload_n 0, 1) := by decide +kernel
theorem dX6_asked_1 : decode cX6_asked 1 = .ok (.getfield 245, 3) := by decide +kernel
theorem dX6_asked_4 : decode cX6_asked 4 = .ok (.ireturn, 1) := by decide +kernel
theorem dX6_sumOf_0 : decode cX6_sumOf 0 = .ok (.iconst 0, 1) := by decide +kernel
theorem dX6_sumOf_1 : decode cX6_sumOf 1 = .ok (.istore_n 2, 1) := by decide +kernel
theorem dX6_sumOf_2 : decode cX6_sumOf 2 = .ok (.iconst 0, 1) := by decide +kernel
theorem dX6_sumOf_3 : decode cX6_sumOf 3 = .ok (.istore_n 3, 1) := by decide +kernel
theorem dX6_sumOf_4 : decode cX6_sumOf 4 = .ok (.iload_n 3, 1) := by decide +kernel
theorem dX6_sumOf_5 : decode cX6_sumOf 5 = .ok (.iconst 3, 1) := by decide +kernel
theorem dX6_sumOf_6 : decode cX6_sumOf 6 = .ok (.if_icmp .ge 45, 3) := by decide +kernel
theorem dX6_sumOf_9 : decode cX6_sumOf 9 = .ok (.iload_n 2, 1) := by decide +kernel
theorem dX6_sumOf_10 : decode cX6_sumOf 10 = .ok (.iload_n 1, 1) := by decide +kernel
theorem dX6_sumOf_11 : decode cX6_sumOf 11 = .ok (.iconst 4, 1) := by decide +kernel
theorem dX6_sumOf_12 : decode cX6_sumOf 12 = .ok (.if_icmp .ne 11, 3) := by decide +kernel
theorem dX6_sumOf_15 : decode cX6_sumOf 15 = .ok (.aload_n 0, 1) := by decide +kernel
theorem dX6_sumOf_16 : decode cX6_sumOf 16 = .ok (.iload_n 3, 1) := by decide +kernel
theorem dX6_sumOf_17 : decode cX6_sumOf 17 = .ok (.invokevirtual 70, 3) := by decide +kernel
theorem dX6_sumOf_20 : decode cX6_sumOf 20 = .ok (.goto 23, 3) := by decide +kernel
theorem dX6_sumOf_23 : decode cX6_sumOf 23 = .ok (.iload_n 1, 1) := by decide +kernel
theorem dX6_sumOf_24 : decode cX6_sumOf 24 = .ok (.iconst 5, 1) := by decide +kernel
theorem dX6_sumOf_25 : decode cX6_sumOf 25 = .ok (.if_icmp .ne 12, 3) := by decide +kernel
theorem dX6_sumOf_28 : decode cX6_sumOf 28 = .ok (.aload_n 0, 1) := by decide +kernel
theorem dX6_sumOf_29 : decode cX6_sumOf 29 = .ok (.iload_n 3, 1) := by decide +kernel
theorem dX6_sumOf_30 : decode cX6_sumOf 30 = .ok (.iconst 0, 1) := by decide +kernel
theorem dX6_sumOf_31 : decode cX6_sumOf 31 = .ok (.invokevirtual 164, 3) := by decide +kernel
theorem dX6_sumOf_34 : decode cX6_sumOf 34 = .ok (.goto 9, 3) := by decide +kernel
theorem dX6_sumOf_37 : decode cX6_sumOf 37 = .ok (.aload_n 0, 1) := by decide +kernel
theorem dX6_sumOf_38 : decode cX6_sumOf 38 = .ok (.iload_n 3, 1) := by decide +kernel
theorem dX6_sumOf_39 : decode cX6_sumOf 39 = .ok (.iconst 0, 1) := by decide +kernel
theorem dX6_sumOf_40 : decode cX6_sumOf 40 = .ok (.invokevirtual 161, 3) := by decide +kernel
theorem dX6_sumOf_43 : decode cX6_sumOf 43 = .ok (.iadd, 1) := by decide +kernel
theorem dX6_sumOf_44 : decode cX6_sumOf 44 = .ok (.istore_n 2, 1) := by decide +kernel
theorem dX6_sumOf_45 : decode cX6_sumOf 45 = .ok (.iinc 3 1, 3) := by decide +kernel
theorem dX6_sumOf_48 : decode cX6_sumOf 48 = .ok (.goto (-44), 3) := by decide +kernel
theorem dX6_sumOf_51 : decode cX6_sumOf 51 = .ok (.iload_n 2, 1) := by decide +kernel
theorem dX6_sumOf_52 : decode cX6_sumOf 52 = .ok (.ireturn, 1) := by decide +kernel
theorem dX6_dues_0 : decode cX6_dues 0 = .ok (.iconst 0, 1) := by decide +kernel
theorem dX6_dues_1 : decode cX6_dues 1 = .ok (.istore_n 1, 1) := by decide +kernel
theorem dX6_dues_2 : decode cX6_dues 2 = .ok (.iconst 0, 1) := by decide +kernel
theorem dX6_dues_3 : decode cX6_dues 3 = .ok (.istore_n 2, 1) := by decide +kernel
theorem dX6_dues_4 : decode cX6_dues 4 = .ok (.iload_n 2, 1) := by decide +kernel
theorem dX6_dues_5 : decode cX6_dues 5 = .ok (.iconst 4, 1) := by decide +kernel
theorem dX6_dues_6 : decode cX6_dues 6 = .ok (.if_icmp .ge 17, 3) := by decide +kernel
theorem dX6_dues_9 : decode cX6_dues 9 = .ok (.iload_n 1, 1) := by decide +kernel
theorem dX6_dues_10 : decode cX6_dues 10 = .ok (.aload_n 0, 1) := by decide +kernel
theorem dX6_dues_11 : decode cX6_dues 11 = .ok (.iload_n 2, 1) := by decide +kernel
theorem dX6_dues_12 : decode cX6_dues 12 = .ok (.invokevirtual 149, 3) := by decide +kernel
theorem dX6_dues_15 : decode cX6_dues 15 = .ok (.iadd, 1) := by decide +kernel
theorem dX6_dues_16 : decode cX6_dues 16 = .ok (.istore_n 1, 1) := by decide +kernel
theorem dX6_dues_17 : decode cX6_dues 17 = .ok (.iinc 2 1, 3) := by decide +kernel
theorem dX6_dues_20 : decode cX6_dues 20 = .ok (.goto (-16), 3) := by decide +kernel
theorem dX6_dues_23 : decode cX6_dues 23 = .ok (.iload_n 1, 1) := by decide +kernel
theorem dX6_dues_24 : decode cX6_dues 24 = .ok (.ireturn, 1) := by decide +kernel
theorem dX6_tellAll_0 : decode cX6_tellAll 0 = .ok (.iload_n 1, 1) := by decide +kernel
theorem dX6_tellAll_1 : decode cX6_tellAll 1 = .ok (.tableswitch 78 0 7 #[47, 54, 61, 67, 78, 78, 78, 73], 47) := by decide +kernel
theorem dX6_tellAll_48 : decode cX6_tellAll 48 = .ok (.aload_n 0, 1) := by decide +kernel
theorem dX6_tellAll_49 : decode cX6_tellAll 49 = .ok (.getfield 7, 3) := by decide +kernel
theorem dX6_tellAll_52 : decode cX6_tellAll 52 = .ok (.iconst 0, 1) := by decide +kernel
theorem dX6_tellAll_53 : decode cX6_tellAll 53 = .ok (.iaload, 1) := by decide +kernel
theorem dX6_tellAll_54 : decode cX6_tellAll 54 = .ok (.ireturn, 1) := by decide +kernel
theorem dX6_tellAll_55 : decode cX6_tellAll 55 = .ok (.aload_n 0, 1) := by decide +kernel
theorem dX6_tellAll_56 : decode cX6_tellAll 56 = .ok (.getfield 7, 3) := by decide +kernel
theorem dX6_tellAll_59 : decode cX6_tellAll 59 = .ok (.iconst 1, 1) := by decide +kernel
theorem dX6_tellAll_60 : decode cX6_tellAll 60 = .ok (.iaload, 1) := by decide +kernel
theorem dX6_tellAll_61 : decode cX6_tellAll 61 = .ok (.ireturn, 1) := by decide +kernel
theorem dX6_tellAll_62 : decode cX6_tellAll 62 = .ok (.aload_n 0, 1) := by decide +kernel
theorem dX6_tellAll_63 : decode cX6_tellAll 63 = .ok (.iconst 1, 1) := by decide +kernel
theorem dX6_tellAll_64 : decode cX6_tellAll 64 = .ok (.invokevirtual 121, 3) := by decide +kernel
theorem dX6_tellAll_67 : decode cX6_tellAll 67 = .ok (.ireturn, 1) := by decide +kernel
theorem dX6_tellAll_68 : decode cX6_tellAll 68 = .ok (.aload_n 0, 1) := by decide +kernel
theorem dX6_tellAll_69 : decode cX6_tellAll 69 = .ok (.iconst 2, 1) := by decide +kernel
theorem dX6_tellAll_70 : decode cX6_tellAll 70 = .ok (.invokevirtual 121, 3) := by decide +kernel
theorem dX6_tellAll_73 : decode cX6_tellAll 73 = .ok (.ireturn, 1) := by decide +kernel
theorem dX6_tellAll_74 : decode cX6_tellAll 74 = .ok (.aload_n 0, 1) := by decide +kernel
theorem dX6_tellAll_75 : decode cX6_tellAll 75 = .ok (.invokevirtual 248, 3) := by decide +kernel
theorem dX6_tellAll_78 : decode cX6_tellAll 78 = .ok (.ireturn, 1) := by decide +kernel
theorem dX6_tellAll_79 : decode cX6_tellAll 79 = .ok (.aload_n 0, 1) := by decide +kernel
theorem dX6_tellAll_80 : decode cX6_tellAll 80 = .ok (.iload_n 1, 1) := by decide +kernel
theorem dX6_tellAll_81 : decode cX6_tellAll 81 = .ok (.invokevirtual 251, 3) := by decide +kernel
theorem dX6_tellAll_84 : decode cX6_tellAll 84 = .ok (.ireturn, 1) := by decide +kernel
theorem dX6_all_0 : decode cX6_all 0 = .ok (.iload_n 1, 1) := by decide +kernel
theorem dX6_all_1 : decode cX6_all 1 = .ok (.iconst 0, 1) := by decide +kernel
theorem dX6_all_2 : decode cX6_all 2 = .ok (.bipush 7, 2) := by decide +kernel
theorem dX6_all_4 : decode cX6_all 4 = .ok (.invokestatic 36, 3) := by decide +kernel
theorem dX6_all_7 : decode cX6_all 7 = .ok (.ifCond .eq 11, 3) := by decide +kernel
theorem dX6_all_10 : decode cX6_all 10 = .ok (.aload_n 0, 1) := by decide +kernel
theorem dX6_all_11 : decode cX6_all 11 = .ok (.iload_n 1, 1) := by decide +kernel
theorem dX6_all_12 : decode cX6_all 12 = .ok (.invokevirtual 254, 3) := by decide +kernel
theorem dX6_all_15 : decode cX6_all 15 = .ok (.goto 7, 3) := by decide +kernel
theorem dX6_all_18 : decode cX6_all 18 = .ok (.aload_n 0, 1) := by decide +kernel
theorem dX6_all_19 : decode cX6_all 19 = .ok (.invokevirtual 111, 3) := by decide +kernel
theorem dX6_all_22 : decode cX6_all 22 = .ok (.ireturn, 1) := by decide +kernel
theorem dX6_back_0 : decode cX6_back 0 = .ok (.aload_n 0, 1) := by decide +kernel
theorem dX6_back_1 : decode cX6_back 1 = .ok (.getfield 40, 3) := by decide +kernel
theorem dX6_back_4 : decode cX6_back 4 = .ok (.ifCond .ne 11, 3) := by decide +kernel
theorem dX6_back_7 : decode cX6_back 7 = .ok (.aload_n 0, 1) := by decide +kernel
theorem dX6_back_8 : decode cX6_back 8 = .ok (.iconst 2, 1) := by decide +kernel
theorem dX6_back_9 : decode cX6_back 9 = .ok (.bipush (-3), 2) := by decide +kernel
theorem dX6_back_11 : decode cX6_back 11 = .ok (.invokevirtual 32, 3) := by decide +kernel
theorem dX6_back_14 : decode cX6_back 14 = .ok (.ireturn, 1) := by decide +kernel
theorem dX6_back_15 : decode cX6_back 15 = .ok (.aload_n 0, 1) := by decide +kernel
theorem dX6_back_16 : decode cX6_back 16 = .ok (.dup, 1) := by decide +kernel
theorem dX6_back_17 : decode cX6_back 17 = .ok (.getfield 40, 3) := by decide +kernel
theorem dX6_back_20 : decode cX6_back 20 = .ok (.iconst 1, 1) := by decide +kernel
theorem dX6_back_21 : decode cX6_back 21 = .ok (.isub, 1) := by decide +kernel
theorem dX6_back_22 : decode cX6_back 22 = .ok (.putfield 40, 3) := by decide +kernel
theorem dX6_back_25 : decode cX6_back 25 = .ok (.aload_n 0, 1) := by decide +kernel
theorem dX6_back_26 : decode cX6_back 26 = .ok (.aload_n 0, 1) := by decide +kernel
theorem dX6_back_27 : decode cX6_back 27 = .ok (.getfield 13, 3) := by decide +kernel
theorem dX6_back_30 : decode cX6_back 30 = .ok (.sipush 945, 3) := by decide +kernel
theorem dX6_back_33 : decode cX6_back 33 = .ok (.aload_n 0, 1) := by decide +kernel
theorem dX6_back_34 : decode cX6_back 34 = .ok (.getfield 40, 3) := by decide +kernel
theorem dX6_back_37 : decode cX6_back 37 = .ok (.imul, 1) := by decide +kernel
theorem dX6_back_38 : decode cX6_back 38 = .ok (.aload_n 0, 1) := by decide +kernel
theorem dX6_back_39 : decode cX6_back 39 = .ok (.getfield 7, 3) := by decide +kernel
theorem dX6_back_42 : decode cX6_back 42 = .ok (.iconst 0, 1) := by decide +kernel
theorem dX6_back_43 : decode cX6_back 43 = .ok (.invokevirtual 44, 3) := by decide +kernel
theorem dX6_back_46 : decode cX6_back 46 = .ok (.aload_n 0, 1) := by decide +kernel
theorem dX6_back_47 : decode cX6_back 47 = .ok (.getfield 40, 3) := by decide +kernel
theorem dX6_back_50 : decode cX6_back 50 = .ok (.ireturn, 1) := by decide +kernel
theorem dX6_tell_0 : decode cX6_tell 0 = .ok (.iload_n 1, 1) := by decide +kernel
theorem dX6_tell_1 : decode cX6_tell 1 = .ok (.iconst 5, 1) := by decide +kernel
theorem dX6_tell_2 : decode cX6_tell 2 = .ok (.if_icmp .ge 12, 3) := by decide +kernel
theorem dX6_tell_5 : decode cX6_tell 5 = .ok (.aload_n 0, 1) := by decide +kernel
theorem dX6_tell_6 : decode cX6_tell 6 = .ok (.getfield 16, 3) := by decide +kernel
theorem dX6_tell_9 : decode cX6_tell 9 = .ok (.iload_n 1, 1) := by decide +kernel
theorem dX6_tell_10 : decode cX6_tell 10 = .ok (.iaload, 1) := by decide +kernel
theorem dX6_tell_11 : decode cX6_tell 11 = .ok (.goto 19, 3) := by decide +kernel
theorem dX6_tell_14 : decode cX6_tell 14 = .ok (.iload_n 1, 1) := by decide +kernel
theorem dX6_tell_15 : decode cX6_tell 15 = .ok (.iconst 5, 1) := by decide +kernel
theorem dX6_tell_16 : decode cX6_tell 16 = .ok (.if_icmp .ne 10, 3) := by decide +kernel
theorem dX6_tell_19 : decode cX6_tell 19 = .ok (.aload_n 0, 1) := by decide +kernel
theorem dX6_tell_20 : decode cX6_tell 20 = .ok (.getfield 183, 3) := by decide +kernel
theorem dX6_tell_23 : decode cX6_tell 23 = .ok (.goto 7, 3) := by decide +kernel
theorem dX6_tell_26 : decode cX6_tell 26 = .ok (.aload_n 0, 1) := by decide +kernel
theorem dX6_tell_27 : decode cX6_tell 27 = .ok (.getfield 40, 3) := by decide +kernel
theorem dX6_tell_30 : decode cX6_tell 30 = .ok (.ireturn, 1) := by decide +kernel
theorem dX6_told_0 : decode cX6_told 0 = .ok (.iload_n 1, 1) := by decide +kernel
theorem dX6_told_1 : decode cX6_told 1 = .ok (.iconst 0, 1) := by decide +kernel
theorem dX6_told_2 : decode cX6_told 2 = .ok (.bipush 6, 2) := by decide +kernel
theorem dX6_told_4 : decode cX6_told 4 = .ok (.invokestatic 36, 3) := by decide +kernel
theorem dX6_told_7 : decode cX6_told 7 = .ok (.ifCond .eq 11, 3) := by decide +kernel
theorem dX6_told_10 : decode cX6_told 10 = .ok (.aload_n 0, 1) := by decide +kernel
theorem dX6_told_11 : decode cX6_told 11 = .ok (.iload_n 1, 1) := by decide +kernel
theorem dX6_told_12 : decode cX6_told 12 = .ok (.invokevirtual 257, 3) := by decide +kernel
theorem dX6_told_15 : decode cX6_told 15 = .ok (.goto 7, 3) := by decide +kernel
theorem dX6_told_18 : decode cX6_told 18 = .ok (.aload_n 0, 1) := by decide +kernel
theorem dX6_told_19 : decode cX6_told 19 = .ok (.invokevirtual 111, 3) := by decide +kernel
theorem dX6_told_22 : decode cX6_told 22 = .ok (.ireturn, 1) := by decide +kernel
theorem dX6_more_0 : decode cX6_more 0 = .ok (.aload_n 0, 1) := by decide +kernel
theorem dX6_more_1 : decode cX6_more 1 = .ok (.ldc2_w 260, 3) := by decide +kernel
theorem dX6_more_4 : decode cX6_more 4 = .ok (.aload_n 0, 1) := by decide +kernel
theorem dX6_more_5 : decode cX6_more 5 = .ok (.getfield 262, 3) := by decide +kernel
theorem dX6_more_8 : decode cX6_more 8 = .ok (.lmul, 1) := by decide +kernel
theorem dX6_more_9 : decode cX6_more 9 = .ok (.iload_n 1, 1) := by decide +kernel
theorem dX6_more_10 : decode cX6_more 10 = .ok (.i2l, 1) := by decide +kernel
theorem dX6_more_11 : decode cX6_more 11 = .ok (.ladd, 1) := by decide +kernel
theorem dX6_more_12 : decode cX6_more 12 = .ok (.putfield 262, 3) := by decide +kernel
theorem dX6_more_15 : decode cX6_more 15 = .ok (.return_, 1) := by decide +kernel
theorem dX6_morePart_0 : decode cX6_morePart 0 = .ok (.iconst 0, 1) := by decide +kernel
theorem dX6_morePart_1 : decode cX6_morePart 1 = .ok (.istore_n 2, 1) := by decide +kernel
theorem dX6_morePart_2 : decode cX6_morePart 2 = .ok (.iload_n 2, 1) := by decide +kernel
theorem dX6_morePart_3 : decode cX6_morePart 3 = .ok (.bipush 6, 2) := by decide +kernel
theorem dX6_morePart_5 : decode cX6_morePart 5 = .ok (.if_icmp .ge 19, 3) := by decide +kernel
theorem dX6_morePart_8 : decode cX6_morePart 8 = .ok (.aload_n 0, 1) := by decide +kernel
theorem dX6_morePart_9 : decode cX6_morePart 9 = .ok (.aload_n 0, 1) := by decide +kernel
theorem dX6_morePart_10 : decode cX6_morePart 10 = .ok (.iload_n 1, 1) := by decide +kernel
theorem dX6_morePart_11 : decode cX6_morePart 11 = .ok (.iload_n 2, 1) := by decide +kernel
theorem dX6_morePart_12 : decode cX6_morePart 12 = .ok (.invokevirtual 168, 3) := by decide +kernel
theorem dX6_morePart_15 : decode cX6_morePart 15 = .ok (.invokevirtual 266, 3) := by decide +kernel
theorem dX6_morePart_18 : decode cX6_morePart 18 = .ok (.iinc 2 1, 3) := by decide +kernel
theorem dX6_morePart_21 : decode cX6_morePart 21 = .ok (.goto (-19), 3) := by decide +kernel
theorem dX6_morePart_24 : decode cX6_morePart 24 = .ok (.iconst 0, 1) := by decide +kernel
theorem dX6_morePart_25 : decode cX6_morePart 25 = .ok (.istore_n 2, 1) := by decide +kernel
theorem dX6_morePart_26 : decode cX6_morePart 26 = .ok (.iload_n 2, 1) := by decide +kernel
theorem dX6_morePart_27 : decode cX6_morePart 27 = .ok (.aload_n 0, 1) := by decide +kernel
theorem dX6_morePart_28 : decode cX6_morePart 28 = .ok (.iload_n 1, 1) := by decide +kernel
theorem dX6_morePart_29 : decode cX6_morePart 29 = .ok (.invokevirtual 70, 3) := by decide +kernel
theorem dX6_morePart_32 : decode cX6_morePart 32 = .ok (.if_icmp .ge 34, 3) := by decide +kernel
theorem dX6_morePart_35 : decode cX6_morePart 35 = .ok (.iconst 0, 1) := by decide +kernel
theorem dX6_morePart_36 : decode cX6_morePart 36 = .ok (.istore_n 3, 1) := by decide +kernel
theorem dX6_morePart_37 : decode cX6_morePart 37 = .ok (.iload_n 3, 1) := by decide +kernel
theorem dX6_morePart_38 : decode cX6_morePart 38 = .ok (.bipush 7, 2) := by decide +kernel
theorem dX6_morePart_40 : decode cX6_morePart 40 = .ok (.if_icmp .ge 20, 3) := by decide +kernel
theorem dX6_morePart_43 : decode cX6_morePart 43 = .ok (.aload_n 0, 1) := by decide +kernel
theorem dX6_morePart_44 : decode cX6_morePart 44 = .ok (.aload_n 0, 1) := by decide +kernel
theorem dX6_morePart_45 : decode cX6_morePart 45 = .ok (.iload_n 1, 1) := by decide +kernel
theorem dX6_morePart_46 : decode cX6_morePart 46 = .ok (.iload_n 2, 1) := by decide +kernel
theorem dX6_morePart_47 : decode cX6_morePart 47 = .ok (.iload_n 3, 1) := by decide +kernel
theorem dX6_morePart_48 : decode cX6_morePart 48 = .ok (.invokevirtual 155, 3) := by decide +kernel
theorem dX6_morePart_51 : decode cX6_morePart 51 = .ok (.invokevirtual 266, 3) := by decide +kernel
theorem dX6_morePart_54 : decode cX6_morePart 54 = .ok (.iinc 3 1, 3) := by decide +kernel
theorem dX6_morePart_57 : decode cX6_morePart 57 = .ok (.goto (-20), 3) := by decide +kernel
theorem dX6_morePart_60 : decode cX6_morePart 60 = .ok (.iinc 2 1, 3) := by decide +kernel
theorem dX6_morePart_63 : decode cX6_morePart 63 = .ok (.goto (-37), 3) := by decide +kernel
theorem dX6_morePart_66 : decode cX6_morePart 66 = .ok (.iconst 0, 1) := by decide +kernel
theorem dX6_morePart_67 : decode cX6_morePart 67 = .ok (.istore_n 2, 1) := by decide +kernel
theorem dX6_morePart_68 : decode cX6_morePart 68 = .ok (.iload_n 2, 1) := by decide +kernel
theorem dX6_morePart_69 : decode cX6_morePart 69 = .ok (.aload_n 0, 1) := by decide +kernel
theorem dX6_morePart_70 : decode cX6_morePart 70 = .ok (.iload_n 1, 1) := by decide +kernel
theorem dX6_morePart_71 : decode cX6_morePart 71 = .ok (.iconst 1, 1) := by decide +kernel
theorem dX6_morePart_72 : decode cX6_morePart 72 = .ok (.invokevirtual 164, 3) := by decide +kernel
theorem dX6_morePart_75 : decode cX6_morePart 75 = .ok (.if_icmp .ge 33, 3) := by decide +kernel
theorem dX6_morePart_78 : decode cX6_morePart 78 = .ok (.iconst 0, 1) := by decide +kernel
theorem dX6_morePart_79 : decode cX6_morePart 79 = .ok (.istore_n 3, 1) := by decide +kernel
theorem dX6_morePart_80 : decode cX6_morePart 80 = .ok (.iload_n 3, 1) := by decide +kernel
theorem dX6_morePart_81 : decode cX6_morePart 81 = .ok (.iconst 3, 1) := by decide +kernel
theorem dX6_morePart_82 : decode cX6_morePart 82 = .ok (.if_icmp .ge 20, 3) := by decide +kernel
theorem dX6_morePart_85 : decode cX6_morePart 85 = .ok (.aload_n 0, 1) := by decide +kernel
theorem dX6_morePart_86 : decode cX6_morePart 86 = .ok (.aload_n 0, 1) := by decide +kernel
theorem dX6_morePart_87 : decode cX6_morePart 87 = .ok (.iload_n 1, 1) := by decide +kernel
theorem dX6_morePart_88 : decode cX6_morePart 88 = .ok (.iload_n 2, 1) := by decide +kernel
theorem dX6_morePart_89 : decode cX6_morePart 89 = .ok (.iload_n 3, 1) := by decide +kernel
theorem dX6_morePart_90 : decode cX6_morePart 90 = .ok (.invokevirtual 174, 3) := by decide +kernel
theorem dX6_morePart_93 : decode cX6_morePart 93 = .ok (.invokevirtual 266, 3) := by decide +kernel
theorem dX6_morePart_96 : decode cX6_morePart 96 = .ok (.iinc 3 1, 3) := by decide +kernel
theorem dX6_morePart_99 : decode cX6_morePart 99 = .ok (.goto (-19), 3) := by decide +kernel
theorem dX6_morePart_102 : decode cX6_morePart 102 = .ok (.iinc 2 1, 3) := by decide +kernel
theorem dX6_morePart_105 : decode cX6_morePart 105 = .ok (.goto (-37), 3) := by decide +kernel
theorem dX6_morePart_108 : decode cX6_morePart 108 = .ok (.return_, 1) := by decide +kernel
theorem dX6_digest_0 : decode cX6_digest 0 = .ok (.aload_n 0, 1) := by decide +kernel
theorem dX6_digest_1 : decode cX6_digest 1 = .ok (.ldc2_w 269, 3) := by decide +kernel
theorem dX6_digest_4 : decode cX6_digest 4 = .ok (.putfield 262, 3) := by decide +kernel
theorem dX6_digest_7 : decode cX6_digest 7 = .ok (.iconst 0, 1) := by decide +kernel
theorem dX6_digest_8 : decode cX6_digest 8 = .ok (.istore_n 1, 1) := by decide +kernel
theorem dX6_digest_9 : decode cX6_digest 9 = .ok (.iload_n 1, 1) := by decide +kernel
theorem dX6_digest_10 : decode cX6_digest 10 = .ok (.bipush 7, 2) := by decide +kernel
theorem dX6_digest_12 : decode cX6_digest 12 = .ok (.if_icmp .ge 18, 3) := by decide +kernel
theorem dX6_digest_15 : decode cX6_digest 15 = .ok (.aload_n 0, 1) := by decide +kernel
theorem dX6_digest_16 : decode cX6_digest 16 = .ok (.aload_n 0, 1) := by decide +kernel
theorem dX6_digest_17 : decode cX6_digest 17 = .ok (.iload_n 1, 1) := by decide +kernel
theorem dX6_digest_18 : decode cX6_digest 18 = .ok (.invokevirtual 257, 3) := by decide +kernel
theorem dX6_digest_21 : decode cX6_digest 21 = .ok (.invokevirtual 266, 3) := by decide +kernel
theorem dX6_digest_24 : decode cX6_digest 24 = .ok (.iinc 1 1, 3) := by decide +kernel
theorem dX6_digest_27 : decode cX6_digest 27 = .ok (.goto (-18), 3) := by decide +kernel
theorem dX6_digest_30 : decode cX6_digest 30 = .ok (.iconst 0, 1) := by decide +kernel
theorem dX6_digest_31 : decode cX6_digest 31 = .ok (.istore_n 1, 1) := by decide +kernel
theorem dX6_digest_32 : decode cX6_digest 32 = .ok (.iload_n 1, 1) := by decide +kernel
theorem dX6_digest_33 : decode cX6_digest 33 = .ok (.bipush 8, 2) := by decide +kernel
theorem dX6_digest_35 : decode cX6_digest 35 = .ok (.if_icmp .ge 18, 3) := by decide +kernel
theorem dX6_digest_38 : decode cX6_digest 38 = .ok (.aload_n 0, 1) := by decide +kernel
theorem dX6_digest_39 : decode cX6_digest 39 = .ok (.aload_n 0, 1) := by decide +kernel
theorem dX6_digest_40 : decode cX6_digest 40 = .ok (.iload_n 1, 1) := by decide +kernel
theorem dX6_digest_41 : decode cX6_digest 41 = .ok (.invokevirtual 254, 3) := by decide +kernel
theorem dX6_digest_44 : decode cX6_digest 44 = .ok (.invokevirtual 266, 3) := by decide +kernel
theorem dX6_digest_47 : decode cX6_digest 47 = .ok (.iinc 1 1, 3) := by decide +kernel
theorem dX6_digest_50 : decode cX6_digest 50 = .ok (.goto (-18), 3) := by decide +kernel
theorem dX6_digest_53 : decode cX6_digest 53 = .ok (.iconst 0, 1) := by decide +kernel
theorem dX6_digest_54 : decode cX6_digest 54 = .ok (.istore_n 1, 1) := by decide +kernel
theorem dX6_digest_55 : decode cX6_digest 55 = .ok (.iload_n 1, 1) := by decide +kernel
theorem dX6_digest_56 : decode cX6_digest 56 = .ok (.iconst 4, 1) := by decide +kernel
theorem dX6_digest_57 : decode cX6_digest 57 = .ok (.if_icmp .ge 33, 3) := by decide +kernel
theorem dX6_digest_60 : decode cX6_digest 60 = .ok (.iconst 0, 1) := by decide +kernel
theorem dX6_digest_61 : decode cX6_digest 61 = .ok (.istore_n 2, 1) := by decide +kernel
theorem dX6_digest_62 : decode cX6_digest 62 = .ok (.iload_n 2, 1) := by decide +kernel
theorem dX6_digest_63 : decode cX6_digest 63 = .ok (.bipush 9, 2) := by decide +kernel
theorem dX6_digest_65 : decode cX6_digest 65 = .ok (.if_icmp .ge 19, 3) := by decide +kernel
theorem dX6_digest_68 : decode cX6_digest 68 = .ok (.aload_n 0, 1) := by decide +kernel
theorem dX6_digest_69 : decode cX6_digest 69 = .ok (.aload_n 0, 1) := by decide +kernel
theorem dX6_digest_70 : decode cX6_digest 70 = .ok (.iload_n 1, 1) := by decide +kernel
theorem dX6_digest_71 : decode cX6_digest 71 = .ok (.iload_n 2, 1) := by decide +kernel
theorem dX6_digest_72 : decode cX6_digest 72 = .ok (.invokevirtual 152, 3) := by decide +kernel
theorem dX6_digest_75 : decode cX6_digest 75 = .ok (.invokevirtual 266, 3) := by decide +kernel
theorem dX6_digest_78 : decode cX6_digest 78 = .ok (.iinc 2 1, 3) := by decide +kernel
theorem dX6_digest_81 : decode cX6_digest 81 = .ok (.goto (-19), 3) := by decide +kernel
theorem dX6_digest_84 : decode cX6_digest 84 = .ok (.iinc 1 1, 3) := by decide +kernel
theorem dX6_digest_87 : decode cX6_digest 87 = .ok (.goto (-32), 3) := by decide +kernel
theorem dX6_digest_90 : decode cX6_digest 90 = .ok (.iconst 0, 1) := by decide +kernel
theorem dX6_digest_91 : decode cX6_digest 91 = .ok (.istore_n 1, 1) := by decide +kernel
theorem dX6_digest_92 : decode cX6_digest 92 = .ok (.iload_n 1, 1) := by decide +kernel
theorem dX6_digest_93 : decode cX6_digest 93 = .ok (.iconst 3, 1) := by decide +kernel
theorem dX6_digest_94 : decode cX6_digest 94 = .ok (.if_icmp .ge 14, 3) := by decide +kernel
theorem dX6_digest_97 : decode cX6_digest 97 = .ok (.aload_n 0, 1) := by decide +kernel
theorem dX6_digest_98 : decode cX6_digest 98 = .ok (.iload_n 1, 1) := by decide +kernel
theorem dX6_digest_99 : decode cX6_digest 99 = .ok (.invokevirtual 271, 3) := by decide +kernel
theorem dX6_digest_102 : decode cX6_digest 102 = .ok (.iinc 1 1, 3) := by decide +kernel
theorem dX6_digest_105 : decode cX6_digest 105 = .ok (.goto (-13), 3) := by decide +kernel
theorem dX6_digest_108 : decode cX6_digest 108 = .ok (.iconst 0, 1) := by decide +kernel
theorem dX6_digest_109 : decode cX6_digest 109 = .ok (.istore_n 1, 1) := by decide +kernel
theorem dX6_digest_110 : decode cX6_digest 110 = .ok (.iload_n 1, 1) := by decide +kernel
theorem dX6_digest_111 : decode cX6_digest 111 = .ok (.bipush 24, 2) := by decide +kernel
theorem dX6_digest_113 : decode cX6_digest 113 = .ok (.if_icmp .ge 29, 3) := by decide +kernel
theorem dX6_digest_116 : decode cX6_digest 116 = .ok (.aload_n 0, 1) := by decide +kernel
theorem dX6_digest_117 : decode cX6_digest 117 = .ok (.aload_n 0, 1) := by decide +kernel
theorem dX6_digest_118 : decode cX6_digest 118 = .ok (.iload_n 1, 1) := by decide +kernel
theorem dX6_digest_119 : decode cX6_digest 119 = .ok (.bipush 12, 2) := by decide +kernel
theorem dX6_digest_121 : decode cX6_digest 121 = .ok (.idiv, 1) := by decide +kernel
theorem dX6_digest_122 : decode cX6_digest 122 = .ok (.iload_n 1, 1) := by decide +kernel
theorem dX6_digest_123 : decode cX6_digest 123 = .ok (.iconst 4, 1) := by decide +kernel
theorem dX6_digest_124 : decode cX6_digest 124 = .ok (.idiv, 1) := by decide +kernel
theorem dX6_digest_125 : decode cX6_digest 125 = .ok (.iconst 3, 1) := by decide +kernel
theorem dX6_digest_126 : decode cX6_digest 126 = .ok (.irem, 1) := by decide +kernel
theorem dX6_digest_127 : decode cX6_digest 127 = .ok (.iload_n 1, 1) := by decide +kernel
theorem dX6_digest_128 : decode cX6_digest 128 = .ok (.iconst 4, 1) := by decide +kernel
theorem dX6_digest_129 : decode cX6_digest 129 = .ok (.irem, 1) := by decide +kernel
theorem dX6_digest_130 : decode cX6_digest 130 = .ok (.invokevirtual 180, 3) := by decide +kernel
theorem dX6_digest_133 : decode cX6_digest 133 = .ok (.invokevirtual 266, 3) := by decide +kernel
theorem dX6_digest_136 : decode cX6_digest 136 = .ok (.iinc 1 1, 3) := by decide +kernel
theorem dX6_digest_139 : decode cX6_digest 139 = .ok (.goto (-29), 3) := by decide +kernel
theorem dX6_digest_142 : decode cX6_digest 142 = .ok (.aload_n 0, 1) := by decide +kernel
theorem dX6_digest_143 : decode cX6_digest 143 = .ok (.getfield 262, 3) := by decide +kernel
theorem dX6_digest_146 : decode cX6_digest 146 = .ok (.lreturn, 1) := by decide +kernel
theorem dL_law_0 : decode cL_law 0 = .ok (.new 7, 3) := by decide +kernel
theorem dL_law_3 : decode cL_law 3 = .ok (.dup, 1) := by decide +kernel
theorem dL_law_4 : decode cL_law 4 = .ok (.invokespecial 9, 3) := by decide +kernel
theorem dL_law_7 : decode cL_law 7 = .ok (.astore_n 1, 1) := by decide +kernel
theorem dL_law_8 : decode cL_law 8 = .ok (.new 10, 3) := by decide +kernel
theorem dL_law_11 : decode cL_law 11 = .ok (.dup, 1) := by decide +kernel
theorem dL_law_12 : decode cL_law 12 = .ok (.invokespecial 12, 3) := by decide +kernel
theorem dL_law_15 : decode cL_law 15 = .ok (.astore_n 2, 1) := by decide +kernel
theorem dL_law_16 : decode cL_law 16 = .ok (.iconst 0, 1) := by decide +kernel
theorem dL_law_17 : decode cL_law 17 = .ok (.istore_n 3, 1) := by decide +kernel
theorem dL_law_18 : decode cL_law 18 = .ok (.iload_n 3, 1) := by decide +kernel
theorem dL_law_19 : decode cL_law 19 = .ok (.aload_n 0, 1) := by decide +kernel
theorem dL_law_20 : decode cL_law 20 = .ok (.arraylength, 1) := by decide +kernel
theorem dL_law_21 : decode cL_law 21 = .ok (.bipush 6, 2) := by decide +kernel
theorem dL_law_23 : decode cL_law 23 = .ok (.isub, 1) := by decide +kernel
theorem dL_law_24 : decode cL_law 24 = .ok (.if_icmp .gt 765, 3) := by decide +kernel
theorem dL_law_27 : decode cL_law 27 = .ok (.aload_n 0, 1) := by decide +kernel
theorem dL_law_28 : decode cL_law 28 = .ok (.iload_n 3, 1) := by decide +kernel
theorem dL_law_29 : decode cL_law 29 = .ok (.iaload, 1) := by decide +kernel
theorem dL_law_30 : decode cL_law 30 = .ok (.bipush 31, 2) := by decide +kernel
theorem dL_law_32 : decode cL_law 32 = .ok (.iand, 1) := by decide +kernel
theorem dL_law_33 : decode cL_law 33 = .ok (.tableswitch 750 0 21 #[103, 126, 159, 222, 265, 318, 341, 364, 397, 440, 473, 516, 549, 572, 615, 638, 651, 664, 677, 700, 713, 736], 103) := by decide +kernel
theorem dL_law_136 : decode cL_law 136 = .ok (.aload_n 1, 1) := by decide +kernel
theorem dL_law_137 : decode cL_law 137 = .ok (.aload_n 0, 1) := by decide +kernel
theorem dL_law_138 : decode cL_law 138 = .ok (.iload_n 3, 1) := by decide +kernel
theorem dL_law_139 : decode cL_law 139 = .ok (.iconst 1, 1) := by decide +kernel
theorem dL_law_140 : decode cL_law 140 = .ok (.iadd, 1) := by decide +kernel
theorem dL_law_141 : decode cL_law 141 = .ok (.iaload, 1) := by decide +kernel
theorem dL_law_142 : decode cL_law 142 = .ok (.invokevirtual 13, 3) := by decide +kernel
theorem dL_law_145 : decode cL_law 145 = .ok (.aload_n 2, 1) := by decide +kernel
theorem dL_law_146 : decode cL_law 146 = .ok (.aload_n 0, 1) := by decide +kernel
theorem dL_law_147 : decode cL_law 147 = .ok (.iload_n 3, 1) := by decide +kernel
theorem dL_law_148 : decode cL_law 148 = .ok (.iconst 1, 1) := by decide +kernel
theorem dL_law_149 : decode cL_law 149 = .ok (.iadd, 1) := by decide +kernel
theorem dL_law_150 : decode cL_law 150 = .ok (.iaload, 1) := by decide +kernel
theorem dL_law_151 : decode cL_law 151 = .ok (.invokevirtual 17, 3) := by decide +kernel
theorem dL_law_154 : decode cL_law 154 = .ok (.if_icmp .eq 629, 3) := by decide +kernel
theorem dL_law_157 : decode cL_law 157 = .ok (.iconst 0, 1) := by decide +kernel
theorem dL_law_158 : decode cL_law 158 = .ok (.ireturn, 1) := by decide +kernel
theorem dL_law_159 : decode cL_law 159 = .ok (.aload_n 1, 1) := by decide +kernel
theorem dL_law_160 : decode cL_law 160 = .ok (.aload_n 0, 1) := by decide +kernel
theorem dL_law_161 : decode cL_law 161 = .ok (.iload_n 3, 1) := by decide +kernel
theorem dL_law_162 : decode cL_law 162 = .ok (.iconst 1, 1) := by decide +kernel
theorem dL_law_163 : decode cL_law 163 = .ok (.iadd, 1) := by decide +kernel
theorem dL_law_164 : decode cL_law 164 = .ok (.iaload, 1) := by decide +kernel
theorem dL_law_165 : decode cL_law 165 = .ok (.aload_n 0, 1) := by decide +kernel
theorem dL_law_166 : decode cL_law 166 = .ok (.iload_n 3, 1) := by decide +kernel
theorem dL_law_167 : decode cL_law 167 = .ok (.iconst 2, 1) := by decide +kernel
theorem dL_law_168 : decode cL_law 168 = .ok (.iadd, 1) := by decide +kernel
theorem dL_law_169 : decode cL_law 169 = .ok (.iaload, 1) := by decide +kernel
theorem dL_law_170 : decode cL_law 170 = .ok (.invokevirtual 18, 3) := by decide +kernel
theorem dL_law_173 : decode cL_law 173 = .ok (.aload_n 2, 1) := by decide +kernel
theorem dL_law_174 : decode cL_law 174 = .ok (.aload_n 0, 1) := by decide +kernel
theorem dL_law_175 : decode cL_law 175 = .ok (.iload_n 3, 1) := by decide +kernel
theorem dL_law_176 : decode cL_law 176 = .ok (.iconst 1, 1) := by decide +kernel
theorem dL_law_177 : decode cL_law 177 = .ok (.iadd, 1) := by decide +kernel
theorem dL_law_178 : decode cL_law 178 = .ok (.iaload, 1) := by decide +kernel
theorem dL_law_179 : decode cL_law 179 = .ok (.aload_n 0, 1) := by decide +kernel
theorem dL_law_180 : decode cL_law 180 = .ok (.iload_n 3, 1) := by decide +kernel
theorem dL_law_181 : decode cL_law 181 = .ok (.iconst 2, 1) := by decide +kernel
theorem dL_law_182 : decode cL_law 182 = .ok (.iadd, 1) := by decide +kernel
theorem dL_law_183 : decode cL_law 183 = .ok (.iaload, 1) := by decide +kernel
theorem dL_law_184 : decode cL_law 184 = .ok (.invokevirtual 22, 3) := by decide +kernel
theorem dL_law_187 : decode cL_law 187 = .ok (.if_icmp .eq 596, 3) := by decide +kernel
theorem dL_law_190 : decode cL_law 190 = .ok (.iconst 0, 1) := by decide +kernel
theorem dL_law_191 : decode cL_law 191 = .ok (.ireturn, 1) := by decide +kernel
theorem dL_law_192 : decode cL_law 192 = .ok (.aload_n 1, 1) := by decide +kernel
theorem dL_law_193 : decode cL_law 193 = .ok (.aload_n 0, 1) := by decide +kernel
theorem dL_law_194 : decode cL_law 194 = .ok (.iload_n 3, 1) := by decide +kernel
theorem dL_law_195 : decode cL_law 195 = .ok (.iconst 1, 1) := by decide +kernel
theorem dL_law_196 : decode cL_law 196 = .ok (.iadd, 1) := by decide +kernel
theorem dL_law_197 : decode cL_law 197 = .ok (.iaload, 1) := by decide +kernel
theorem dL_law_198 : decode cL_law 198 = .ok (.aload_n 0, 1) := by decide +kernel
theorem dL_law_199 : decode cL_law 199 = .ok (.iload_n 3, 1) := by decide +kernel
theorem dL_law_200 : decode cL_law 200 = .ok (.iconst 2, 1) := by decide +kernel
theorem dL_law_201 : decode cL_law 201 = .ok (.iadd, 1) := by decide +kernel
theorem dL_law_202 : decode cL_law 202 = .ok (.iaload, 1) := by decide +kernel
theorem dL_law_203 : decode cL_law 203 = .ok (.aload_n 0, 1) := by decide +kernel
theorem dL_law_204 : decode cL_law 204 = .ok (.iload_n 3, 1) := by decide +kernel
theorem dL_law_205 : decode cL_law 205 = .ok (.iconst 3, 1) := by decide +kernel
theorem dL_law_206 : decode cL_law 206 = .ok (.iadd, 1) := by decide +kernel
theorem dL_law_207 : decode cL_law 207 = .ok (.iaload, 1) := by decide +kernel
theorem dL_law_208 : decode cL_law 208 = .ok (.aload_n 0, 1) := by decide +kernel
theorem dL_law_209 : decode cL_law 209 = .ok (.iload_n 3, 1) := by decide +kernel
theorem dL_law_210 : decode cL_law 210 = .ok (.iconst 4, 1) := by decide +kernel
theorem dL_law_211 : decode cL_law 211 = .ok (.iadd, 1) := by decide +kernel
theorem dL_law_212 : decode cL_law 212 = .ok (.iaload, 1) := by decide +kernel
theorem dL_law_213 : decode cL_law 213 = .ok (.aload_n 0, 1) := by decide +kernel
theorem dL_law_214 : decode cL_law 214 = .ok (.iload_n 3, 1) := by decide +kernel
theorem dL_law_215 : decode cL_law 215 = .ok (.iconst 5, 1) := by decide +kernel
theorem dL_law_216 : decode cL_law 216 = .ok (.iadd, 1) := by decide +kernel
theorem dL_law_217 : decode cL_law 217 = .ok (.iaload, 1) := by decide +kernel
theorem dL_law_218 : decode cL_law 218 = .ok (.invokevirtual 23, 3) := by decide +kernel
theorem dL_law_221 : decode cL_law 221 = .ok (.aload_n 2, 1) := by decide +kernel
theorem dL_law_222 : decode cL_law 222 = .ok (.aload_n 0, 1) := by decide +kernel
theorem dL_law_223 : decode cL_law 223 = .ok (.iload_n 3, 1) := by decide +kernel
theorem dL_law_224 : decode cL_law 224 = .ok (.iconst 1, 1) := by decide +kernel
theorem dL_law_225 : decode cL_law 225 = .ok (.iadd, 1) := by decide +kernel
theorem dL_law_226 : decode cL_law 226 = .ok (.iaload, 1) := by decide +kernel
theorem dL_law_227 : decode cL_law 227 = .ok (.aload_n 0, 1) := by decide +kernel
theorem dL_law_228 : decode cL_law 228 = .ok (.iload_n 3, 1) := by decide +kernel
theorem dL_law_229 : decode cL_law 229 = .ok (.iconst 2, 1) := by decide +kernel
theorem dL_law_230 : decode cL_law 230 = .ok (.iadd, 1) := by decide +kernel
theorem dL_law_231 : decode cL_law 231 = .ok (.iaload, 1) := by decide +kernel
theorem dL_law_232 : decode cL_law 232 = .ok (.aload_n 0, 1) := by decide +kernel
theorem dL_law_233 : decode cL_law 233 = .ok (.iload_n 3, 1) := by decide +kernel
theorem dL_law_234 : decode cL_law 234 = .ok (.iconst 3, 1) := by decide +kernel
theorem dL_law_235 : decode cL_law 235 = .ok (.iadd, 1) := by decide +kernel
theorem dL_law_236 : decode cL_law 236 = .ok (.iaload, 1) := by decide +kernel
theorem dL_law_237 : decode cL_law 237 = .ok (.aload_n 0, 1) := by decide +kernel
theorem dL_law_238 : decode cL_law 238 = .ok (.iload_n 3, 1) := by decide +kernel
theorem dL_law_239 : decode cL_law 239 = .ok (.iconst 4, 1) := by decide +kernel
theorem dL_law_240 : decode cL_law 240 = .ok (.iadd, 1) := by decide +kernel
theorem dL_law_241 : decode cL_law 241 = .ok (.iaload, 1) := by decide +kernel
theorem dL_law_242 : decode cL_law 242 = .ok (.aload_n 0, 1) := by decide +kernel
theorem dL_law_243 : decode cL_law 243 = .ok (.iload_n 3, 1) := by decide +kernel
theorem dL_law_244 : decode cL_law 244 = .ok (.iconst 5, 1) := by decide +kernel
theorem dL_law_245 : decode cL_law 245 = .ok (.iadd, 1) := by decide +kernel
theorem dL_law_246 : decode cL_law 246 = .ok (.iaload, 1) := by decide +kernel
theorem dL_law_247 : decode cL_law 247 = .ok (.invokevirtual 27, 3) := by decide +kernel
theorem dL_law_250 : decode cL_law 250 = .ok (.if_icmp .eq 533, 3) := by decide +kernel
theorem dL_law_253 : decode cL_law 253 = .ok (.iconst 0, 1) := by decide +kernel
theorem dL_law_254 : decode cL_law 254 = .ok (.ireturn, 1) := by decide +kernel
theorem dL_law_255 : decode cL_law 255 = .ok (.aload_n 1, 1) := by decide +kernel
theorem dL_law_256 : decode cL_law 256 = .ok (.aload_n 0, 1) := by decide +kernel
theorem dL_law_257 : decode cL_law 257 = .ok (.iload_n 3, 1) := by decide +kernel
theorem dL_law_258 : decode cL_law 258 = .ok (.iconst 1, 1) := by decide +kernel
theorem dL_law_259 : decode cL_law 259 = .ok (.iadd, 1) := by decide +kernel
theorem dL_law_260 : decode cL_law 260 = .ok (.iaload, 1) := by decide +kernel
theorem dL_law_261 : decode cL_law 261 = .ok (.aload_n 0, 1) := by decide +kernel
theorem dL_law_262 : decode cL_law 262 = .ok (.iload_n 3, 1) := by decide +kernel
theorem dL_law_263 : decode cL_law 263 = .ok (.iconst 2, 1) := by decide +kernel
theorem dL_law_264 : decode cL_law 264 = .ok (.iadd, 1) := by decide +kernel
theorem dL_law_265 : decode cL_law 265 = .ok (.iaload, 1) := by decide +kernel
theorem dL_law_266 : decode cL_law 266 = .ok (.aload_n 0, 1) := by decide +kernel
theorem dL_law_267 : decode cL_law 267 = .ok (.iload_n 3, 1) := by decide +kernel
theorem dL_law_268 : decode cL_law 268 = .ok (.iconst 3, 1) := by decide +kernel
theorem dL_law_269 : decode cL_law 269 = .ok (.iadd, 1) := by decide +kernel
theorem dL_law_270 : decode cL_law 270 = .ok (.iaload, 1) := by decide +kernel
theorem dL_law_271 : decode cL_law 271 = .ok (.invokevirtual 28, 3) := by decide +kernel
theorem dL_law_274 : decode cL_law 274 = .ok (.aload_n 2, 1) := by decide +kernel
theorem dL_law_275 : decode cL_law 275 = .ok (.aload_n 0, 1) := by decide +kernel
theorem dL_law_276 : decode cL_law 276 = .ok (.iload_n 3, 1) := by decide +kernel
theorem dL_law_277 : decode cL_law 277 = .ok (.iconst 1, 1) := by decide +kernel
theorem dL_law_278 : decode cL_law 278 = .ok (.iadd, 1) := by decide +kernel
theorem dL_law_279 : decode cL_law 279 = .ok (.iaload, 1) := by decide +kernel
theorem dL_law_280 : decode cL_law 280 = .ok (.aload_n 0, 1) := by decide +kernel
theorem dL_law_281 : decode cL_law 281 = .ok (.iload_n 3, 1) := by decide +kernel
theorem dL_law_282 : decode cL_law 282 = .ok (.iconst 2, 1) := by decide +kernel
theorem dL_law_283 : decode cL_law 283 = .ok (.iadd, 1) := by decide +kernel
theorem dL_law_284 : decode cL_law 284 = .ok (.iaload, 1) := by decide +kernel
theorem dL_law_285 : decode cL_law 285 = .ok (.aload_n 0, 1) := by decide +kernel
theorem dL_law_286 : decode cL_law 286 = .ok (.iload_n 3, 1) := by decide +kernel
theorem dL_law_287 : decode cL_law 287 = .ok (.iconst 3, 1) := by decide +kernel
theorem dL_law_288 : decode cL_law 288 = .ok (.iadd, 1) := by decide +kernel
theorem dL_law_289 : decode cL_law 289 = .ok (.iaload, 1) := by decide +kernel
theorem dL_law_290 : decode cL_law 290 = .ok (.invokevirtual 32, 3) := by decide +kernel
theorem dL_law_293 : decode cL_law 293 = .ok (.if_icmp .eq 490, 3) := by decide +kernel
theorem dL_law_296 : decode cL_law 296 = .ok (.iconst 0, 1) := by decide +kernel
theorem dL_law_297 : decode cL_law 297 = .ok (.ireturn, 1) := by decide +kernel
theorem dL_law_298 : decode cL_law 298 = .ok (.aload_n 1, 1) := by decide +kernel
theorem dL_law_299 : decode cL_law 299 = .ok (.aload_n 0, 1) := by decide +kernel
theorem dL_law_300 : decode cL_law 300 = .ok (.iload_n 3, 1) := by decide +kernel
theorem dL_law_301 : decode cL_law 301 = .ok (.iconst 1, 1) := by decide +kernel
theorem dL_law_302 : decode cL_law 302 = .ok (.iadd, 1) := by decide +kernel
theorem dL_law_303 : decode cL_law 303 = .ok (.iaload, 1) := by decide +kernel
theorem dL_law_304 : decode cL_law 304 = .ok (.aload_n 0, 1) := by decide +kernel
theorem dL_law_305 : decode cL_law 305 = .ok (.iload_n 3, 1) := by decide +kernel
theorem dL_law_306 : decode cL_law 306 = .ok (.iconst 2, 1) := by decide +kernel
theorem dL_law_307 : decode cL_law 307 = .ok (.iadd, 1) := by decide +kernel
theorem dL_law_308 : decode cL_law 308 = .ok (.iaload, 1) := by decide +kernel
theorem dL_law_309 : decode cL_law 309 = .ok (.aload_n 0, 1) := by decide +kernel
theorem dL_law_310 : decode cL_law 310 = .ok (.iload_n 3, 1) := by decide +kernel
theorem dL_law_311 : decode cL_law 311 = .ok (.iconst 3, 1) := by decide +kernel
theorem dL_law_312 : decode cL_law 312 = .ok (.iadd, 1) := by decide +kernel
theorem dL_law_313 : decode cL_law 313 = .ok (.iaload, 1) := by decide +kernel
theorem dL_law_314 : decode cL_law 314 = .ok (.aload_n 0, 1) := by decide +kernel
theorem dL_law_315 : decode cL_law 315 = .ok (.iload_n 3, 1) := by decide +kernel
theorem dL_law_316 : decode cL_law 316 = .ok (.iconst 4, 1) := by decide +kernel
theorem dL_law_317 : decode cL_law 317 = .ok (.iadd, 1) := by decide +kernel
theorem dL_law_318 : decode cL_law 318 = .ok (.iaload, 1) := by decide +kernel
theorem dL_law_319 : decode cL_law 319 = .ok (.invokevirtual 33, 3) := by decide +kernel
theorem dL_law_322 : decode cL_law 322 = .ok (.aload_n 2, 1) := by decide +kernel
theorem dL_law_323 : decode cL_law 323 = .ok (.aload_n 0, 1) := by decide +kernel
theorem dL_law_324 : decode cL_law 324 = .ok (.iload_n 3, 1) := by decide +kernel
theorem dL_law_325 : decode cL_law 325 = .ok (.iconst 1, 1) := by decide +kernel
theorem dL_law_326 : decode cL_law 326 = .ok (.iadd, 1) := by decide +kernel
theorem dL_law_327 : decode cL_law 327 = .ok (.iaload, 1) := by decide +kernel
theorem dL_law_328 : decode cL_law 328 = .ok (.aload_n 0, 1) := by decide +kernel
theorem dL_law_329 : decode cL_law 329 = .ok (.iload_n 3, 1) := by decide +kernel
theorem dL_law_330 : decode cL_law 330 = .ok (.iconst 2, 1) := by decide +kernel
theorem dL_law_331 : decode cL_law 331 = .ok (.iadd, 1) := by decide +kernel
theorem dL_law_332 : decode cL_law 332 = .ok (.iaload, 1) := by decide +kernel
theorem dL_law_333 : decode cL_law 333 = .ok (.aload_n 0, 1) := by decide +kernel
theorem dL_law_334 : decode cL_law 334 = .ok (.iload_n 3, 1) := by decide +kernel
theorem dL_law_335 : decode cL_law 335 = .ok (.iconst 3, 1) := by decide +kernel
theorem dL_law_336 : decode cL_law 336 = .ok (.iadd, 1) := by decide +kernel
theorem dL_law_337 : decode cL_law 337 = .ok (.iaload, 1) := by decide +kernel
theorem dL_law_338 : decode cL_law 338 = .ok (.aload_n 0, 1) := by decide +kernel
theorem dL_law_339 : decode cL_law 339 = .ok (.iload_n 3, 1) := by decide +kernel
theorem dL_law_340 : decode cL_law 340 = .ok (.iconst 4, 1) := by decide +kernel
theorem dL_law_341 : decode cL_law 341 = .ok (.iadd, 1) := by decide +kernel
theorem dL_law_342 : decode cL_law 342 = .ok (.iaload, 1) := by decide +kernel
theorem dL_law_343 : decode cL_law 343 = .ok (.invokevirtual 37, 3) := by decide +kernel
theorem dL_law_346 : decode cL_law 346 = .ok (.if_icmp .eq 437, 3) := by decide +kernel
theorem dL_law_349 : decode cL_law 349 = .ok (.iconst 0, 1) := by decide +kernel
theorem dL_law_350 : decode cL_law 350 = .ok (.ireturn, 1) := by decide +kernel
theorem dL_law_351 : decode cL_law 351 = .ok (.aload_n 1, 1) := by decide +kernel
theorem dL_law_352 : decode cL_law 352 = .ok (.aload_n 0, 1) := by decide +kernel
theorem dL_law_353 : decode cL_law 353 = .ok (.iload_n 3, 1) := by decide +kernel
theorem dL_law_354 : decode cL_law 354 = .ok (.iconst 1, 1) := by decide +kernel
theorem dL_law_355 : decode cL_law 355 = .ok (.iadd, 1) := by decide +kernel
theorem dL_law_356 : decode cL_law 356 = .ok (.iaload, 1) := by decide +kernel
theorem dL_law_357 : decode cL_law 357 = .ok (.invokevirtual 38, 3) := by decide +kernel
theorem dL_law_360 : decode cL_law 360 = .ok (.aload_n 2, 1) := by decide +kernel
theorem dL_law_361 : decode cL_law 361 = .ok (.aload_n 0, 1) := by decide +kernel
theorem dL_law_362 : decode cL_law 362 = .ok (.iload_n 3, 1) := by decide +kernel
theorem dL_law_363 : decode cL_law 363 = .ok (.iconst 1, 1) := by decide +kernel
theorem dL_law_364 : decode cL_law 364 = .ok (.iadd, 1) := by decide +kernel
theorem dL_law_365 : decode cL_law 365 = .ok (.iaload, 1) := by decide +kernel
theorem dL_law_366 : decode cL_law 366 = .ok (.invokevirtual 41, 3) := by decide +kernel
theorem dL_law_369 : decode cL_law 369 = .ok (.if_icmp .eq 414, 3) := by decide +kernel
theorem dL_law_372 : decode cL_law 372 = .ok (.iconst 0, 1) := by decide +kernel
theorem dL_law_373 : decode cL_law 373 = .ok (.ireturn, 1) := by decide +kernel
theorem dL_law_374 : decode cL_law 374 = .ok (.aload_n 1, 1) := by decide +kernel
theorem dL_law_375 : decode cL_law 375 = .ok (.aload_n 0, 1) := by decide +kernel
theorem dL_law_376 : decode cL_law 376 = .ok (.iload_n 3, 1) := by decide +kernel
theorem dL_law_377 : decode cL_law 377 = .ok (.iconst 1, 1) := by decide +kernel
theorem dL_law_378 : decode cL_law 378 = .ok (.iadd, 1) := by decide +kernel
theorem dL_law_379 : decode cL_law 379 = .ok (.iaload, 1) := by decide +kernel
theorem dL_law_380 : decode cL_law 380 = .ok (.invokevirtual 42, 3) := by decide +kernel
theorem dL_law_383 : decode cL_law 383 = .ok (.aload_n 2, 1) := by decide +kernel
theorem dL_law_384 : decode cL_law 384 = .ok (.aload_n 0, 1) := by decide +kernel
theorem dL_law_385 : decode cL_law 385 = .ok (.iload_n 3, 1) := by decide +kernel
theorem dL_law_386 : decode cL_law 386 = .ok (.iconst 1, 1) := by decide +kernel
theorem dL_law_387 : decode cL_law 387 = .ok (.iadd, 1) := by decide +kernel
theorem dL_law_388 : decode cL_law 388 = .ok (.iaload, 1) := by decide +kernel
theorem dL_law_389 : decode cL_law 389 = .ok (.invokevirtual 45, 3) := by decide +kernel
theorem dL_law_392 : decode cL_law 392 = .ok (.if_icmp .eq 391, 3) := by decide +kernel
theorem dL_law_395 : decode cL_law 395 = .ok (.iconst 0, 1) := by decide +kernel
theorem dL_law_396 : decode cL_law 396 = .ok (.ireturn, 1) := by decide +kernel
theorem dL_law_397 : decode cL_law 397 = .ok (.aload_n 1, 1) := by decide +kernel
theorem dL_law_398 : decode cL_law 398 = .ok (.aload_n 0, 1) := by decide +kernel
theorem dL_law_399 : decode cL_law 399 = .ok (.iload_n 3, 1) := by decide +kernel
theorem dL_law_400 : decode cL_law 400 = .ok (.iconst 1, 1) := by decide +kernel
theorem dL_law_401 : decode cL_law 401 = .ok (.iadd, 1) := by decide +kernel
theorem dL_law_402 : decode cL_law 402 = .ok (.iaload, 1) := by decide +kernel
theorem dL_law_403 : decode cL_law 403 = .ok (.aload_n 0, 1) := by decide +kernel
theorem dL_law_404 : decode cL_law 404 = .ok (.iload_n 3, 1) := by decide +kernel
theorem dL_law_405 : decode cL_law 405 = .ok (.iconst 2, 1) := by decide +kernel
theorem dL_law_406 : decode cL_law 406 = .ok (.iadd, 1) := by decide +kernel
theorem dL_law_407 : decode cL_law 407 = .ok (.iaload, 1) := by decide +kernel
theorem dL_law_408 : decode cL_law 408 = .ok (.invokevirtual 46, 3) := by decide +kernel
theorem dL_law_411 : decode cL_law 411 = .ok (.aload_n 2, 1) := by decide +kernel
theorem dL_law_412 : decode cL_law 412 = .ok (.aload_n 0, 1) := by decide +kernel
theorem dL_law_413 : decode cL_law 413 = .ok (.iload_n 3, 1) := by decide +kernel
theorem dL_law_414 : decode cL_law 414 = .ok (.iconst 1, 1) := by decide +kernel
theorem dL_law_415 : decode cL_law 415 = .ok (.iadd, 1) := by decide +kernel
theorem dL_law_416 : decode cL_law 416 = .ok (.iaload, 1) := by decide +kernel
theorem dL_law_417 : decode cL_law 417 = .ok (.aload_n 0, 1) := by decide +kernel
theorem dL_law_418 : decode cL_law 418 = .ok (.iload_n 3, 1) := by decide +kernel
theorem dL_law_419 : decode cL_law 419 = .ok (.iconst 2, 1) := by decide +kernel
theorem dL_law_420 : decode cL_law 420 = .ok (.iadd, 1) := by decide +kernel
theorem dL_law_421 : decode cL_law 421 = .ok (.iaload, 1) := by decide +kernel
theorem dL_law_422 : decode cL_law 422 = .ok (.invokevirtual 49, 3) := by decide +kernel
theorem dL_law_425 : decode cL_law 425 = .ok (.if_icmp .eq 358, 3) := by decide +kernel
theorem dL_law_428 : decode cL_law 428 = .ok (.iconst 0, 1) := by decide +kernel
theorem dL_law_429 : decode cL_law 429 = .ok (.ireturn, 1) := by decide +kernel
theorem dL_law_430 : decode cL_law 430 = .ok (.aload_n 1, 1) := by decide +kernel
theorem dL_law_431 : decode cL_law 431 = .ok (.aload_n 0, 1) := by decide +kernel
theorem dL_law_432 : decode cL_law 432 = .ok (.iload_n 3, 1) := by decide +kernel
theorem dL_law_433 : decode cL_law 433 = .ok (.iconst 1, 1) := by decide +kernel
theorem dL_law_434 : decode cL_law 434 = .ok (.iadd, 1) := by decide +kernel
theorem dL_law_435 : decode cL_law 435 = .ok (.iaload, 1) := by decide +kernel
theorem dL_law_436 : decode cL_law 436 = .ok (.aload_n 0, 1) := by decide +kernel
theorem dL_law_437 : decode cL_law 437 = .ok (.iload_n 3, 1) := by decide +kernel
theorem dL_law_438 : decode cL_law 438 = .ok (.iconst 2, 1) := by decide +kernel
theorem dL_law_439 : decode cL_law 439 = .ok (.iadd, 1) := by decide +kernel
theorem dL_law_440 : decode cL_law 440 = .ok (.iaload, 1) := by decide +kernel
theorem dL_law_441 : decode cL_law 441 = .ok (.aload_n 0, 1) := by decide +kernel
theorem dL_law_442 : decode cL_law 442 = .ok (.iload_n 3, 1) := by decide +kernel
theorem dL_law_443 : decode cL_law 443 = .ok (.iconst 3, 1) := by decide +kernel
theorem dL_law_444 : decode cL_law 444 = .ok (.iadd, 1) := by decide +kernel
theorem dL_law_445 : decode cL_law 445 = .ok (.iaload, 1) := by decide +kernel
theorem dL_law_446 : decode cL_law 446 = .ok (.invokevirtual 50, 3) := by decide +kernel
theorem dL_law_449 : decode cL_law 449 = .ok (.aload_n 2, 1) := by decide +kernel
theorem dL_law_450 : decode cL_law 450 = .ok (.aload_n 0, 1) := by decide +kernel
theorem dL_law_451 : decode cL_law 451 = .ok (.iload_n 3, 1) := by decide +kernel
theorem dL_law_452 : decode cL_law 452 = .ok (.iconst 1, 1) := by decide +kernel
theorem dL_law_453 : decode cL_law 453 = .ok (.iadd, 1) := by decide +kernel
theorem dL_law_454 : decode cL_law 454 = .ok (.iaload, 1) := by decide +kernel
theorem dL_law_455 : decode cL_law 455 = .ok (.aload_n 0, 1) := by decide +kernel
theorem dL_law_456 : decode cL_law 456 = .ok (.iload_n 3, 1) := by decide +kernel
theorem dL_law_457 : decode cL_law 457 = .ok (.iconst 2, 1) := by decide +kernel
theorem dL_law_458 : decode cL_law 458 = .ok (.iadd, 1) := by decide +kernel
theorem dL_law_459 : decode cL_law 459 = .ok (.iaload, 1) := by decide +kernel
theorem dL_law_460 : decode cL_law 460 = .ok (.aload_n 0, 1) := by decide +kernel
theorem dL_law_461 : decode cL_law 461 = .ok (.iload_n 3, 1) := by decide +kernel
theorem dL_law_462 : decode cL_law 462 = .ok (.iconst 3, 1) := by decide +kernel
theorem dL_law_463 : decode cL_law 463 = .ok (.iadd, 1) := by decide +kernel
theorem dL_law_464 : decode cL_law 464 = .ok (.iaload, 1) := by decide +kernel
theorem dL_law_465 : decode cL_law 465 = .ok (.invokevirtual 53, 3) := by decide +kernel
theorem dL_law_468 : decode cL_law 468 = .ok (.if_icmp .eq 315, 3) := by decide +kernel
theorem dL_law_471 : decode cL_law 471 = .ok (.iconst 0, 1) := by decide +kernel
theorem dL_law_472 : decode cL_law 472 = .ok (.ireturn, 1) := by decide +kernel
theorem dL_law_473 : decode cL_law 473 = .ok (.aload_n 1, 1) := by decide +kernel
theorem dL_law_474 : decode cL_law 474 = .ok (.aload_n 0, 1) := by decide +kernel
theorem dL_law_475 : decode cL_law 475 = .ok (.iload_n 3, 1) := by decide +kernel
theorem dL_law_476 : decode cL_law 476 = .ok (.iconst 1, 1) := by decide +kernel
theorem dL_law_477 : decode cL_law 477 = .ok (.iadd, 1) := by decide +kernel
theorem dL_law_478 : decode cL_law 478 = .ok (.iaload, 1) := by decide +kernel
theorem dL_law_479 : decode cL_law 479 = .ok (.aload_n 0, 1) := by decide +kernel
theorem dL_law_480 : decode cL_law 480 = .ok (.iload_n 3, 1) := by decide +kernel
theorem dL_law_481 : decode cL_law 481 = .ok (.iconst 2, 1) := by decide +kernel
theorem dL_law_482 : decode cL_law 482 = .ok (.iadd, 1) := by decide +kernel
theorem dL_law_483 : decode cL_law 483 = .ok (.iaload, 1) := by decide +kernel
theorem dL_law_484 : decode cL_law 484 = .ok (.invokevirtual 54, 3) := by decide +kernel
theorem dL_law_487 : decode cL_law 487 = .ok (.aload_n 2, 1) := by decide +kernel
theorem dL_law_488 : decode cL_law 488 = .ok (.aload_n 0, 1) := by decide +kernel
theorem dL_law_489 : decode cL_law 489 = .ok (.iload_n 3, 1) := by decide +kernel
theorem dL_law_490 : decode cL_law 490 = .ok (.iconst 1, 1) := by decide +kernel
theorem dL_law_491 : decode cL_law 491 = .ok (.iadd, 1) := by decide +kernel
theorem dL_law_492 : decode cL_law 492 = .ok (.iaload, 1) := by decide +kernel
theorem dL_law_493 : decode cL_law 493 = .ok (.aload_n 0, 1) := by decide +kernel
theorem dL_law_494 : decode cL_law 494 = .ok (.iload_n 3, 1) := by decide +kernel
theorem dL_law_495 : decode cL_law 495 = .ok (.iconst 2, 1) := by decide +kernel
theorem dL_law_496 : decode cL_law 496 = .ok (.iadd, 1) := by decide +kernel
theorem dL_law_497 : decode cL_law 497 = .ok (.iaload, 1) := by decide +kernel
theorem dL_law_498 : decode cL_law 498 = .ok (.invokevirtual 57, 3) := by decide +kernel
theorem dL_law_501 : decode cL_law 501 = .ok (.if_icmp .eq 282, 3) := by decide +kernel
theorem dL_law_504 : decode cL_law 504 = .ok (.iconst 0, 1) := by decide +kernel
theorem dL_law_505 : decode cL_law 505 = .ok (.ireturn, 1) := by decide +kernel
theorem dL_law_506 : decode cL_law 506 = .ok (.aload_n 1, 1) := by decide +kernel
theorem dL_law_507 : decode cL_law 507 = .ok (.aload_n 0, 1) := by decide +kernel
theorem dL_law_508 : decode cL_law 508 = .ok (.iload_n 3, 1) := by decide +kernel
theorem dL_law_509 : decode cL_law 509 = .ok (.iconst 1, 1) := by decide +kernel
theorem dL_law_510 : decode cL_law 510 = .ok (.iadd, 1) := by decide +kernel
theorem dL_law_511 : decode cL_law 511 = .ok (.iaload, 1) := by decide +kernel
theorem dL_law_512 : decode cL_law 512 = .ok (.aload_n 0, 1) := by decide +kernel
theorem dL_law_513 : decode cL_law 513 = .ok (.iload_n 3, 1) := by decide +kernel
theorem dL_law_514 : decode cL_law 514 = .ok (.iconst 2, 1) := by decide +kernel
theorem dL_law_515 : decode cL_law 515 = .ok (.iadd, 1) := by decide +kernel
theorem dL_law_516 : decode cL_law 516 = .ok (.iaload, 1) := by decide +kernel
theorem dL_law_517 : decode cL_law 517 = .ok (.aload_n 0, 1) := by decide +kernel
theorem dL_law_518 : decode cL_law 518 = .ok (.iload_n 3, 1) := by decide +kernel
theorem dL_law_519 : decode cL_law 519 = .ok (.iconst 3, 1) := by decide +kernel
theorem dL_law_520 : decode cL_law 520 = .ok (.iadd, 1) := by decide +kernel
theorem dL_law_521 : decode cL_law 521 = .ok (.iaload, 1) := by decide +kernel
theorem dL_law_522 : decode cL_law 522 = .ok (.invokevirtual 58, 3) := by decide +kernel
theorem dL_law_525 : decode cL_law 525 = .ok (.aload_n 2, 1) := by decide +kernel
theorem dL_law_526 : decode cL_law 526 = .ok (.aload_n 0, 1) := by decide +kernel
theorem dL_law_527 : decode cL_law 527 = .ok (.iload_n 3, 1) := by decide +kernel
theorem dL_law_528 : decode cL_law 528 = .ok (.iconst 1, 1) := by decide +kernel
theorem dL_law_529 : decode cL_law 529 = .ok (.iadd, 1) := by decide +kernel
theorem dL_law_530 : decode cL_law 530 = .ok (.iaload, 1) := by decide +kernel
theorem dL_law_531 : decode cL_law 531 = .ok (.aload_n 0, 1) := by decide +kernel
theorem dL_law_532 : decode cL_law 532 = .ok (.iload_n 3, 1) := by decide +kernel
theorem dL_law_533 : decode cL_law 533 = .ok (.iconst 2, 1) := by decide +kernel
theorem dL_law_534 : decode cL_law 534 = .ok (.iadd, 1) := by decide +kernel
theorem dL_law_535 : decode cL_law 535 = .ok (.iaload, 1) := by decide +kernel
theorem dL_law_536 : decode cL_law 536 = .ok (.aload_n 0, 1) := by decide +kernel
theorem dL_law_537 : decode cL_law 537 = .ok (.iload_n 3, 1) := by decide +kernel
theorem dL_law_538 : decode cL_law 538 = .ok (.iconst 3, 1) := by decide +kernel
theorem dL_law_539 : decode cL_law 539 = .ok (.iadd, 1) := by decide +kernel
theorem dL_law_540 : decode cL_law 540 = .ok (.iaload, 1) := by decide +kernel
theorem dL_law_541 : decode cL_law 541 = .ok (.invokevirtual 61, 3) := by decide +kernel
theorem dL_law_544 : decode cL_law 544 = .ok (.if_icmp .eq 239, 3) := by decide +kernel
theorem dL_law_547 : decode cL_law 547 = .ok (.iconst 0, 1) := by decide +kernel
theorem dL_law_548 : decode cL_law 548 = .ok (.ireturn, 1) := by decide +kernel
theorem dL_law_549 : decode cL_law 549 = .ok (.aload_n 1, 1) := by decide +kernel
theorem dL_law_550 : decode cL_law 550 = .ok (.aload_n 0, 1) := by decide +kernel
theorem dL_law_551 : decode cL_law 551 = .ok (.iload_n 3, 1) := by decide +kernel
theorem dL_law_552 : decode cL_law 552 = .ok (.iconst 1, 1) := by decide +kernel
theorem dL_law_553 : decode cL_law 553 = .ok (.iadd, 1) := by decide +kernel
theorem dL_law_554 : decode cL_law 554 = .ok (.iaload, 1) := by decide +kernel
theorem dL_law_555 : decode cL_law 555 = .ok (.aload_n 0, 1) := by decide +kernel
theorem dL_law_556 : decode cL_law 556 = .ok (.iload_n 3, 1) := by decide +kernel
theorem dL_law_557 : decode cL_law 557 = .ok (.iconst 2, 1) := by decide +kernel
theorem dL_law_558 : decode cL_law 558 = .ok (.iadd, 1) := by decide +kernel
theorem dL_law_559 : decode cL_law 559 = .ok (.iaload, 1) := by decide +kernel
theorem dL_law_560 : decode cL_law 560 = .ok (.invokevirtual 62, 3) := by decide +kernel
theorem dL_law_563 : decode cL_law 563 = .ok (.aload_n 2, 1) := by decide +kernel
theorem dL_law_564 : decode cL_law 564 = .ok (.aload_n 0, 1) := by decide +kernel
theorem dL_law_565 : decode cL_law 565 = .ok (.iload_n 3, 1) := by decide +kernel
theorem dL_law_566 : decode cL_law 566 = .ok (.iconst 1, 1) := by decide +kernel
theorem dL_law_567 : decode cL_law 567 = .ok (.iadd, 1) := by decide +kernel
theorem dL_law_568 : decode cL_law 568 = .ok (.iaload, 1) := by decide +kernel
theorem dL_law_569 : decode cL_law 569 = .ok (.aload_n 0, 1) := by decide +kernel
theorem dL_law_570 : decode cL_law 570 = .ok (.iload_n 3, 1) := by decide +kernel
theorem dL_law_571 : decode cL_law 571 = .ok (.iconst 2, 1) := by decide +kernel
theorem dL_law_572 : decode cL_law 572 = .ok (.iadd, 1) := by decide +kernel
theorem dL_law_573 : decode cL_law 573 = .ok (.iaload, 1) := by decide +kernel
theorem dL_law_574 : decode cL_law 574 = .ok (.invokevirtual 65, 3) := by decide +kernel
theorem dL_law_577 : decode cL_law 577 = .ok (.if_icmp .eq 206, 3) := by decide +kernel
theorem dL_law_580 : decode cL_law 580 = .ok (.iconst 0, 1) := by decide +kernel
theorem dL_law_581 : decode cL_law 581 = .ok (.ireturn, 1) := by decide +kernel
theorem dL_law_582 : decode cL_law 582 = .ok (.aload_n 1, 1) := by decide +kernel
theorem dL_law_583 : decode cL_law 583 = .ok (.aload_n 0, 1) := by decide +kernel
theorem dL_law_584 : decode cL_law 584 = .ok (.iload_n 3, 1) := by decide +kernel
theorem dL_law_585 : decode cL_law 585 = .ok (.iconst 1, 1) := by decide +kernel
theorem dL_law_586 : decode cL_law 586 = .ok (.iadd, 1) := by decide +kernel
theorem dL_law_587 : decode cL_law 587 = .ok (.iaload, 1) := by decide +kernel
theorem dL_law_588 : decode cL_law 588 = .ok (.invokevirtual 66, 3) := by decide +kernel
theorem dL_law_591 : decode cL_law 591 = .ok (.aload_n 2, 1) := by decide +kernel
theorem dL_law_592 : decode cL_law 592 = .ok (.aload_n 0, 1) := by decide +kernel
theorem dL_law_593 : decode cL_law 593 = .ok (.iload_n 3, 1) := by decide +kernel
theorem dL_law_594 : decode cL_law 594 = .ok (.iconst 1, 1) := by decide +kernel
theorem dL_law_595 : decode cL_law 595 = .ok (.iadd, 1) := by decide +kernel
theorem dL_law_596 : decode cL_law 596 = .ok (.iaload, 1) := by decide +kernel
theorem dL_law_597 : decode cL_law 597 = .ok (.invokevirtual 69, 3) := by decide +kernel
theorem dL_law_600 : decode cL_law 600 = .ok (.if_icmp .eq 183, 3) := by decide +kernel
theorem dL_law_603 : decode cL_law 603 = .ok (.iconst 0, 1) := by decide +kernel
theorem dL_law_604 : decode cL_law 604 = .ok (.ireturn, 1) := by decide +kernel
theorem dL_law_605 : decode cL_law 605 = .ok (.aload_n 1, 1) := by decide +kernel
theorem dL_law_606 : decode cL_law 606 = .ok (.aload_n 0, 1) := by decide +kernel
theorem dL_law_607 : decode cL_law 607 = .ok (.iload_n 3, 1) := by decide +kernel
theorem dL_law_608 : decode cL_law 608 = .ok (.iconst 1, 1) := by decide +kernel
theorem dL_law_609 : decode cL_law 609 = .ok (.iadd, 1) := by decide +kernel
theorem dL_law_610 : decode cL_law 610 = .ok (.iaload, 1) := by decide +kernel
theorem dL_law_611 : decode cL_law 611 = .ok (.aload_n 0, 1) := by decide +kernel
theorem dL_law_612 : decode cL_law 612 = .ok (.iload_n 3, 1) := by decide +kernel
theorem dL_law_613 : decode cL_law 613 = .ok (.iconst 2, 1) := by decide +kernel
theorem dL_law_614 : decode cL_law 614 = .ok (.iadd, 1) := by decide +kernel
theorem dL_law_615 : decode cL_law 615 = .ok (.iaload, 1) := by decide +kernel
theorem dL_law_616 : decode cL_law 616 = .ok (.aload_n 0, 1) := by decide +kernel
theorem dL_law_617 : decode cL_law 617 = .ok (.iload_n 3, 1) := by decide +kernel
theorem dL_law_618 : decode cL_law 618 = .ok (.iconst 3, 1) := by decide +kernel
theorem dL_law_619 : decode cL_law 619 = .ok (.iadd, 1) := by decide +kernel
theorem dL_law_620 : decode cL_law 620 = .ok (.iaload, 1) := by decide +kernel
theorem dL_law_621 : decode cL_law 621 = .ok (.invokevirtual 70, 3) := by decide +kernel
theorem dL_law_624 : decode cL_law 624 = .ok (.aload_n 2, 1) := by decide +kernel
theorem dL_law_625 : decode cL_law 625 = .ok (.aload_n 0, 1) := by decide +kernel
theorem dL_law_626 : decode cL_law 626 = .ok (.iload_n 3, 1) := by decide +kernel
theorem dL_law_627 : decode cL_law 627 = .ok (.iconst 1, 1) := by decide +kernel
theorem dL_law_628 : decode cL_law 628 = .ok (.iadd, 1) := by decide +kernel
theorem dL_law_629 : decode cL_law 629 = .ok (.iaload, 1) := by decide +kernel
theorem dL_law_630 : decode cL_law 630 = .ok (.aload_n 0, 1) := by decide +kernel
theorem dL_law_631 : decode cL_law 631 = .ok (.iload_n 3, 1) := by decide +kernel
theorem dL_law_632 : decode cL_law 632 = .ok (.iconst 2, 1) := by decide +kernel
theorem dL_law_633 : decode cL_law 633 = .ok (.iadd, 1) := by decide +kernel
theorem dL_law_634 : decode cL_law 634 = .ok (.iaload, 1) := by decide +kernel
theorem dL_law_635 : decode cL_law 635 = .ok (.aload_n 0, 1) := by decide +kernel
theorem dL_law_636 : decode cL_law 636 = .ok (.iload_n 3, 1) := by decide +kernel
theorem dL_law_637 : decode cL_law 637 = .ok (.iconst 3, 1) := by decide +kernel
theorem dL_law_638 : decode cL_law 638 = .ok (.iadd, 1) := by decide +kernel
theorem dL_law_639 : decode cL_law 639 = .ok (.iaload, 1) := by decide +kernel
theorem dL_law_640 : decode cL_law 640 = .ok (.invokevirtual 73, 3) := by decide +kernel
theorem dL_law_643 : decode cL_law 643 = .ok (.if_icmp .eq 140, 3) := by decide +kernel
theorem dL_law_646 : decode cL_law 646 = .ok (.iconst 0, 1) := by decide +kernel
theorem dL_law_647 : decode cL_law 647 = .ok (.ireturn, 1) := by decide +kernel
theorem dL_law_648 : decode cL_law 648 = .ok (.aload_n 1, 1) := by decide +kernel
theorem dL_law_649 : decode cL_law 649 = .ok (.aload_n 0, 1) := by decide +kernel
theorem dL_law_650 : decode cL_law 650 = .ok (.iload_n 3, 1) := by decide +kernel
theorem dL_law_651 : decode cL_law 651 = .ok (.iconst 1, 1) := by decide +kernel
theorem dL_law_652 : decode cL_law 652 = .ok (.iadd, 1) := by decide +kernel
theorem dL_law_653 : decode cL_law 653 = .ok (.iaload, 1) := by decide +kernel
theorem dL_law_654 : decode cL_law 654 = .ok (.invokevirtual 74, 3) := by decide +kernel
theorem dL_law_657 : decode cL_law 657 = .ok (.aload_n 2, 1) := by decide +kernel
theorem dL_law_658 : decode cL_law 658 = .ok (.aload_n 0, 1) := by decide +kernel
theorem dL_law_659 : decode cL_law 659 = .ok (.iload_n 3, 1) := by decide +kernel
theorem dL_law_660 : decode cL_law 660 = .ok (.iconst 1, 1) := by decide +kernel
theorem dL_law_661 : decode cL_law 661 = .ok (.iadd, 1) := by decide +kernel
theorem dL_law_662 : decode cL_law 662 = .ok (.iaload, 1) := by decide +kernel
theorem dL_law_663 : decode cL_law 663 = .ok (.invokevirtual 77, 3) := by decide +kernel
theorem dL_law_666 : decode cL_law 666 = .ok (.if_icmp .eq 117, 3) := by decide +kernel
theorem dL_law_669 : decode cL_law 669 = .ok (.iconst 0, 1) := by decide +kernel
theorem dL_law_670 : decode cL_law 670 = .ok (.ireturn, 1) := by decide +kernel
theorem dL_law_671 : decode cL_law 671 = .ok (.aload_n 1, 1) := by decide +kernel
theorem dL_law_672 : decode cL_law 672 = .ok (.invokevirtual 78, 3) := by decide +kernel
theorem dL_law_675 : decode cL_law 675 = .ok (.aload_n 2, 1) := by decide +kernel
theorem dL_law_676 : decode cL_law 676 = .ok (.invokevirtual 82, 3) := by decide +kernel
theorem dL_law_679 : decode cL_law 679 = .ok (.if_icmp .eq 104, 3) := by decide +kernel
theorem dL_law_682 : decode cL_law 682 = .ok (.iconst 0, 1) := by decide +kernel
theorem dL_law_683 : decode cL_law 683 = .ok (.ireturn, 1) := by decide +kernel
theorem dL_law_684 : decode cL_law 684 = .ok (.aload_n 1, 1) := by decide +kernel
theorem dL_law_685 : decode cL_law 685 = .ok (.invokevirtual 83, 3) := by decide +kernel
theorem dL_law_688 : decode cL_law 688 = .ok (.aload_n 2, 1) := by decide +kernel
theorem dL_law_689 : decode cL_law 689 = .ok (.invokevirtual 86, 3) := by decide +kernel
theorem dL_law_692 : decode cL_law 692 = .ok (.if_icmp .eq 91, 3) := by decide +kernel
theorem dL_law_695 : decode cL_law 695 = .ok (.iconst 0, 1) := by decide +kernel
theorem dL_law_696 : decode cL_law 696 = .ok (.ireturn, 1) := by decide +kernel
theorem dL_law_697 : decode cL_law 697 = .ok (.aload_n 1, 1) := by decide +kernel
theorem dL_law_698 : decode cL_law 698 = .ok (.invokevirtual 87, 3) := by decide +kernel
theorem dL_law_701 : decode cL_law 701 = .ok (.aload_n 2, 1) := by decide +kernel
theorem dL_law_702 : decode cL_law 702 = .ok (.invokevirtual 90, 3) := by decide +kernel
theorem dL_law_705 : decode cL_law 705 = .ok (.if_icmp .eq 78, 3) := by decide +kernel
theorem dL_law_708 : decode cL_law 708 = .ok (.iconst 0, 1) := by decide +kernel
theorem dL_law_709 : decode cL_law 709 = .ok (.ireturn, 1) := by decide +kernel
theorem dL_law_710 : decode cL_law 710 = .ok (.aload_n 1, 1) := by decide +kernel
theorem dL_law_711 : decode cL_law 711 = .ok (.aload_n 0, 1) := by decide +kernel
theorem dL_law_712 : decode cL_law 712 = .ok (.iload_n 3, 1) := by decide +kernel
theorem dL_law_713 : decode cL_law 713 = .ok (.iconst 1, 1) := by decide +kernel
theorem dL_law_714 : decode cL_law 714 = .ok (.iadd, 1) := by decide +kernel
theorem dL_law_715 : decode cL_law 715 = .ok (.iaload, 1) := by decide +kernel
theorem dL_law_716 : decode cL_law 716 = .ok (.invokevirtual 91, 3) := by decide +kernel
theorem dL_law_719 : decode cL_law 719 = .ok (.aload_n 2, 1) := by decide +kernel
theorem dL_law_720 : decode cL_law 720 = .ok (.aload_n 0, 1) := by decide +kernel
theorem dL_law_721 : decode cL_law 721 = .ok (.iload_n 3, 1) := by decide +kernel
theorem dL_law_722 : decode cL_law 722 = .ok (.iconst 1, 1) := by decide +kernel
theorem dL_law_723 : decode cL_law 723 = .ok (.iadd, 1) := by decide +kernel
theorem dL_law_724 : decode cL_law 724 = .ok (.iaload, 1) := by decide +kernel
theorem dL_law_725 : decode cL_law 725 = .ok (.invokevirtual 94, 3) := by decide +kernel
theorem dL_law_728 : decode cL_law 728 = .ok (.if_icmp .eq 55, 3) := by decide +kernel
theorem dL_law_731 : decode cL_law 731 = .ok (.iconst 0, 1) := by decide +kernel
theorem dL_law_732 : decode cL_law 732 = .ok (.ireturn, 1) := by decide +kernel
theorem dL_law_733 : decode cL_law 733 = .ok (.aload_n 1, 1) := by decide +kernel
theorem dL_law_734 : decode cL_law 734 = .ok (.invokevirtual 95, 3) := by decide +kernel
theorem dL_law_737 : decode cL_law 737 = .ok (.aload_n 2, 1) := by decide +kernel
theorem dL_law_738 : decode cL_law 738 = .ok (.invokevirtual 98, 3) := by decide +kernel
theorem dL_law_741 : decode cL_law 741 = .ok (.if_icmp .eq 42, 3) := by decide +kernel
theorem dL_law_744 : decode cL_law 744 = .ok (.iconst 0, 1) := by decide +kernel
theorem dL_law_745 : decode cL_law 745 = .ok (.ireturn, 1) := by decide +kernel
theorem dL_law_746 : decode cL_law 746 = .ok (.aload_n 1, 1) := by decide +kernel
theorem dL_law_747 : decode cL_law 747 = .ok (.aload_n 0, 1) := by decide +kernel
theorem dL_law_748 : decode cL_law 748 = .ok (.iload_n 3, 1) := by decide +kernel
theorem dL_law_749 : decode cL_law 749 = .ok (.iconst 1, 1) := by decide +kernel
theorem dL_law_750 : decode cL_law 750 = .ok (.iadd, 1) := by decide +kernel
theorem dL_law_751 : decode cL_law 751 = .ok (.iaload, 1) := by decide +kernel
theorem dL_law_752 : decode cL_law 752 = .ok (.invokevirtual 99, 3) := by decide +kernel
theorem dL_law_755 : decode cL_law 755 = .ok (.aload_n 2, 1) := by decide +kernel
theorem dL_law_756 : decode cL_law 756 = .ok (.aload_n 0, 1) := by decide +kernel
theorem dL_law_757 : decode cL_law 757 = .ok (.iload_n 3, 1) := by decide +kernel
theorem dL_law_758 : decode cL_law 758 = .ok (.iconst 1, 1) := by decide +kernel
theorem dL_law_759 : decode cL_law 759 = .ok (.iadd, 1) := by decide +kernel
theorem dL_law_760 : decode cL_law 760 = .ok (.iaload, 1) := by decide +kernel
theorem dL_law_761 : decode cL_law 761 = .ok (.invokevirtual 102, 3) := by decide +kernel
theorem dL_law_764 : decode cL_law 764 = .ok (.if_icmp .eq 19, 3) := by decide +kernel
theorem dL_law_767 : decode cL_law 767 = .ok (.iconst 0, 1) := by decide +kernel
theorem dL_law_768 : decode cL_law 768 = .ok (.ireturn, 1) := by decide +kernel
theorem dL_law_769 : decode cL_law 769 = .ok (.aload_n 1, 1) := by decide +kernel
theorem dL_law_770 : decode cL_law 770 = .ok (.invokevirtual 103, 3) := by decide +kernel
theorem dL_law_773 : decode cL_law 773 = .ok (.aload_n 2, 1) := by decide +kernel
theorem dL_law_774 : decode cL_law 774 = .ok (.invokevirtual 107, 3) := by decide +kernel
theorem dL_law_777 : decode cL_law 777 = .ok (.lcmp, 1) := by decide +kernel
theorem dL_law_778 : decode cL_law 778 = .ok (.ifCond .eq 5, 3) := by decide +kernel
theorem dL_law_781 : decode cL_law 781 = .ok (.iconst 0, 1) := by decide +kernel
theorem dL_law_782 : decode cL_law 782 = .ok (.ireturn, 1) := by decide +kernel
theorem dL_law_783 : decode cL_law 783 = .ok (.iinc 3 6, 3) := by decide +kernel
theorem dL_law_786 : decode cL_law 786 = .ok (.goto (-768), 3) := by decide +kernel
theorem dL_law_789 : decode cL_law 789 = .ok (.iconst 1, 1) := by decide +kernel
theorem dL_law_790 : decode cL_law 790 = .ok (.ireturn, 1) := by decide +kernel
end
section
def xT : List Cond := lw_tbl.filter goodWord
theorem xT_in : ∀ w ∈ xT, w ∈ lw_tbl := fun _ h => (List.mem_filter.mp h).1
theorem xT_good {M : Cond} (h : M ∈ xT) : ∀ w ∈ M :: xT, w ∈ xT ∧ ((w.onTables && w.keeps) = true ∨ ∃ ty, w = .arrayClass ty) := fun w hw => (List.mem_cons.mp hw).elim (fun e => by subst e; exact ⟨h, good_of_word (List.mem_filter.mp h).2⟩) (fun h2 => ⟨h2, good_of_word (List.mem_filter.mp h2).2⟩)
theorem xw_0 : Jvm.Cond.initialized "OnceLettersLaw" ∈ xT := List.mem_filter.mpr ⟨List.mem_append_right _ (List.mem_of_getElem? (i := 0) (by decide +kernel)), rfl⟩
theorem xw_1 : Jvm.Cond.initialized "OnceLetters" ∈ xT := List.mem_filter.mpr ⟨List.mem_append_right _ (List.mem_of_getElem? (i := 1) (by decide +kernel)), rfl⟩
theorem xw_2 : Jvm.Cond.initialized "OnceLetters$State" ∈ xT := List.mem_filter.mpr ⟨List.mem_append_right _ (List.mem_of_getElem? (i := 2) (by decide +kernel)), rfl⟩
theorem xw_3 : Jvm.Cond.initialized "OnceLetters$Producer" ∈ xT := List.mem_filter.mpr ⟨List.mem_append_right _ (List.mem_of_getElem? (i := 3) (by decide +kernel)), rfl⟩
theorem xw_4 : Jvm.Cond.initialized "OnceLetters$Consumer" ∈ xT := List.mem_filter.mpr ⟨List.mem_append_right _ (List.mem_of_getElem? (i := 4) (by decide +kernel)), rfl⟩
theorem xw_5 : Jvm.Cond.initialized "OnceLetters$Script" ∈ xT := List.mem_filter.mpr ⟨List.mem_append_right _ (List.mem_of_getElem? (i := 5) (by decide +kernel)), rfl⟩
theorem xw_6 : Jvm.Cond.initialized "OnceLetters$Log" ∈ xT := List.mem_filter.mpr ⟨List.mem_append_right _ (List.mem_of_getElem? (i := 6) (by decide +kernel)), rfl⟩
theorem xw_7 : Jvm.Cond.initialized "OnceLettersModel" ∈ xT := List.mem_filter.mpr ⟨List.mem_append_right _ (List.mem_of_getElem? (i := 7) (by decide +kernel)), rfl⟩
theorem xw_8 : Jvm.Cond.initialized "java/lang/System" ∈ xT := List.mem_filter.mpr ⟨List.mem_append_right _ (List.mem_of_getElem? (i := 8) (by decide +kernel)), rfl⟩
theorem xw_9 : Jvm.Cond.initialized "java/lang/Math" ∈ xT := List.mem_filter.mpr ⟨List.mem_append_right _ (List.mem_of_getElem? (i := 9) (by decide +kernel)), rfl⟩
theorem xw_10 : Jvm.Cond.classLink "OnceLettersLaw" (7 : Nat) "OnceLetters" ∈ xT := List.mem_filter.mpr ⟨List.mem_append_right _ (List.mem_of_getElem? (i := 10) (by decide +kernel)), rfl⟩
theorem xw_11 : Jvm.Cond.instantiable "OnceLetters" (9 : Nat) ∈ xT := List.mem_filter.mpr ⟨List.mem_append_right _ (List.mem_of_getElem? (i := 11) (by decide +kernel)), rfl⟩
theorem xw_12 : Jvm.Cond.methodLink "OnceLettersLaw" (9 : Nat) ({ cls := "OnceLetters", name := "<init>", desc := "()V" } : Jvm.MethodName) ∈ xT := List.mem_filter.mpr ⟨List.mem_append_right _ (List.mem_of_getElem? (i := 12) (by decide +kernel)), rfl⟩
theorem xw_13 : Jvm.Cond.instanceMethod ({ cls := "OnceLetters", name := "<init>", desc := "()V" } : Jvm.MethodName) ∈ xT := List.mem_filter.mpr ⟨List.mem_append_right _ (List.mem_of_getElem? (i := 13) (by decide +kernel)), rfl⟩
theorem xw_14 : Jvm.Cond.code ({ cls := "OnceLetters", name := "<init>", desc := "()V" } : Jvm.MethodName) prog_1_method_1_code (2 : Nat) (Option.none : Option Jvm.ClassFile.FieldType) ∈ xT := List.mem_filter.mpr ⟨List.mem_append_right _ (List.mem_of_getElem? (i := 14) (by decide +kernel)), rfl⟩
theorem xw_15 : Jvm.Cond.methodLink "OnceLetters" (1 : Nat) ({ cls := "java/lang/Object", name := "<init>", desc := "()V" } : Jvm.MethodName) ∈ xT := List.mem_filter.mpr ⟨List.mem_append_right _ (List.mem_of_getElem? (i := 15) (by decide +kernel)), rfl⟩
theorem xw_16 : Jvm.Cond.instanceMethod ({ cls := "java/lang/Object", name := "<init>", desc := "()V" } : Jvm.MethodName) ∈ xT := List.mem_filter.mpr ⟨List.mem_append_right _ (List.mem_of_getElem? (i := 16) (by decide +kernel)), rfl⟩
theorem xw_17 : Jvm.Cond.code ({ cls := "java/lang/Object", name := "<init>", desc := "()V" } : Jvm.MethodName) object_method_1_code (1 : Nat) (Option.none : Option Jvm.ClassFile.FieldType) ∈ xT := List.mem_filter.mpr ⟨List.mem_append_right _ (List.mem_of_getElem? (i := 17) (by decide +kernel)), rfl⟩
theorem xw_18 : Jvm.Cond.classLink "OnceLetters" (9 : Nat) "OnceLetters$Log" ∈ xT := List.mem_filter.mpr ⟨List.mem_append_right _ (List.mem_of_getElem? (i := 18) (by decide +kernel)), rfl⟩
theorem xl_19 : Jvm.Cond.arrayOver (Jvm.ClassFile.FieldType.object "OnceLetters$Log") ∈ lw_tbl := List.mem_append_right _ (List.mem_of_getElem? (i := 19) (by decide +kernel))
theorem xw_20 : Jvm.Cond.classLink "OnceLetters" (15 : Nat) "OnceLetters$State" ∈ xT := List.mem_filter.mpr ⟨List.mem_append_right _ (List.mem_of_getElem? (i := 20) (by decide +kernel)), rfl⟩
theorem xw_21 : Jvm.Cond.instantiable "OnceLetters$State" (5 : Nat) ∈ xT := List.mem_filter.mpr ⟨List.mem_append_right _ (List.mem_of_getElem? (i := 21) (by decide +kernel)), rfl⟩
theorem xw_22 : Jvm.Cond.methodLink "OnceLetters" (17 : Nat) ({ cls := "OnceLetters$State", name := "<init>", desc := "()V" } : Jvm.MethodName) ∈ xT := List.mem_filter.mpr ⟨List.mem_append_right _ (List.mem_of_getElem? (i := 22) (by decide +kernel)), rfl⟩
theorem xw_23 : Jvm.Cond.instanceMethod ({ cls := "OnceLetters$State", name := "<init>", desc := "()V" } : Jvm.MethodName) ∈ xT := List.mem_filter.mpr ⟨List.mem_append_right _ (List.mem_of_getElem? (i := 23) (by decide +kernel)), rfl⟩
theorem xw_24 : Jvm.Cond.code ({ cls := "OnceLetters$State", name := "<init>", desc := "()V" } : Jvm.MethodName) prog_6_method_1_code (2 : Nat) (Option.none : Option Jvm.ClassFile.FieldType) ∈ xT := List.mem_filter.mpr ⟨List.mem_append_right _ (List.mem_of_getElem? (i := 24) (by decide +kernel)), rfl⟩
theorem xw_25 : Jvm.Cond.methodLink "OnceLetters$State" (3 : Nat) ({ cls := "java/lang/Object", name := "<init>", desc := "()V" } : Jvm.MethodName) ∈ xT := List.mem_filter.mpr ⟨List.mem_append_right _ (List.mem_of_getElem? (i := 25) (by decide +kernel)), rfl⟩
theorem xw_26 : Jvm.Cond.classLink "OnceLetters$State" (22 : Nat) "OnceLetters$Producer" ∈ xT := List.mem_filter.mpr ⟨List.mem_append_right _ (List.mem_of_getElem? (i := 26) (by decide +kernel)), rfl⟩
theorem xl_27 : Jvm.Cond.arrayOver (Jvm.ClassFile.FieldType.object "OnceLetters$Producer") ∈ lw_tbl := List.mem_append_right _ (List.mem_of_getElem? (i := 27) (by decide +kernel))
theorem xw_28 : Jvm.Cond.classLink "OnceLetters$State" (28 : Nat) "OnceLetters$Consumer" ∈ xT := List.mem_filter.mpr ⟨List.mem_append_right _ (List.mem_of_getElem? (i := 28) (by decide +kernel)), rfl⟩
theorem xl_29 : Jvm.Cond.arrayOver (Jvm.ClassFile.FieldType.object "OnceLetters$Consumer") ∈ lw_tbl := List.mem_append_right _ (List.mem_of_getElem? (i := 29) (by decide +kernel))
theorem xw_30 : Jvm.Cond.instantiable "OnceLetters$Producer" (7 : Nat) ∈ xT := List.mem_filter.mpr ⟨List.mem_append_right _ (List.mem_of_getElem? (i := 30) (by decide +kernel)), rfl⟩
theorem xl_31 : Jvm.Cond.methodLinkNest "OnceLetters$State" (34 : Nat) ({ cls := "OnceLetters$Producer", name := "<init>", desc := "()V" } : Jvm.MethodName) "OnceLetters" ∈ lw_tbl := List.mem_append_right _ (List.mem_of_getElem? (i := 31) (by decide +kernel))
theorem xw_32 : Jvm.Cond.instanceMethod ({ cls := "OnceLetters$Producer", name := "<init>", desc := "()V" } : Jvm.MethodName) ∈ xT := List.mem_filter.mpr ⟨List.mem_append_right _ (List.mem_of_getElem? (i := 32) (by decide +kernel)), rfl⟩
theorem xw_33 : Jvm.Cond.code ({ cls := "OnceLetters$Producer", name := "<init>", desc := "()V" } : Jvm.MethodName) prog_4_method_1_code (1 : Nat) (Option.none : Option Jvm.ClassFile.FieldType) ∈ xT := List.mem_filter.mpr ⟨List.mem_append_right _ (List.mem_of_getElem? (i := 33) (by decide +kernel)), rfl⟩
theorem xw_34 : Jvm.Cond.methodLink "OnceLetters$Producer" (3 : Nat) ({ cls := "java/lang/Object", name := "<init>", desc := "()V" } : Jvm.MethodName) ∈ xT := List.mem_filter.mpr ⟨List.mem_append_right _ (List.mem_of_getElem? (i := 34) (by decide +kernel)), rfl⟩
theorem xw_35 : Jvm.Cond.fieldLink "OnceLetters$Producer" (9 : Nat) "OnceLetters$Producer" "age" "I" ∈ xT := List.mem_filter.mpr ⟨List.mem_append_right _ (List.mem_of_getElem? (i := 35) (by decide +kernel)), rfl⟩
theorem xw_36 : Jvm.Cond.fieldLink "OnceLetters" (69 : Nat) "OnceLetters$Producer" "age" "I" ∈ xT := List.mem_filter.mpr ⟨List.mem_append_right _ (List.mem_of_getElem? (i := 36) (by decide +kernel)), rfl⟩
theorem xw_37 : Jvm.Cond.fieldLink "OnceLetters$Producer" (15 : Nat) "OnceLetters$Producer" "mode" "I" ∈ xT := List.mem_filter.mpr ⟨List.mem_append_right _ (List.mem_of_getElem? (i := 37) (by decide +kernel)), rfl⟩
theorem xw_38 : Jvm.Cond.fieldLink "OnceLetters" (64 : Nat) "OnceLetters$Producer" "mode" "I" ∈ xT := List.mem_filter.mpr ⟨List.mem_append_right _ (List.mem_of_getElem? (i := 38) (by decide +kernel)), rfl⟩
theorem xw_39 : Jvm.Cond.fieldLink "OnceLetters$Producer" (18 : Nat) "OnceLetters$Producer" "commit" "I" ∈ xT := List.mem_filter.mpr ⟨List.mem_append_right _ (List.mem_of_getElem? (i := 39) (by decide +kernel)), rfl⟩
theorem xw_40 : Jvm.Cond.fieldLink "OnceLetters" (140 : Nat) "OnceLetters$Producer" "commit" "I" ∈ xT := List.mem_filter.mpr ⟨List.mem_append_right _ (List.mem_of_getElem? (i := 40) (by decide +kernel)), rfl⟩
theorem xw_41 : Jvm.Cond.fieldLink "OnceLetters$Producer" (21 : Nat) "OnceLetters$Producer" "opened" "I" ∈ xT := List.mem_filter.mpr ⟨List.mem_append_right _ (List.mem_of_getElem? (i := 41) (by decide +kernel)), rfl⟩
theorem xw_42 : Jvm.Cond.fieldLink "OnceLetters" (85 : Nat) "OnceLetters$Producer" "opened" "I" ∈ xT := List.mem_filter.mpr ⟨List.mem_append_right _ (List.mem_of_getElem? (i := 42) (by decide +kernel)), rfl⟩
theorem xw_43 : Jvm.Cond.fieldLink "OnceLetters$Producer" (24 : Nat) "OnceLetters$Producer" "first" "[I" ∈ xT := List.mem_filter.mpr ⟨List.mem_append_right _ (List.mem_of_getElem? (i := 43) (by decide +kernel)), rfl⟩
theorem xw_44 : Jvm.Cond.fieldLink "OnceLetters" (105 : Nat) "OnceLetters$Producer" "first" "[I" ∈ xT := List.mem_filter.mpr ⟨List.mem_append_right _ (List.mem_of_getElem? (i := 44) (by decide +kernel)), rfl⟩
theorem xw_45 : Jvm.Cond.fieldLink "OnceLetters$Producer" (28 : Nat) "OnceLetters$Producer" "due" "[I" ∈ xT := List.mem_filter.mpr ⟨List.mem_append_right _ (List.mem_of_getElem? (i := 45) (by decide +kernel)), rfl⟩
theorem xw_46 : Jvm.Cond.fieldLink "OnceLetters" (272 : Nat) "OnceLetters$Producer" "due" "[I" ∈ xT := List.mem_filter.mpr ⟨List.mem_append_right _ (List.mem_of_getElem? (i := 46) (by decide +kernel)), rfl⟩
theorem xw_47 : Jvm.Cond.fieldLink "OnceLetters$Producer" (31 : Nat) "OnceLetters$Producer" "carried" "[I" ∈ xT := List.mem_filter.mpr ⟨List.mem_append_right _ (List.mem_of_getElem? (i := 47) (by decide +kernel)), rfl⟩
theorem xw_48 : Jvm.Cond.fieldLink "OnceLetters" (121 : Nat) "OnceLetters$Producer" "carried" "[I" ∈ xT := List.mem_filter.mpr ⟨List.mem_append_right _ (List.mem_of_getElem? (i := 48) (by decide +kernel)), rfl⟩
theorem xw_63 : Jvm.Cond.superclass "OnceLetters$Producer" "java/lang/Object" ∈ xT := List.mem_filter.mpr ⟨List.mem_append_right _ (List.mem_of_getElem? (i := 63) (by decide +kernel)), rfl⟩
theorem xw_64 : Jvm.Cond.arrayClass Jvm.ClassFile.FieldType.int ∈ xT := List.mem_filter.mpr ⟨List.mem_append_right _ (List.mem_of_getElem? (i := 64) (by decide +kernel)), rfl⟩
theorem xw_65 : Jvm.Cond.instantiable "OnceLetters$Consumer" (2 : Nat) ∈ xT := List.mem_filter.mpr ⟨List.mem_append_right _ (List.mem_of_getElem? (i := 65) (by decide +kernel)), rfl⟩
theorem xl_66 : Jvm.Cond.methodLinkNest "OnceLetters$State" (35 : Nat) ({ cls := "OnceLetters$Consumer", name := "<init>", desc := "()V" } : Jvm.MethodName) "OnceLetters" ∈ lw_tbl := List.mem_append_right _ (List.mem_of_getElem? (i := 66) (by decide +kernel))
theorem xw_67 : Jvm.Cond.instanceMethod ({ cls := "OnceLetters$Consumer", name := "<init>", desc := "()V" } : Jvm.MethodName) ∈ xT := List.mem_filter.mpr ⟨List.mem_append_right _ (List.mem_of_getElem? (i := 67) (by decide +kernel)), rfl⟩
theorem xw_68 : Jvm.Cond.code ({ cls := "OnceLetters$Consumer", name := "<init>", desc := "()V" } : Jvm.MethodName) prog_2_method_1_code (1 : Nat) (Option.none : Option Jvm.ClassFile.FieldType) ∈ xT := List.mem_filter.mpr ⟨List.mem_append_right _ (List.mem_of_getElem? (i := 68) (by decide +kernel)), rfl⟩
theorem xw_69 : Jvm.Cond.methodLink "OnceLetters$Consumer" (3 : Nat) ({ cls := "java/lang/Object", name := "<init>", desc := "()V" } : Jvm.MethodName) ∈ xT := List.mem_filter.mpr ⟨List.mem_append_right _ (List.mem_of_getElem? (i := 69) (by decide +kernel)), rfl⟩
theorem xw_70 : Jvm.Cond.fieldLink "OnceLetters$Consumer" (9 : Nat) "OnceLetters$Consumer" "place" "[I" ∈ xT := List.mem_filter.mpr ⟨List.mem_append_right _ (List.mem_of_getElem? (i := 70) (by decide +kernel)), rfl⟩
theorem xw_71 : Jvm.Cond.fieldLink "OnceLetters" (116 : Nat) "OnceLetters$Consumer" "place" "[I" ∈ xT := List.mem_filter.mpr ⟨List.mem_append_right _ (List.mem_of_getElem? (i := 71) (by decide +kernel)), rfl⟩
theorem xw_72 : Jvm.Cond.fieldLink "OnceLetters$Consumer" (15 : Nat) "OnceLetters$Consumer" "saved" "[I" ∈ xT := List.mem_filter.mpr ⟨List.mem_append_right _ (List.mem_of_getElem? (i := 72) (by decide +kernel)), rfl⟩
theorem xw_73 : Jvm.Cond.fieldLink "OnceLetters" (188 : Nat) "OnceLetters$Consumer" "saved" "[I" ∈ xT := List.mem_filter.mpr ⟨List.mem_append_right _ (List.mem_of_getElem? (i := 73) (by decide +kernel)), rfl⟩
theorem xw_78 : Jvm.Cond.superclass "OnceLetters$Consumer" "java/lang/Object" ∈ xT := List.mem_filter.mpr ⟨List.mem_append_right _ (List.mem_of_getElem? (i := 78) (by decide +kernel)), rfl⟩
theorem xw_79 : Jvm.Cond.fieldLink "OnceLetters$State" (9 : Nat) "OnceLetters$State" "time" "I" ∈ xT := List.mem_filter.mpr ⟨List.mem_append_right _ (List.mem_of_getElem? (i := 79) (by decide +kernel)), rfl⟩
theorem xw_80 : Jvm.Cond.fieldLink "OnceLetters" (82 : Nat) "OnceLetters$State" "time" "I" ∈ xT := List.mem_filter.mpr ⟨List.mem_append_right _ (List.mem_of_getElem? (i := 80) (by decide +kernel)), rfl⟩
theorem xw_81 : Jvm.Cond.fieldLink "OnceLetters$State" (15 : Nat) "OnceLetters$State" "limit" "I" ∈ xT := List.mem_filter.mpr ⟨List.mem_append_right _ (List.mem_of_getElem? (i := 81) (by decide +kernel)), rfl⟩
theorem xw_82 : Jvm.Cond.fieldLink "OnceLetters" (131 : Nat) "OnceLetters$State" "limit" "I" ∈ xT := List.mem_filter.mpr ⟨List.mem_append_right _ (List.mem_of_getElem? (i := 82) (by decide +kernel)), rfl⟩
theorem xw_83 : Jvm.Cond.fieldLink "OnceLetters$State" (18 : Nat) "OnceLetters$State" "lengths" "[I" ∈ xT := List.mem_filter.mpr ⟨List.mem_append_right _ (List.mem_of_getElem? (i := 83) (by decide +kernel)), rfl⟩
theorem xw_84 : Jvm.Cond.fieldLink "OnceLetters" (220 : Nat) "OnceLetters$State" "lengths" "[I" ∈ xT := List.mem_filter.mpr ⟨List.mem_append_right _ (List.mem_of_getElem? (i := 84) (by decide +kernel)), rfl⟩
theorem xw_85 : Jvm.Cond.fieldLink "OnceLetters$State" (24 : Nat) "OnceLetters$State" "producers" "[LOnceLetters$Producer;" ∈ xT := List.mem_filter.mpr ⟨List.mem_append_right _ (List.mem_of_getElem? (i := 85) (by decide +kernel)), rfl⟩
theorem xw_86 : Jvm.Cond.fieldLink "OnceLetters" (60 : Nat) "OnceLetters$State" "producers" "[LOnceLetters$Producer;" ∈ xT := List.mem_filter.mpr ⟨List.mem_append_right _ (List.mem_of_getElem? (i := 86) (by decide +kernel)), rfl⟩
theorem xw_87 : Jvm.Cond.fieldLink "OnceLetters$State" (30 : Nat) "OnceLetters$State" "consumers" "[LOnceLetters$Consumer;" ∈ xT := List.mem_filter.mpr ⟨List.mem_append_right _ (List.mem_of_getElem? (i := 87) (by decide +kernel)), rfl⟩
theorem xw_88 : Jvm.Cond.fieldLink "OnceLetters" (112 : Nat) "OnceLetters$State" "consumers" "[LOnceLetters$Consumer;" ∈ xT := List.mem_filter.mpr ⟨List.mem_append_right _ (List.mem_of_getElem? (i := 88) (by decide +kernel)), rfl⟩
theorem xw_99 : Jvm.Cond.superclass "OnceLetters$State" "java/lang/Object" ∈ xT := List.mem_filter.mpr ⟨List.mem_append_right _ (List.mem_of_getElem? (i := 99) (by decide +kernel)), rfl⟩
theorem xl_100 : Jvm.Cond.arrayOver (Jvm.ClassFile.FieldType.object "OnceLetters$State") ∈ lw_tbl := List.mem_append_right _ (List.mem_of_getElem? (i := 100) (by decide +kernel))
theorem xw_101 : Jvm.Cond.classLink "OnceLetters" (33 : Nat) "OnceLetters$Script" ∈ xT := List.mem_filter.mpr ⟨List.mem_append_right _ (List.mem_of_getElem? (i := 101) (by decide +kernel)), rfl⟩
theorem xw_102 : Jvm.Cond.instantiable "OnceLetters$Script" (9 : Nat) ∈ xT := List.mem_filter.mpr ⟨List.mem_append_right _ (List.mem_of_getElem? (i := 102) (by decide +kernel)), rfl⟩
theorem xl_103 : Jvm.Cond.methodLinkNest "OnceLetters" (35 : Nat) ({ cls := "OnceLetters$Script", name := "<init>", desc := "()V" } : Jvm.MethodName) "OnceLetters" ∈ lw_tbl := List.mem_append_right _ (List.mem_of_getElem? (i := 103) (by decide +kernel))
theorem xw_104 : Jvm.Cond.instanceMethod ({ cls := "OnceLetters$Script", name := "<init>", desc := "()V" } : Jvm.MethodName) ∈ xT := List.mem_filter.mpr ⟨List.mem_append_right _ (List.mem_of_getElem? (i := 104) (by decide +kernel)), rfl⟩
theorem xw_105 : Jvm.Cond.code ({ cls := "OnceLetters$Script", name := "<init>", desc := "()V" } : Jvm.MethodName) prog_5_method_1_code (1 : Nat) (Option.none : Option Jvm.ClassFile.FieldType) ∈ xT := List.mem_filter.mpr ⟨List.mem_append_right _ (List.mem_of_getElem? (i := 105) (by decide +kernel)), rfl⟩
theorem xw_106 : Jvm.Cond.methodLink "OnceLetters$Script" (3 : Nat) ({ cls := "java/lang/Object", name := "<init>", desc := "()V" } : Jvm.MethodName) ∈ xT := List.mem_filter.mpr ⟨List.mem_append_right _ (List.mem_of_getElem? (i := 106) (by decide +kernel)), rfl⟩
theorem xw_107 : Jvm.Cond.fieldLink "OnceLetters$Script" (9 : Nat) "OnceLetters$Script" "bytes" "[I" ∈ xT := List.mem_filter.mpr ⟨List.mem_append_right _ (List.mem_of_getElem? (i := 107) (by decide +kernel)), rfl⟩
theorem xw_108 : Jvm.Cond.fieldLink "OnceLetters" (192 : Nat) "OnceLetters$Script" "bytes" "[I" ∈ xT := List.mem_filter.mpr ⟨List.mem_append_right _ (List.mem_of_getElem? (i := 108) (by decide +kernel)), rfl⟩
theorem xw_109 : Jvm.Cond.fieldLink "OnceLetters$Script" (15 : Nat) "OnceLetters$Script" "length" "I" ∈ xT := List.mem_filter.mpr ⟨List.mem_append_right _ (List.mem_of_getElem? (i := 109) (by decide +kernel)), rfl⟩
theorem xw_110 : Jvm.Cond.fieldLink "OnceLetters" (191 : Nat) "OnceLetters$Script" "length" "I" ∈ xT := List.mem_filter.mpr ⟨List.mem_append_right _ (List.mem_of_getElem? (i := 110) (by decide +kernel)), rfl⟩
theorem xw_111 : Jvm.Cond.fieldLink "OnceLetters$Script" (19 : Nat) "OnceLetters$Script" "letters" "[I" ∈ xT := List.mem_filter.mpr ⟨List.mem_append_right _ (List.mem_of_getElem? (i := 111) (by decide +kernel)), rfl⟩
theorem xw_112 : Jvm.Cond.fieldLink "OnceLetters" (296 : Nat) "OnceLetters$Script" "letters" "[I" ∈ xT := List.mem_filter.mpr ⟨List.mem_append_right _ (List.mem_of_getElem? (i := 112) (by decide +kernel)), rfl⟩
theorem xw_113 : Jvm.Cond.fieldLink "OnceLetters$Script" (22 : Nat) "OnceLetters$Script" "numbers" "[I" ∈ xT := List.mem_filter.mpr ⟨List.mem_append_right _ (List.mem_of_getElem? (i := 113) (by decide +kernel)), rfl⟩
theorem xw_114 : Jvm.Cond.fieldLink "OnceLetters" (293 : Nat) "OnceLetters$Script" "numbers" "[I" ∈ xT := List.mem_filter.mpr ⟨List.mem_append_right _ (List.mem_of_getElem? (i := 114) (by decide +kernel)), rfl⟩
theorem xw_115 : Jvm.Cond.fieldLink "OnceLetters$Script" (25 : Nat) "OnceLetters$Script" "orders" "I" ∈ xT := List.mem_filter.mpr ⟨List.mem_append_right _ (List.mem_of_getElem? (i := 115) (by decide +kernel)), rfl⟩
theorem xw_116 : Jvm.Cond.fieldLink "OnceLetters" (198 : Nat) "OnceLetters$Script" "orders" "I" ∈ xT := List.mem_filter.mpr ⟨List.mem_append_right _ (List.mem_of_getElem? (i := 116) (by decide +kernel)), rfl⟩
theorem xw_117 : Jvm.Cond.fieldLink "OnceLetters$Script" (28 : Nat) "OnceLetters$Script" "inOrder" "Z" ∈ xT := List.mem_filter.mpr ⟨List.mem_append_right _ (List.mem_of_getElem? (i := 117) (by decide +kernel)), rfl⟩
theorem xw_118 : Jvm.Cond.fieldLink "OnceLetters$Script" (32 : Nat) "OnceLetters$Script" "wanted" "I" ∈ xT := List.mem_filter.mpr ⟨List.mem_append_right _ (List.mem_of_getElem? (i := 118) (by decide +kernel)), rfl⟩
theorem xw_119 : Jvm.Cond.fieldLink "OnceLetters$Script" (35 : Nat) "OnceLetters$Script" "given" "I" ∈ xT := List.mem_filter.mpr ⟨List.mem_append_right _ (List.mem_of_getElem? (i := 119) (by decide +kernel)), rfl⟩
theorem xw_120 : Jvm.Cond.fieldLink "OnceLetters$Script" (38 : Nat) "OnceLetters$Script" "digits" "I" ∈ xT := List.mem_filter.mpr ⟨List.mem_append_right _ (List.mem_of_getElem? (i := 120) (by decide +kernel)), rfl⟩
theorem xw_139 : Jvm.Cond.superclass "OnceLetters$Script" "java/lang/Object" ∈ xT := List.mem_filter.mpr ⟨List.mem_append_right _ (List.mem_of_getElem? (i := 139) (by decide +kernel)), rfl⟩
theorem xw_140 : Jvm.Cond.instantiable "OnceLetters$Log" (7 : Nat) ∈ xT := List.mem_filter.mpr ⟨List.mem_append_right _ (List.mem_of_getElem? (i := 140) (by decide +kernel)), rfl⟩
theorem xl_141 : Jvm.Cond.methodLinkNest "OnceLetters" (51 : Nat) ({ cls := "OnceLetters$Log", name := "<init>", desc := "()V" } : Jvm.MethodName) "OnceLetters" ∈ lw_tbl := List.mem_append_right _ (List.mem_of_getElem? (i := 141) (by decide +kernel))
theorem xw_142 : Jvm.Cond.instanceMethod ({ cls := "OnceLetters$Log", name := "<init>", desc := "()V" } : Jvm.MethodName) ∈ xT := List.mem_filter.mpr ⟨List.mem_append_right _ (List.mem_of_getElem? (i := 142) (by decide +kernel)), rfl⟩
theorem xw_143 : Jvm.Cond.code ({ cls := "OnceLetters$Log", name := "<init>", desc := "()V" } : Jvm.MethodName) prog_3_method_1_code (1 : Nat) (Option.none : Option Jvm.ClassFile.FieldType) ∈ xT := List.mem_filter.mpr ⟨List.mem_append_right _ (List.mem_of_getElem? (i := 143) (by decide +kernel)), rfl⟩
theorem xw_144 : Jvm.Cond.methodLink "OnceLetters$Log" (3 : Nat) ({ cls := "java/lang/Object", name := "<init>", desc := "()V" } : Jvm.MethodName) ∈ xT := List.mem_filter.mpr ⟨List.mem_append_right _ (List.mem_of_getElem? (i := 144) (by decide +kernel)), rfl⟩
theorem xw_145 : Jvm.Cond.fieldLink "OnceLetters$Log" (9 : Nat) "OnceLetters$Log" "length" "I" ∈ xT := List.mem_filter.mpr ⟨List.mem_append_right _ (List.mem_of_getElem? (i := 145) (by decide +kernel)), rfl⟩
theorem xw_146 : Jvm.Cond.fieldLink "OnceLetters" (99 : Nat) "OnceLetters$Log" "length" "I" ∈ xT := List.mem_filter.mpr ⟨List.mem_append_right _ (List.mem_of_getElem? (i := 146) (by decide +kernel)), rfl⟩
theorem xw_147 : Jvm.Cond.fieldLink "OnceLetters$Log" (15 : Nat) "OnceLetters$Log" "writer" "[I" ∈ xT := List.mem_filter.mpr ⟨List.mem_append_right _ (List.mem_of_getElem? (i := 147) (by decide +kernel)), rfl⟩
theorem xw_148 : Jvm.Cond.fieldLink "OnceLetters" (147 : Nat) "OnceLetters$Log" "writer" "[I" ∈ xT := List.mem_filter.mpr ⟨List.mem_append_right _ (List.mem_of_getElem? (i := 148) (by decide +kernel)), rfl⟩
theorem xw_149 : Jvm.Cond.fieldLink "OnceLetters$Log" (19 : Nat) "OnceLetters$Log" "age" "[I" ∈ xT := List.mem_filter.mpr ⟨List.mem_append_right _ (List.mem_of_getElem? (i := 149) (by decide +kernel)), rfl⟩
theorem xw_150 : Jvm.Cond.fieldLink "OnceLetters" (150 : Nat) "OnceLetters$Log" "age" "[I" ∈ xT := List.mem_filter.mpr ⟨List.mem_append_right _ (List.mem_of_getElem? (i := 150) (by decide +kernel)), rfl⟩
theorem xw_151 : Jvm.Cond.fieldLink "OnceLetters$Log" (22 : Nat) "OnceLetters$Log" "number" "[I" ∈ xT := List.mem_filter.mpr ⟨List.mem_append_right _ (List.mem_of_getElem? (i := 151) (by decide +kernel)), rfl⟩
theorem xw_152 : Jvm.Cond.fieldLink "OnceLetters" (152 : Nat) "OnceLetters$Log" "number" "[I" ∈ xT := List.mem_filter.mpr ⟨List.mem_append_right _ (List.mem_of_getElem? (i := 152) (by decide +kernel)), rfl⟩
theorem xw_153 : Jvm.Cond.fieldLink "OnceLetters$Log" (25 : Nat) "OnceLetters$Log" "value" "[I" ∈ xT := List.mem_filter.mpr ⟨List.mem_append_right _ (List.mem_of_getElem? (i := 153) (by decide +kernel)), rfl⟩
theorem xw_154 : Jvm.Cond.fieldLink "OnceLetters" (155 : Nat) "OnceLetters$Log" "value" "[I" ∈ xT := List.mem_filter.mpr ⟨List.mem_append_right _ (List.mem_of_getElem? (i := 154) (by decide +kernel)), rfl⟩
theorem xw_155 : Jvm.Cond.fieldLink "OnceLetters$Log" (28 : Nat) "OnceLetters$Log" "first" "[I" ∈ xT := List.mem_filter.mpr ⟨List.mem_append_right _ (List.mem_of_getElem? (i := 155) (by decide +kernel)), rfl⟩
theorem xw_156 : Jvm.Cond.fieldLink "OnceLetters$Log" (31 : Nat) "OnceLetters$Log" "mark" "[I" ∈ xT := List.mem_filter.mpr ⟨List.mem_append_right _ (List.mem_of_getElem? (i := 156) (by decide +kernel)), rfl⟩
theorem xw_157 : Jvm.Cond.fieldLink "OnceLetters" (179 : Nat) "OnceLetters$Log" "mark" "[I" ∈ xT := List.mem_filter.mpr ⟨List.mem_append_right _ (List.mem_of_getElem? (i := 157) (by decide +kernel)), rfl⟩
theorem xw_172 : Jvm.Cond.superclass "OnceLetters$Log" "java/lang/Object" ∈ xT := List.mem_filter.mpr ⟨List.mem_append_right _ (List.mem_of_getElem? (i := 172) (by decide +kernel)), rfl⟩
theorem xw_173 : Jvm.Cond.fieldLink "OnceLetters" (11 : Nat) "OnceLetters" "logs" "[LOnceLetters$Log;" ∈ xT := List.mem_filter.mpr ⟨List.mem_append_right _ (List.mem_of_getElem? (i := 173) (by decide +kernel)), rfl⟩
theorem xw_174 : Jvm.Cond.fieldLink "OnceLetters" (18 : Nat) "OnceLetters" "now" "LOnceLetters$State;" ∈ xT := List.mem_filter.mpr ⟨List.mem_append_right _ (List.mem_of_getElem? (i := 174) (by decide +kernel)), rfl⟩
theorem xw_175 : Jvm.Cond.fieldLink "OnceLetters" (22 : Nat) "OnceLetters" "kept" "[LOnceLetters$State;" ∈ xT := List.mem_filter.mpr ⟨List.mem_append_right _ (List.mem_of_getElem? (i := 175) (by decide +kernel)), rfl⟩
theorem xw_176 : Jvm.Cond.fieldLink "OnceLetters" (26 : Nat) "OnceLetters" "keptCount" "I" ∈ xT := List.mem_filter.mpr ⟨List.mem_append_right _ (List.mem_of_getElem? (i := 176) (by decide +kernel)), rfl⟩
theorem xw_177 : Jvm.Cond.fieldLink "OnceLetters" (30 : Nat) "OnceLetters" "keptNext" "I" ∈ xT := List.mem_filter.mpr ⟨List.mem_append_right _ (List.mem_of_getElem? (i := 177) (by decide +kernel)), rfl⟩
theorem xw_178 : Jvm.Cond.fieldLink "OnceLetters" (36 : Nat) "OnceLetters" "script" "LOnceLetters$Script;" ∈ xT := List.mem_filter.mpr ⟨List.mem_append_right _ (List.mem_of_getElem? (i := 178) (by decide +kernel)), rfl⟩
theorem xw_179 : Jvm.Cond.fieldLink "OnceLetters" (40 : Nat) "OnceLetters" "errors" "[I" ∈ xT := List.mem_filter.mpr ⟨List.mem_append_right _ (List.mem_of_getElem? (i := 179) (by decide +kernel)), rfl⟩
theorem xw_180 : Jvm.Cond.fieldLink "OnceLetters" (44 : Nat) "OnceLetters" "lastAnswer" "I" ∈ xT := List.mem_filter.mpr ⟨List.mem_append_right _ (List.mem_of_getElem? (i := 180) (by decide +kernel)), rfl⟩
theorem xw_181 : Jvm.Cond.fieldLink "OnceLetters" (47 : Nat) "OnceLetters" "inOrders" "Z" ∈ xT := List.mem_filter.mpr ⟨List.mem_append_right _ (List.mem_of_getElem? (i := 181) (by decide +kernel)), rfl⟩
theorem xw_200 : Jvm.Cond.superclass "OnceLetters" "java/lang/Object" ∈ xT := List.mem_filter.mpr ⟨List.mem_append_right _ (List.mem_of_getElem? (i := 200) (by decide +kernel)), rfl⟩
theorem xw_201 : Jvm.Cond.methodLink "OnceLettersLaw" (13 : Nat) ({ cls := "OnceLetters", name := "begins", desc := "(I)I" } : Jvm.MethodName) ∈ xT := List.mem_filter.mpr ⟨List.mem_append_right _ (List.mem_of_getElem? (i := 201) (by decide +kernel)), rfl⟩
theorem xw_202 : Jvm.Cond.instanceMethod ({ cls := "OnceLetters", name := "begins", desc := "(I)I" } : Jvm.MethodName) ∈ xT := List.mem_filter.mpr ⟨List.mem_append_right _ (List.mem_of_getElem? (i := 202) (by decide +kernel)), rfl⟩
theorem xw_203 : Jvm.Cond.selects "OnceLetters" ({ cls := "OnceLetters", name := "begins", desc := "(I)I" } : Jvm.MethodName) ({ cls := "OnceLetters", name := "begins", desc := "(I)I" } : Jvm.MethodName) ∈ xT := List.mem_filter.mpr ⟨List.mem_append_right _ (List.mem_of_getElem? (i := 203) (by decide +kernel)), rfl⟩
theorem xw_204 : Jvm.Cond.code ({ cls := "OnceLetters", name := "begins", desc := "(I)I" } : Jvm.MethodName) prog_1_method_2_code (3 : Nat) (Option.some Jvm.ClassFile.FieldType.int) ∈ xT := List.mem_filter.mpr ⟨List.mem_append_right _ (List.mem_of_getElem? (i := 204) (by decide +kernel)), rfl⟩
theorem xw_205 : Jvm.Cond.methodLink "OnceLetters" (52 : Nat) ({ cls := "OnceLetters", name := "outside", desc := "(II)Z" } : Jvm.MethodName) ∈ xT := List.mem_filter.mpr ⟨List.mem_append_right _ (List.mem_of_getElem? (i := 205) (by decide +kernel)), rfl⟩
theorem xw_206 : Jvm.Cond.static ({ cls := "OnceLetters", name := "outside", desc := "(II)Z" } : Jvm.MethodName) ∈ xT := List.mem_filter.mpr ⟨List.mem_append_right _ (List.mem_of_getElem? (i := 206) (by decide +kernel)), rfl⟩
theorem xw_207 : Jvm.Cond.code ({ cls := "OnceLetters", name := "outside", desc := "(II)Z" } : Jvm.MethodName) prog_1_method_24_code (2 : Nat) (Option.some Jvm.ClassFile.FieldType.boolean) ∈ xT := List.mem_filter.mpr ⟨List.mem_append_right _ (List.mem_of_getElem? (i := 207) (by decide +kernel)), rfl⟩
theorem xw_208 : Jvm.Cond.methodLink "OnceLetters" (56 : Nat) ({ cls := "OnceLetters", name := "failed", desc := "(I)I" } : Jvm.MethodName) ∈ xT := List.mem_filter.mpr ⟨List.mem_append_right _ (List.mem_of_getElem? (i := 208) (by decide +kernel)), rfl⟩
theorem xw_210 : Jvm.Cond.instanceMethod ({ cls := "OnceLetters", name := "failed", desc := "(I)I" } : Jvm.MethodName) ∈ xT := List.mem_filter.mpr ⟨List.mem_append_right _ (List.mem_of_getElem? (i := 210) (by decide +kernel)), rfl⟩
theorem xw_211 : Jvm.Cond.code ({ cls := "OnceLetters", name := "failed", desc := "(I)I" } : Jvm.MethodName) prog_1_method_26_code (2 : Nat) (Option.some Jvm.ClassFile.FieldType.int) ∈ xT := List.mem_filter.mpr ⟨List.mem_append_right _ (List.mem_of_getElem? (i := 211) (by decide +kernel)), rfl⟩
theorem xw_212 : Jvm.Cond.methodLink "OnceLetters" (72 : Nat) ({ cls := "OnceLetters", name := "keep", desc := "()V" } : Jvm.MethodName) ∈ xT := List.mem_filter.mpr ⟨List.mem_append_right _ (List.mem_of_getElem? (i := 212) (by decide +kernel)), rfl⟩
theorem xw_214 : Jvm.Cond.instanceMethod ({ cls := "OnceLetters", name := "keep", desc := "()V" } : Jvm.MethodName) ∈ xT := List.mem_filter.mpr ⟨List.mem_append_right _ (List.mem_of_getElem? (i := 214) (by decide +kernel)), rfl⟩
theorem xw_215 : Jvm.Cond.code ({ cls := "OnceLetters", name := "keep", desc := "()V" } : Jvm.MethodName) prog_1_method_27_code (2 : Nat) (Option.none : Option Jvm.ClassFile.FieldType) ∈ xT := List.mem_filter.mpr ⟨List.mem_append_right _ (List.mem_of_getElem? (i := 215) (by decide +kernel)), rfl⟩
theorem xw_216 : Jvm.Cond.methodLink "OnceLetters" (216 : Nat) ({ cls := "OnceLetters$State", name := "copy", desc := "(LOnceLetters$State;)V" } : Jvm.MethodName) ∈ xT := List.mem_filter.mpr ⟨List.mem_append_right _ (List.mem_of_getElem? (i := 216) (by decide +kernel)), rfl⟩
theorem xw_217 : Jvm.Cond.instanceMethod ({ cls := "OnceLetters$State", name := "copy", desc := "(LOnceLetters$State;)V" } : Jvm.MethodName) ∈ xT := List.mem_filter.mpr ⟨List.mem_append_right _ (List.mem_of_getElem? (i := 217) (by decide +kernel)), rfl⟩
theorem xw_218 : Jvm.Cond.selects "OnceLetters$State" ({ cls := "OnceLetters$State", name := "copy", desc := "(LOnceLetters$State;)V" } : Jvm.MethodName) ({ cls := "OnceLetters$State", name := "copy", desc := "(LOnceLetters$State;)V" } : Jvm.MethodName) ∈ xT := List.mem_filter.mpr ⟨List.mem_append_right _ (List.mem_of_getElem? (i := 218) (by decide +kernel)), rfl⟩
theorem xw_219 : Jvm.Cond.code ({ cls := "OnceLetters$State", name := "copy", desc := "(LOnceLetters$State;)V" } : Jvm.MethodName) prog_6_method_2_code (3 : Nat) (Option.none : Option Jvm.ClassFile.FieldType) ∈ xT := List.mem_filter.mpr ⟨List.mem_append_right _ (List.mem_of_getElem? (i := 219) (by decide +kernel)), rfl⟩
theorem xw_220 : Jvm.Cond.methodLink "OnceLetters$State" (36 : Nat) ({ cls := "java/lang/System", name := "arraycopy", desc := "(Ljava/lang/Object;ILjava/lang/Object;II)V" } : Jvm.MethodName) ∈ xT := List.mem_filter.mpr ⟨List.mem_append_right _ (List.mem_of_getElem? (i := 220) (by decide +kernel)), rfl⟩
theorem xw_221 : Jvm.Cond.static ({ cls := "java/lang/System", name := "arraycopy", desc := "(Ljava/lang/Object;ILjava/lang/Object;II)V" } : Jvm.MethodName) ∈ xT := List.mem_filter.mpr ⟨List.mem_append_right _ (List.mem_of_getElem? (i := 221) (by decide +kernel)), rfl⟩
theorem xw_222 : Jvm.Cond.native ({ cls := "java/lang/System", name := "arraycopy", desc := "(Ljava/lang/Object;ILjava/lang/Object;II)V" } : Jvm.MethodName) ∈ xT := List.mem_filter.mpr ⟨List.mem_append_right _ (List.mem_of_getElem? (i := 222) (by decide +kernel)), rfl⟩
theorem xw_223 : Jvm.Cond.methodLink "OnceLetters$State" (42 : Nat) ({ cls := "OnceLetters$Producer", name := "copy", desc := "(LOnceLetters$Producer;)V" } : Jvm.MethodName) ∈ xT := List.mem_filter.mpr ⟨List.mem_append_right _ (List.mem_of_getElem? (i := 223) (by decide +kernel)), rfl⟩
theorem xw_224 : Jvm.Cond.instanceMethod ({ cls := "OnceLetters$Producer", name := "copy", desc := "(LOnceLetters$Producer;)V" } : Jvm.MethodName) ∈ xT := List.mem_filter.mpr ⟨List.mem_append_right _ (List.mem_of_getElem? (i := 224) (by decide +kernel)), rfl⟩
theorem xw_225 : Jvm.Cond.selects "OnceLetters$Producer" ({ cls := "OnceLetters$Producer", name := "copy", desc := "(LOnceLetters$Producer;)V" } : Jvm.MethodName) ({ cls := "OnceLetters$Producer", name := "copy", desc := "(LOnceLetters$Producer;)V" } : Jvm.MethodName) ∈ xT := List.mem_filter.mpr ⟨List.mem_append_right _ (List.mem_of_getElem? (i := 225) (by decide +kernel)), rfl⟩
theorem xw_226 : Jvm.Cond.code ({ cls := "OnceLetters$Producer", name := "copy", desc := "(LOnceLetters$Producer;)V" } : Jvm.MethodName) prog_4_method_2_code (2 : Nat) (Option.none : Option Jvm.ClassFile.FieldType) ∈ xT := List.mem_filter.mpr ⟨List.mem_append_right _ (List.mem_of_getElem? (i := 226) (by decide +kernel)), rfl⟩
theorem xw_227 : Jvm.Cond.methodLink "OnceLetters$Producer" (34 : Nat) ({ cls := "java/lang/System", name := "arraycopy", desc := "(Ljava/lang/Object;ILjava/lang/Object;II)V" } : Jvm.MethodName) ∈ xT := List.mem_filter.mpr ⟨List.mem_append_right _ (List.mem_of_getElem? (i := 227) (by decide +kernel)), rfl⟩
theorem xw_228 : Jvm.Cond.methodLink "OnceLetters$State" (46 : Nat) ({ cls := "OnceLetters$Consumer", name := "copy", desc := "(LOnceLetters$Consumer;)V" } : Jvm.MethodName) ∈ xT := List.mem_filter.mpr ⟨List.mem_append_right _ (List.mem_of_getElem? (i := 228) (by decide +kernel)), rfl⟩
theorem xw_229 : Jvm.Cond.instanceMethod ({ cls := "OnceLetters$Consumer", name := "copy", desc := "(LOnceLetters$Consumer;)V" } : Jvm.MethodName) ∈ xT := List.mem_filter.mpr ⟨List.mem_append_right _ (List.mem_of_getElem? (i := 229) (by decide +kernel)), rfl⟩
theorem xw_230 : Jvm.Cond.selects "OnceLetters$Consumer" ({ cls := "OnceLetters$Consumer", name := "copy", desc := "(LOnceLetters$Consumer;)V" } : Jvm.MethodName) ({ cls := "OnceLetters$Consumer", name := "copy", desc := "(LOnceLetters$Consumer;)V" } : Jvm.MethodName) ∈ xT := List.mem_filter.mpr ⟨List.mem_append_right _ (List.mem_of_getElem? (i := 230) (by decide +kernel)), rfl⟩
theorem xw_231 : Jvm.Cond.code ({ cls := "OnceLetters$Consumer", name := "copy", desc := "(LOnceLetters$Consumer;)V" } : Jvm.MethodName) prog_2_method_2_code (2 : Nat) (Option.none : Option Jvm.ClassFile.FieldType) ∈ xT := List.mem_filter.mpr ⟨List.mem_append_right _ (List.mem_of_getElem? (i := 231) (by decide +kernel)), rfl⟩
theorem xw_232 : Jvm.Cond.methodLink "OnceLetters$Consumer" (18 : Nat) ({ cls := "java/lang/System", name := "arraycopy", desc := "(Ljava/lang/Object;ILjava/lang/Object;II)V" } : Jvm.MethodName) ∈ xT := List.mem_filter.mpr ⟨List.mem_append_right _ (List.mem_of_getElem? (i := 232) (by decide +kernel)), rfl⟩
theorem xw_233 : Jvm.Cond.methodLink "OnceLetters" (246 : Nat) ({ cls := "java/lang/Math", name := "min", desc := "(II)I" } : Jvm.MethodName) ∈ xT := List.mem_filter.mpr ⟨List.mem_append_right _ (List.mem_of_getElem? (i := 233) (by decide +kernel)), rfl⟩
theorem xw_234 : Jvm.Cond.static ({ cls := "java/lang/Math", name := "min", desc := "(II)I" } : Jvm.MethodName) ∈ xT := List.mem_filter.mpr ⟨List.mem_append_right _ (List.mem_of_getElem? (i := 234) (by decide +kernel)), rfl⟩
theorem xw_235 : Jvm.Cond.code ({ cls := "java/lang/Math", name := "min", desc := "(II)I" } : Jvm.MethodName) prog_9_method_69_code (2 : Nat) (Option.some Jvm.ClassFile.FieldType.int) ∈ xT := List.mem_filter.mpr ⟨List.mem_append_right _ (List.mem_of_getElem? (i := 235) (by decide +kernel)), rfl⟩
theorem xw_236 : Jvm.Cond.methodLink "OnceLetters" (75 : Nat) ({ cls := "OnceLetters", name := "endDeed", desc := "(LOnceLetters$Producer;I)I" } : Jvm.MethodName) ∈ xT := List.mem_filter.mpr ⟨List.mem_append_right _ (List.mem_of_getElem? (i := 236) (by decide +kernel)), rfl⟩
theorem xw_238 : Jvm.Cond.instanceMethod ({ cls := "OnceLetters", name := "endDeed", desc := "(LOnceLetters$Producer;I)I" } : Jvm.MethodName) ∈ xT := List.mem_filter.mpr ⟨List.mem_append_right _ (List.mem_of_getElem? (i := 238) (by decide +kernel)), rfl⟩
theorem xw_239 : Jvm.Cond.code ({ cls := "OnceLetters", name := "endDeed", desc := "(LOnceLetters$Producer;I)I" } : Jvm.MethodName) prog_1_method_28_code (4 : Nat) (Option.some Jvm.ClassFile.FieldType.int) ∈ xT := List.mem_filter.mpr ⟨List.mem_append_right _ (List.mem_of_getElem? (i := 239) (by decide +kernel)), rfl⟩
theorem xw_240 : Jvm.Cond.methodLink "OnceLetters" (251 : Nat) ({ cls := "OnceLetters$Producer", name := "schedule", desc := "(I)I" } : Jvm.MethodName) ∈ xT := List.mem_filter.mpr ⟨List.mem_append_right _ (List.mem_of_getElem? (i := 240) (by decide +kernel)), rfl⟩
theorem xw_241 : Jvm.Cond.instanceMethod ({ cls := "OnceLetters$Producer", name := "schedule", desc := "(I)I" } : Jvm.MethodName) ∈ xT := List.mem_filter.mpr ⟨List.mem_append_right _ (List.mem_of_getElem? (i := 241) (by decide +kernel)), rfl⟩
theorem xw_242 : Jvm.Cond.selects "OnceLetters$Producer" ({ cls := "OnceLetters$Producer", name := "schedule", desc := "(I)I" } : Jvm.MethodName) ({ cls := "OnceLetters$Producer", name := "schedule", desc := "(I)I" } : Jvm.MethodName) ∈ xT := List.mem_filter.mpr ⟨List.mem_append_right _ (List.mem_of_getElem? (i := 242) (by decide +kernel)), rfl⟩
theorem xw_243 : Jvm.Cond.code ({ cls := "OnceLetters$Producer", name := "schedule", desc := "(I)I" } : Jvm.MethodName) prog_4_method_5_code (4 : Nat) (Option.some Jvm.ClassFile.FieldType.int) ∈ xT := List.mem_filter.mpr ⟨List.mem_append_right _ (List.mem_of_getElem? (i := 243) (by decide +kernel)), rfl⟩
theorem xw_244 : Jvm.Cond.methodLink "OnceLetters" (254 : Nat) ({ cls := "OnceLetters", name := "finishDeed", desc := "(LOnceLetters$Producer;)V" } : Jvm.MethodName) ∈ xT := List.mem_filter.mpr ⟨List.mem_append_right _ (List.mem_of_getElem? (i := 244) (by decide +kernel)), rfl⟩
theorem xw_246 : Jvm.Cond.instanceMethod ({ cls := "OnceLetters", name := "finishDeed", desc := "(LOnceLetters$Producer;)V" } : Jvm.MethodName) ∈ xT := List.mem_filter.mpr ⟨List.mem_append_right _ (List.mem_of_getElem? (i := 246) (by decide +kernel)), rfl⟩
theorem xw_247 : Jvm.Cond.code ({ cls := "OnceLetters", name := "finishDeed", desc := "(LOnceLetters$Producer;)V" } : Jvm.MethodName) prog_1_method_29_code (3 : Nat) (Option.none : Option Jvm.ClassFile.FieldType) ∈ xT := List.mem_filter.mpr ⟨List.mem_append_right _ (List.mem_of_getElem? (i := 247) (by decide +kernel)), rfl⟩
theorem xw_248 : Jvm.Cond.methodLink "OnceLetters" (258 : Nat) ({ cls := "OnceLetters$Consumer", name := "save", desc := "([II)V" } : Jvm.MethodName) ∈ xT := List.mem_filter.mpr ⟨List.mem_append_right _ (List.mem_of_getElem? (i := 248) (by decide +kernel)), rfl⟩
theorem xw_249 : Jvm.Cond.instanceMethod ({ cls := "OnceLetters$Consumer", name := "save", desc := "([II)V" } : Jvm.MethodName) ∈ xT := List.mem_filter.mpr ⟨List.mem_append_right _ (List.mem_of_getElem? (i := 249) (by decide +kernel)), rfl⟩
theorem xw_250 : Jvm.Cond.selects "OnceLetters$Consumer" ({ cls := "OnceLetters$Consumer", name := "save", desc := "([II)V" } : Jvm.MethodName) ({ cls := "OnceLetters$Consumer", name := "save", desc := "([II)V" } : Jvm.MethodName) ∈ xT := List.mem_filter.mpr ⟨List.mem_append_right _ (List.mem_of_getElem? (i := 250) (by decide +kernel)), rfl⟩
theorem xw_251 : Jvm.Cond.code ({ cls := "OnceLetters$Consumer", name := "save", desc := "([II)V" } : Jvm.MethodName) prog_2_method_3_code (4 : Nat) (Option.none : Option Jvm.ClassFile.FieldType) ∈ xT := List.mem_filter.mpr ⟨List.mem_append_right _ (List.mem_of_getElem? (i := 251) (by decide +kernel)), rfl⟩
theorem xw_252 : Jvm.Cond.methodLink "OnceLetters" (262 : Nat) ({ cls := "OnceLetters$Producer", name := "rest", desc := "()V" } : Jvm.MethodName) ∈ xT := List.mem_filter.mpr ⟨List.mem_append_right _ (List.mem_of_getElem? (i := 252) (by decide +kernel)), rfl⟩
theorem xw_253 : Jvm.Cond.instanceMethod ({ cls := "OnceLetters$Producer", name := "rest", desc := "()V" } : Jvm.MethodName) ∈ xT := List.mem_filter.mpr ⟨List.mem_append_right _ (List.mem_of_getElem? (i := 253) (by decide +kernel)), rfl⟩
theorem xw_254 : Jvm.Cond.selects "OnceLetters$Producer" ({ cls := "OnceLetters$Producer", name := "rest", desc := "()V" } : Jvm.MethodName) ({ cls := "OnceLetters$Producer", name := "rest", desc := "()V" } : Jvm.MethodName) ∈ xT := List.mem_filter.mpr ⟨List.mem_append_right _ (List.mem_of_getElem? (i := 254) (by decide +kernel)), rfl⟩
theorem xw_255 : Jvm.Cond.code ({ cls := "OnceLetters$Producer", name := "rest", desc := "()V" } : Jvm.MethodName) prog_4_method_8_code (2 : Nat) (Option.none : Option Jvm.ClassFile.FieldType) ∈ xT := List.mem_filter.mpr ⟨List.mem_append_right _ (List.mem_of_getElem? (i := 255) (by decide +kernel)), rfl⟩
theorem xw_256 : Jvm.Cond.methodLink "OnceLettersLaw" (18 : Nat) ({ cls := "OnceLetters", name := "opens", desc := "(II)I" } : Jvm.MethodName) ∈ xT := List.mem_filter.mpr ⟨List.mem_append_right _ (List.mem_of_getElem? (i := 256) (by decide +kernel)), rfl⟩
theorem xw_257 : Jvm.Cond.instanceMethod ({ cls := "OnceLetters", name := "opens", desc := "(II)I" } : Jvm.MethodName) ∈ xT := List.mem_filter.mpr ⟨List.mem_append_right _ (List.mem_of_getElem? (i := 257) (by decide +kernel)), rfl⟩
theorem xw_258 : Jvm.Cond.selects "OnceLetters" ({ cls := "OnceLetters", name := "opens", desc := "(II)I" } : Jvm.MethodName) ({ cls := "OnceLetters", name := "opens", desc := "(II)I" } : Jvm.MethodName) ∈ xT := List.mem_filter.mpr ⟨List.mem_append_right _ (List.mem_of_getElem? (i := 258) (by decide +kernel)), rfl⟩
theorem xw_259 : Jvm.Cond.code ({ cls := "OnceLetters", name := "opens", desc := "(II)I" } : Jvm.MethodName) prog_1_method_3_code (4 : Nat) (Option.some Jvm.ClassFile.FieldType.int) ∈ xT := List.mem_filter.mpr ⟨List.mem_append_right _ (List.mem_of_getElem? (i := 259) (by decide +kernel)), rfl⟩
theorem xw_260 : Jvm.Cond.methodLink "OnceLetters" (79 : Nat) ({ cls := "OnceLetters", name := "wrongAge", desc := "(II)Z" } : Jvm.MethodName) ∈ xT := List.mem_filter.mpr ⟨List.mem_append_right _ (List.mem_of_getElem? (i := 260) (by decide +kernel)), rfl⟩
theorem xw_262 : Jvm.Cond.instanceMethod ({ cls := "OnceLetters", name := "wrongAge", desc := "(II)Z" } : Jvm.MethodName) ∈ xT := List.mem_filter.mpr ⟨List.mem_append_right _ (List.mem_of_getElem? (i := 262) (by decide +kernel)), rfl⟩
theorem xw_263 : Jvm.Cond.code ({ cls := "OnceLetters", name := "wrongAge", desc := "(II)Z" } : Jvm.MethodName) prog_1_method_25_code (3 : Nat) (Option.some Jvm.ClassFile.FieldType.boolean) ∈ xT := List.mem_filter.mpr ⟨List.mem_append_right _ (List.mem_of_getElem? (i := 263) (by decide +kernel)), rfl⟩
theorem xw_264 : Jvm.Cond.methodLink "OnceLetters" (88 : Nat) ({ cls := "OnceLetters", name := "producersIn", desc := "(I)I" } : Jvm.MethodName) ∈ xT := List.mem_filter.mpr ⟨List.mem_append_right _ (List.mem_of_getElem? (i := 264) (by decide +kernel)), rfl⟩
theorem xw_266 : Jvm.Cond.instanceMethod ({ cls := "OnceLetters", name := "producersIn", desc := "(I)I" } : Jvm.MethodName) ∈ xT := List.mem_filter.mpr ⟨List.mem_append_right _ (List.mem_of_getElem? (i := 266) (by decide +kernel)), rfl⟩
theorem xw_267 : Jvm.Cond.code ({ cls := "OnceLetters", name := "producersIn", desc := "(I)I" } : Jvm.MethodName) prog_1_method_32_code (4 : Nat) (Option.some Jvm.ClassFile.FieldType.int) ∈ xT := List.mem_filter.mpr ⟨List.mem_append_right _ (List.mem_of_getElem? (i := 267) (by decide +kernel)), rfl⟩
theorem xw_268 : Jvm.Cond.methodLink "OnceLettersLaw" (23 : Nat) ({ cls := "OnceLetters", name := "sends", desc := "(IIIII)I" } : Jvm.MethodName) ∈ xT := List.mem_filter.mpr ⟨List.mem_append_right _ (List.mem_of_getElem? (i := 268) (by decide +kernel)), rfl⟩
theorem xw_269 : Jvm.Cond.instanceMethod ({ cls := "OnceLetters", name := "sends", desc := "(IIIII)I" } : Jvm.MethodName) ∈ xT := List.mem_filter.mpr ⟨List.mem_append_right _ (List.mem_of_getElem? (i := 269) (by decide +kernel)), rfl⟩
theorem xw_270 : Jvm.Cond.selects "OnceLetters" ({ cls := "OnceLetters", name := "sends", desc := "(IIIII)I" } : Jvm.MethodName) ({ cls := "OnceLetters", name := "sends", desc := "(IIIII)I" } : Jvm.MethodName) ∈ xT := List.mem_filter.mpr ⟨List.mem_append_right _ (List.mem_of_getElem? (i := 270) (by decide +kernel)), rfl⟩
theorem xw_271 : Jvm.Cond.code ({ cls := "OnceLetters", name := "sends", desc := "(IIIII)I" } : Jvm.MethodName) prog_1_method_4_code (9 : Nat) (Option.some Jvm.ClassFile.FieldType.int) ∈ xT := List.mem_filter.mpr ⟨List.mem_append_right _ (List.mem_of_getElem? (i := 271) (by decide +kernel)), rfl⟩
theorem xw_272 : Jvm.Cond.methodLink "OnceLetters" (91 : Nat) ({ cls := "OnceLetters$Log", name := "twinOf", desc := "(III)I" } : Jvm.MethodName) ∈ xT := List.mem_filter.mpr ⟨List.mem_append_right _ (List.mem_of_getElem? (i := 272) (by decide +kernel)), rfl⟩
theorem xw_273 : Jvm.Cond.instanceMethod ({ cls := "OnceLetters$Log", name := "twinOf", desc := "(III)I" } : Jvm.MethodName) ∈ xT := List.mem_filter.mpr ⟨List.mem_append_right _ (List.mem_of_getElem? (i := 273) (by decide +kernel)), rfl⟩
theorem xw_274 : Jvm.Cond.selects "OnceLetters$Log" ({ cls := "OnceLetters$Log", name := "twinOf", desc := "(III)I" } : Jvm.MethodName) ({ cls := "OnceLetters$Log", name := "twinOf", desc := "(III)I" } : Jvm.MethodName) ∈ xT := List.mem_filter.mpr ⟨List.mem_append_right _ (List.mem_of_getElem? (i := 274) (by decide +kernel)), rfl⟩
theorem xw_275 : Jvm.Cond.code ({ cls := "OnceLetters$Log", name := "twinOf", desc := "(III)I" } : Jvm.MethodName) prog_3_method_7_code (6 : Nat) (Option.some Jvm.ClassFile.FieldType.int) ∈ xT := List.mem_filter.mpr ⟨List.mem_append_right _ (List.mem_of_getElem? (i := 275) (by decide +kernel)), rfl⟩
theorem xw_276 : Jvm.Cond.methodLink "OnceLetters$Log" (42 : Nat) ({ cls := "OnceLetters$Log", name := "lastBefore", desc := "(III)I" } : Jvm.MethodName) ∈ xT := List.mem_filter.mpr ⟨List.mem_append_right _ (List.mem_of_getElem? (i := 276) (by decide +kernel)), rfl⟩
theorem xw_278 : Jvm.Cond.instanceMethod ({ cls := "OnceLetters$Log", name := "lastBefore", desc := "(III)I" } : Jvm.MethodName) ∈ xT := List.mem_filter.mpr ⟨List.mem_append_right _ (List.mem_of_getElem? (i := 278) (by decide +kernel)), rfl⟩
theorem xw_279 : Jvm.Cond.code ({ cls := "OnceLetters$Log", name := "lastBefore", desc := "(III)I" } : Jvm.MethodName) prog_3_method_6_code (5 : Nat) (Option.some Jvm.ClassFile.FieldType.int) ∈ xT := List.mem_filter.mpr ⟨List.mem_append_right _ (List.mem_of_getElem? (i := 279) (by decide +kernel)), rfl⟩
theorem xw_280 : Jvm.Cond.methodLink "OnceLetters$Log" (38 : Nat) ({ cls := "OnceLetters$Log", name := "isMarker", desc := "(I)Z" } : Jvm.MethodName) ∈ xT := List.mem_filter.mpr ⟨List.mem_append_right _ (List.mem_of_getElem? (i := 280) (by decide +kernel)), rfl⟩
theorem xw_281 : Jvm.Cond.instanceMethod ({ cls := "OnceLetters$Log", name := "isMarker", desc := "(I)Z" } : Jvm.MethodName) ∈ xT := List.mem_filter.mpr ⟨List.mem_append_right _ (List.mem_of_getElem? (i := 281) (by decide +kernel)), rfl⟩
theorem xw_282 : Jvm.Cond.selects "OnceLetters$Log" ({ cls := "OnceLetters$Log", name := "isMarker", desc := "(I)Z" } : Jvm.MethodName) ({ cls := "OnceLetters$Log", name := "isMarker", desc := "(I)Z" } : Jvm.MethodName) ∈ xT := List.mem_filter.mpr ⟨List.mem_append_right _ (List.mem_of_getElem? (i := 282) (by decide +kernel)), rfl⟩
theorem xw_283 : Jvm.Cond.code ({ cls := "OnceLetters$Log", name := "isMarker", desc := "(I)Z" } : Jvm.MethodName) prog_3_method_5_code (2 : Nat) (Option.some Jvm.ClassFile.FieldType.boolean) ∈ xT := List.mem_filter.mpr ⟨List.mem_append_right _ (List.mem_of_getElem? (i := 283) (by decide +kernel)), rfl⟩
theorem xw_284 : Jvm.Cond.methodLink "OnceLetters" (95 : Nat) ({ cls := "OnceLetters$Log", name := "numberDue", desc := "(II)I" } : Jvm.MethodName) ∈ xT := List.mem_filter.mpr ⟨List.mem_append_right _ (List.mem_of_getElem? (i := 284) (by decide +kernel)), rfl⟩
theorem xw_285 : Jvm.Cond.instanceMethod ({ cls := "OnceLetters$Log", name := "numberDue", desc := "(II)I" } : Jvm.MethodName) ∈ xT := List.mem_filter.mpr ⟨List.mem_append_right _ (List.mem_of_getElem? (i := 285) (by decide +kernel)), rfl⟩
theorem xw_286 : Jvm.Cond.selects "OnceLetters$Log" ({ cls := "OnceLetters$Log", name := "numberDue", desc := "(II)I" } : Jvm.MethodName) ({ cls := "OnceLetters$Log", name := "numberDue", desc := "(II)I" } : Jvm.MethodName) ∈ xT := List.mem_filter.mpr ⟨List.mem_append_right _ (List.mem_of_getElem? (i := 286) (by decide +kernel)), rfl⟩
theorem xw_287 : Jvm.Cond.code ({ cls := "OnceLetters$Log", name := "numberDue", desc := "(II)I" } : Jvm.MethodName) prog_3_method_8_code (4 : Nat) (Option.some Jvm.ClassFile.FieldType.int) ∈ xT := List.mem_filter.mpr ⟨List.mem_append_right _ (List.mem_of_getElem? (i := 287) (by decide +kernel)), rfl⟩
theorem xw_288 : Jvm.Cond.methodLink "OnceLetters" (102 : Nat) ({ cls := "OnceLetters", name := "reserve", desc := "(I)I" } : Jvm.MethodName) ∈ xT := List.mem_filter.mpr ⟨List.mem_append_right _ (List.mem_of_getElem? (i := 288) (by decide +kernel)), rfl⟩
theorem xw_290 : Jvm.Cond.instanceMethod ({ cls := "OnceLetters", name := "reserve", desc := "(I)I" } : Jvm.MethodName) ∈ xT := List.mem_filter.mpr ⟨List.mem_append_right _ (List.mem_of_getElem? (i := 290) (by decide +kernel)), rfl⟩
theorem xw_291 : Jvm.Cond.code ({ cls := "OnceLetters", name := "reserve", desc := "(I)I" } : Jvm.MethodName) prog_1_method_33_code (4 : Nat) (Option.some Jvm.ClassFile.FieldType.int) ∈ xT := List.mem_filter.mpr ⟨List.mem_append_right _ (List.mem_of_getElem? (i := 291) (by decide +kernel)), rfl⟩
theorem xw_292 : Jvm.Cond.methodLink "OnceLetters" (108 : Nat) ({ cls := "OnceLetters$Log", name := "append", desc := "(IIIII)I" } : Jvm.MethodName) ∈ xT := List.mem_filter.mpr ⟨List.mem_append_right _ (List.mem_of_getElem? (i := 292) (by decide +kernel)), rfl⟩
theorem xw_293 : Jvm.Cond.instanceMethod ({ cls := "OnceLetters$Log", name := "append", desc := "(IIIII)I" } : Jvm.MethodName) ∈ xT := List.mem_filter.mpr ⟨List.mem_append_right _ (List.mem_of_getElem? (i := 293) (by decide +kernel)), rfl⟩
theorem xw_294 : Jvm.Cond.selects "OnceLetters$Log" ({ cls := "OnceLetters$Log", name := "append", desc := "(IIIII)I" } : Jvm.MethodName) ({ cls := "OnceLetters$Log", name := "append", desc := "(IIIII)I" } : Jvm.MethodName) ∈ xT := List.mem_filter.mpr ⟨List.mem_append_right _ (List.mem_of_getElem? (i := 294) (by decide +kernel)), rfl⟩
theorem xw_295 : Jvm.Cond.code ({ cls := "OnceLetters$Log", name := "append", desc := "(IIIII)I" } : Jvm.MethodName) prog_3_method_3_code (7 : Nat) (Option.some Jvm.ClassFile.FieldType.int) ∈ xT := List.mem_filter.mpr ⟨List.mem_append_right _ (List.mem_of_getElem? (i := 295) (by decide +kernel)), rfl⟩
theorem xw_296 : Jvm.Cond.methodLink "OnceLettersLaw" (28 : Nat) ({ cls := "OnceLetters", name := "ends", desc := "(III)I" } : Jvm.MethodName) ∈ xT := List.mem_filter.mpr ⟨List.mem_append_right _ (List.mem_of_getElem? (i := 296) (by decide +kernel)), rfl⟩
theorem xw_297 : Jvm.Cond.instanceMethod ({ cls := "OnceLetters", name := "ends", desc := "(III)I" } : Jvm.MethodName) ∈ xT := List.mem_filter.mpr ⟨List.mem_append_right _ (List.mem_of_getElem? (i := 297) (by decide +kernel)), rfl⟩
theorem xw_298 : Jvm.Cond.selects "OnceLetters" ({ cls := "OnceLetters", name := "ends", desc := "(III)I" } : Jvm.MethodName) ({ cls := "OnceLetters", name := "ends", desc := "(III)I" } : Jvm.MethodName) ∈ xT := List.mem_filter.mpr ⟨List.mem_append_right _ (List.mem_of_getElem? (i := 298) (by decide +kernel)), rfl⟩
theorem xw_299 : Jvm.Cond.code ({ cls := "OnceLetters", name := "ends", desc := "(III)I" } : Jvm.MethodName) prog_1_method_5_code (5 : Nat) (Option.some Jvm.ClassFile.FieldType.int) ∈ xT := List.mem_filter.mpr ⟨List.mem_append_right _ (List.mem_of_getElem? (i := 299) (by decide +kernel)), rfl⟩
theorem xw_300 : Jvm.Cond.methodLink "OnceLettersLaw" (33 : Nat) ({ cls := "OnceLetters", name := "carries", desc := "(IIII)I" } : Jvm.MethodName) ∈ xT := List.mem_filter.mpr ⟨List.mem_append_right _ (List.mem_of_getElem? (i := 300) (by decide +kernel)), rfl⟩
theorem xw_301 : Jvm.Cond.instanceMethod ({ cls := "OnceLetters", name := "carries", desc := "(IIII)I" } : Jvm.MethodName) ∈ xT := List.mem_filter.mpr ⟨List.mem_append_right _ (List.mem_of_getElem? (i := 301) (by decide +kernel)), rfl⟩
theorem xw_302 : Jvm.Cond.selects "OnceLetters" ({ cls := "OnceLetters", name := "carries", desc := "(IIII)I" } : Jvm.MethodName) ({ cls := "OnceLetters", name := "carries", desc := "(IIII)I" } : Jvm.MethodName) ∈ xT := List.mem_filter.mpr ⟨List.mem_append_right _ (List.mem_of_getElem? (i := 302) (by decide +kernel)), rfl⟩
theorem xw_303 : Jvm.Cond.code ({ cls := "OnceLetters", name := "carries", desc := "(IIII)I" } : Jvm.MethodName) prog_1_method_6_code (7 : Nat) (Option.some Jvm.ClassFile.FieldType.int) ∈ xT := List.mem_filter.mpr ⟨List.mem_append_right _ (List.mem_of_getElem? (i := 303) (by decide +kernel)), rfl⟩
theorem xw_304 : Jvm.Cond.methodLink "OnceLettersLaw" (38 : Nat) ({ cls := "OnceLetters", name := "ticks", desc := "(I)I" } : Jvm.MethodName) ∈ xT := List.mem_filter.mpr ⟨List.mem_append_right _ (List.mem_of_getElem? (i := 304) (by decide +kernel)), rfl⟩
theorem xw_305 : Jvm.Cond.instanceMethod ({ cls := "OnceLetters", name := "ticks", desc := "(I)I" } : Jvm.MethodName) ∈ xT := List.mem_filter.mpr ⟨List.mem_append_right _ (List.mem_of_getElem? (i := 305) (by decide +kernel)), rfl⟩
theorem xw_306 : Jvm.Cond.selects "OnceLetters" ({ cls := "OnceLetters", name := "ticks", desc := "(I)I" } : Jvm.MethodName) ({ cls := "OnceLetters", name := "ticks", desc := "(I)I" } : Jvm.MethodName) ∈ xT := List.mem_filter.mpr ⟨List.mem_append_right _ (List.mem_of_getElem? (i := 306) (by decide +kernel)), rfl⟩
theorem xw_307 : Jvm.Cond.code ({ cls := "OnceLetters", name := "ticks", desc := "(I)I" } : Jvm.MethodName) prog_1_method_7_code (4 : Nat) (Option.some Jvm.ClassFile.FieldType.int) ∈ xT := List.mem_filter.mpr ⟨List.mem_append_right _ (List.mem_of_getElem? (i := 307) (by decide +kernel)), rfl⟩
theorem xw_308 : Jvm.Cond.methodLink "OnceLetters" (124 : Nat) ({ cls := "OnceLetters", name := "writeMarkers", desc := "()I" } : Jvm.MethodName) ∈ xT := List.mem_filter.mpr ⟨List.mem_append_right _ (List.mem_of_getElem? (i := 308) (by decide +kernel)), rfl⟩
theorem xw_310 : Jvm.Cond.instanceMethod ({ cls := "OnceLetters", name := "writeMarkers", desc := "()I" } : Jvm.MethodName) ∈ xT := List.mem_filter.mpr ⟨List.mem_append_right _ (List.mem_of_getElem? (i := 310) (by decide +kernel)), rfl⟩
theorem xw_311 : Jvm.Cond.code ({ cls := "OnceLetters", name := "writeMarkers", desc := "()I" } : Jvm.MethodName) prog_1_method_30_code (5 : Nat) (Option.some Jvm.ClassFile.FieldType.int) ∈ xT := List.mem_filter.mpr ⟨List.mem_append_right _ (List.mem_of_getElem? (i := 311) (by decide +kernel)), rfl⟩
theorem xw_312 : Jvm.Cond.methodLink "OnceLetters" (265 : Nat) ({ cls := "OnceLetters$Producer", name := "partDueAt", desc := "(I)I" } : Jvm.MethodName) ∈ xT := List.mem_filter.mpr ⟨List.mem_append_right _ (List.mem_of_getElem? (i := 312) (by decide +kernel)), rfl⟩
theorem xw_313 : Jvm.Cond.instanceMethod ({ cls := "OnceLetters$Producer", name := "partDueAt", desc := "(I)I" } : Jvm.MethodName) ∈ xT := List.mem_filter.mpr ⟨List.mem_append_right _ (List.mem_of_getElem? (i := 313) (by decide +kernel)), rfl⟩
theorem xw_314 : Jvm.Cond.selects "OnceLetters$Producer" ({ cls := "OnceLetters$Producer", name := "partDueAt", desc := "(I)I" } : Jvm.MethodName) ({ cls := "OnceLetters$Producer", name := "partDueAt", desc := "(I)I" } : Jvm.MethodName) ∈ xT := List.mem_filter.mpr ⟨List.mem_append_right _ (List.mem_of_getElem? (i := 314) (by decide +kernel)), rfl⟩
theorem xw_315 : Jvm.Cond.code ({ cls := "OnceLetters$Producer", name := "partDueAt", desc := "(I)I" } : Jvm.MethodName) prog_4_method_7_code (3 : Nat) (Option.some Jvm.ClassFile.FieldType.int) ∈ xT := List.mem_filter.mpr ⟨List.mem_append_right _ (List.mem_of_getElem? (i := 315) (by decide +kernel)), rfl⟩
theorem xw_316 : Jvm.Cond.methodLink "OnceLetters" (268 : Nat) ({ cls := "OnceLetters$Log", name := "appendMarker", desc := "(IIII)V" } : Jvm.MethodName) ∈ xT := List.mem_filter.mpr ⟨List.mem_append_right _ (List.mem_of_getElem? (i := 316) (by decide +kernel)), rfl⟩
theorem xw_317 : Jvm.Cond.instanceMethod ({ cls := "OnceLetters$Log", name := "appendMarker", desc := "(IIII)V" } : Jvm.MethodName) ∈ xT := List.mem_filter.mpr ⟨List.mem_append_right _ (List.mem_of_getElem? (i := 317) (by decide +kernel)), rfl⟩
theorem xw_318 : Jvm.Cond.selects "OnceLetters$Log" ({ cls := "OnceLetters$Log", name := "appendMarker", desc := "(IIII)V" } : Jvm.MethodName) ({ cls := "OnceLetters$Log", name := "appendMarker", desc := "(IIII)V" } : Jvm.MethodName) ∈ xT := List.mem_filter.mpr ⟨List.mem_append_right _ (List.mem_of_getElem? (i := 318) (by decide +kernel)), rfl⟩
theorem xw_319 : Jvm.Cond.code ({ cls := "OnceLetters$Log", name := "appendMarker", desc := "(IIII)V" } : Jvm.MethodName) prog_3_method_2_code (6 : Nat) (Option.none : Option Jvm.ClassFile.FieldType) ∈ xT := List.mem_filter.mpr ⟨List.mem_append_right _ (List.mem_of_getElem? (i := 319) (by decide +kernel)), rfl⟩
theorem xw_320 : Jvm.Cond.methodLink "OnceLetters$Log" (34 : Nat) ({ cls := "OnceLetters$Log", name := "append", desc := "(IIIII)I" } : Jvm.MethodName) ∈ xT := List.mem_filter.mpr ⟨List.mem_append_right _ (List.mem_of_getElem? (i := 320) (by decide +kernel)), rfl⟩
theorem xw_321 : Jvm.Cond.methodLink "OnceLetters" (137 : Nat) ({ cls := "OnceLetters$Producer", name := "markersDue", desc := "()I" } : Jvm.MethodName) ∈ xT := List.mem_filter.mpr ⟨List.mem_append_right _ (List.mem_of_getElem? (i := 321) (by decide +kernel)), rfl⟩
theorem xw_322 : Jvm.Cond.instanceMethod ({ cls := "OnceLetters$Producer", name := "markersDue", desc := "()I" } : Jvm.MethodName) ∈ xT := List.mem_filter.mpr ⟨List.mem_append_right _ (List.mem_of_getElem? (i := 322) (by decide +kernel)), rfl⟩
theorem xw_323 : Jvm.Cond.selects "OnceLetters$Producer" ({ cls := "OnceLetters$Producer", name := "markersDue", desc := "()I" } : Jvm.MethodName) ({ cls := "OnceLetters$Producer", name := "markersDue", desc := "()I" } : Jvm.MethodName) ∈ xT := List.mem_filter.mpr ⟨List.mem_append_right _ (List.mem_of_getElem? (i := 323) (by decide +kernel)), rfl⟩
theorem xw_324 : Jvm.Cond.code ({ cls := "OnceLetters$Producer", name := "markersDue", desc := "()I" } : Jvm.MethodName) prog_4_method_6_code (3 : Nat) (Option.some Jvm.ClassFile.FieldType.int) ∈ xT := List.mem_filter.mpr ⟨List.mem_append_right _ (List.mem_of_getElem? (i := 324) (by decide +kernel)), rfl⟩
theorem xw_325 : Jvm.Cond.methodLink "OnceLetters" (128 : Nat) ({ cls := "OnceLetters", name := "abortHanging", desc := "()V" } : Jvm.MethodName) ∈ xT := List.mem_filter.mpr ⟨List.mem_append_right _ (List.mem_of_getElem? (i := 325) (by decide +kernel)), rfl⟩
theorem xw_327 : Jvm.Cond.instanceMethod ({ cls := "OnceLetters", name := "abortHanging", desc := "()V" } : Jvm.MethodName) ∈ xT := List.mem_filter.mpr ⟨List.mem_append_right _ (List.mem_of_getElem? (i := 327) (by decide +kernel)), rfl⟩
theorem xw_328 : Jvm.Cond.code ({ cls := "OnceLetters", name := "abortHanging", desc := "()V" } : Jvm.MethodName) prog_1_method_31_code (3 : Nat) (Option.none : Option Jvm.ClassFile.FieldType) ∈ xT := List.mem_filter.mpr ⟨List.mem_append_right _ (List.mem_of_getElem? (i := 328) (by decide +kernel)), rfl⟩
theorem xw_329 : Jvm.Cond.methodLink "OnceLettersLaw" (42 : Nat) ({ cls := "OnceLetters", name := "limit", desc := "(I)I" } : Jvm.MethodName) ∈ xT := List.mem_filter.mpr ⟨List.mem_append_right _ (List.mem_of_getElem? (i := 329) (by decide +kernel)), rfl⟩
theorem xw_330 : Jvm.Cond.instanceMethod ({ cls := "OnceLetters", name := "limit", desc := "(I)I" } : Jvm.MethodName) ∈ xT := List.mem_filter.mpr ⟨List.mem_append_right _ (List.mem_of_getElem? (i := 330) (by decide +kernel)), rfl⟩
theorem xw_331 : Jvm.Cond.selects "OnceLetters" ({ cls := "OnceLetters", name := "limit", desc := "(I)I" } : Jvm.MethodName) ({ cls := "OnceLetters", name := "limit", desc := "(I)I" } : Jvm.MethodName) ∈ xT := List.mem_filter.mpr ⟨List.mem_append_right _ (List.mem_of_getElem? (i := 331) (by decide +kernel)), rfl⟩
theorem xw_332 : Jvm.Cond.code ({ cls := "OnceLetters", name := "limit", desc := "(I)I" } : Jvm.MethodName) prog_1_method_8_code (3 : Nat) (Option.some Jvm.ClassFile.FieldType.int) ∈ xT := List.mem_filter.mpr ⟨List.mem_append_right _ (List.mem_of_getElem? (i := 332) (by decide +kernel)), rfl⟩
theorem xw_333 : Jvm.Cond.methodLink "OnceLettersLaw" (46 : Nat) ({ cls := "OnceLetters", name := "writer", desc := "(II)I" } : Jvm.MethodName) ∈ xT := List.mem_filter.mpr ⟨List.mem_append_right _ (List.mem_of_getElem? (i := 333) (by decide +kernel)), rfl⟩
theorem xw_334 : Jvm.Cond.instanceMethod ({ cls := "OnceLetters", name := "writer", desc := "(II)I" } : Jvm.MethodName) ∈ xT := List.mem_filter.mpr ⟨List.mem_append_right _ (List.mem_of_getElem? (i := 334) (by decide +kernel)), rfl⟩
theorem xw_335 : Jvm.Cond.selects "OnceLetters" ({ cls := "OnceLetters", name := "writer", desc := "(II)I" } : Jvm.MethodName) ({ cls := "OnceLetters", name := "writer", desc := "(II)I" } : Jvm.MethodName) ∈ xT := List.mem_filter.mpr ⟨List.mem_append_right _ (List.mem_of_getElem? (i := 335) (by decide +kernel)), rfl⟩
theorem xw_336 : Jvm.Cond.code ({ cls := "OnceLetters", name := "writer", desc := "(II)I" } : Jvm.MethodName) prog_1_method_9_code (4 : Nat) (Option.some Jvm.ClassFile.FieldType.int) ∈ xT := List.mem_filter.mpr ⟨List.mem_append_right _ (List.mem_of_getElem? (i := 336) (by decide +kernel)), rfl⟩
theorem xw_337 : Jvm.Cond.methodLink "OnceLetters" (134 : Nat) ({ cls := "OnceLetters$Producer", name := "partSet", desc := "()I" } : Jvm.MethodName) ∈ xT := List.mem_filter.mpr ⟨List.mem_append_right _ (List.mem_of_getElem? (i := 337) (by decide +kernel)), rfl⟩
theorem xw_338 : Jvm.Cond.instanceMethod ({ cls := "OnceLetters$Producer", name := "partSet", desc := "()I" } : Jvm.MethodName) ∈ xT := List.mem_filter.mpr ⟨List.mem_append_right _ (List.mem_of_getElem? (i := 338) (by decide +kernel)), rfl⟩
theorem xw_339 : Jvm.Cond.selects "OnceLetters$Producer" ({ cls := "OnceLetters$Producer", name := "partSet", desc := "()I" } : Jvm.MethodName) ({ cls := "OnceLetters$Producer", name := "partSet", desc := "()I" } : Jvm.MethodName) ∈ xT := List.mem_filter.mpr ⟨List.mem_append_right _ (List.mem_of_getElem? (i := 339) (by decide +kernel)), rfl⟩
theorem xw_340 : Jvm.Cond.code ({ cls := "OnceLetters$Producer", name := "partSet", desc := "()I" } : Jvm.MethodName) prog_4_method_3_code (3 : Nat) (Option.some Jvm.ClassFile.FieldType.int) ∈ xT := List.mem_filter.mpr ⟨List.mem_append_right _ (List.mem_of_getElem? (i := 340) (by decide +kernel)), rfl⟩
theorem xw_341 : Jvm.Cond.methodLink "OnceLettersLaw" (50 : Nat) ({ cls := "OnceLetters", name := "entry", desc := "(III)I" } : Jvm.MethodName) ∈ xT := List.mem_filter.mpr ⟨List.mem_append_right _ (List.mem_of_getElem? (i := 341) (by decide +kernel)), rfl⟩
theorem xw_342 : Jvm.Cond.instanceMethod ({ cls := "OnceLetters", name := "entry", desc := "(III)I" } : Jvm.MethodName) ∈ xT := List.mem_filter.mpr ⟨List.mem_append_right _ (List.mem_of_getElem? (i := 342) (by decide +kernel)), rfl⟩
theorem xw_343 : Jvm.Cond.selects "OnceLetters" ({ cls := "OnceLetters", name := "entry", desc := "(III)I" } : Jvm.MethodName) ({ cls := "OnceLetters", name := "entry", desc := "(III)I" } : Jvm.MethodName) ∈ xT := List.mem_filter.mpr ⟨List.mem_append_right _ (List.mem_of_getElem? (i := 343) (by decide +kernel)), rfl⟩
theorem xw_344 : Jvm.Cond.code ({ cls := "OnceLetters", name := "entry", desc := "(III)I" } : Jvm.MethodName) prog_1_method_10_code (5 : Nat) (Option.some Jvm.ClassFile.FieldType.int) ∈ xT := List.mem_filter.mpr ⟨List.mem_append_right _ (List.mem_of_getElem? (i := 344) (by decide +kernel)), rfl⟩
theorem xw_345 : Jvm.Cond.methodLink "OnceLetters" (143 : Nat) ({ cls := "OnceLetters$Log", name := "isMarker", desc := "(I)Z" } : Jvm.MethodName) ∈ xT := List.mem_filter.mpr ⟨List.mem_append_right _ (List.mem_of_getElem? (i := 345) (by decide +kernel)), rfl⟩
theorem xw_346 : Jvm.Cond.methodLink "OnceLetters" (158 : Nat) ({ cls := "OnceLetters$Log", name := "fate", desc := "(I)I" } : Jvm.MethodName) ∈ xT := List.mem_filter.mpr ⟨List.mem_append_right _ (List.mem_of_getElem? (i := 346) (by decide +kernel)), rfl⟩
theorem xw_347 : Jvm.Cond.instanceMethod ({ cls := "OnceLetters$Log", name := "fate", desc := "(I)I" } : Jvm.MethodName) ∈ xT := List.mem_filter.mpr ⟨List.mem_append_right _ (List.mem_of_getElem? (i := 347) (by decide +kernel)), rfl⟩
theorem xw_348 : Jvm.Cond.selects "OnceLetters$Log" ({ cls := "OnceLetters$Log", name := "fate", desc := "(I)I" } : Jvm.MethodName) ({ cls := "OnceLetters$Log", name := "fate", desc := "(I)I" } : Jvm.MethodName) ∈ xT := List.mem_filter.mpr ⟨List.mem_append_right _ (List.mem_of_getElem? (i := 348) (by decide +kernel)), rfl⟩
theorem xw_349 : Jvm.Cond.code ({ cls := "OnceLetters$Log", name := "fate", desc := "(I)I" } : Jvm.MethodName) prog_3_method_9_code (4 : Nat) (Option.some Jvm.ClassFile.FieldType.int) ∈ xT := List.mem_filter.mpr ⟨List.mem_append_right _ (List.mem_of_getElem? (i := 349) (by decide +kernel)), rfl⟩
theorem xw_350 : Jvm.Cond.methodLink "OnceLetters" (161 : Nat) ({ cls := "OnceLetters", name := "stable", desc := "(I)I" } : Jvm.MethodName) ∈ xT := List.mem_filter.mpr ⟨List.mem_append_right _ (List.mem_of_getElem? (i := 350) (by decide +kernel)), rfl⟩
theorem xw_352 : Jvm.Cond.instanceMethod ({ cls := "OnceLetters", name := "stable", desc := "(I)I" } : Jvm.MethodName) ∈ xT := List.mem_filter.mpr ⟨List.mem_append_right _ (List.mem_of_getElem? (i := 352) (by decide +kernel)), rfl⟩
theorem xw_353 : Jvm.Cond.code ({ cls := "OnceLetters", name := "stable", desc := "(I)I" } : Jvm.MethodName) prog_1_method_35_code (3 : Nat) (Option.some Jvm.ClassFile.FieldType.int) ∈ xT := List.mem_filter.mpr ⟨List.mem_append_right _ (List.mem_of_getElem? (i := 353) (by decide +kernel)), rfl⟩
theorem xw_354 : Jvm.Cond.methodLink "OnceLetters" (170 : Nat) ({ cls := "OnceLetters", name := "holder", desc := "(I)I" } : Jvm.MethodName) ∈ xT := List.mem_filter.mpr ⟨List.mem_append_right _ (List.mem_of_getElem? (i := 354) (by decide +kernel)), rfl⟩
theorem xw_356 : Jvm.Cond.instanceMethod ({ cls := "OnceLetters", name := "holder", desc := "(I)I" } : Jvm.MethodName) ∈ xT := List.mem_filter.mpr ⟨List.mem_append_right _ (List.mem_of_getElem? (i := 356) (by decide +kernel)), rfl⟩
theorem xw_357 : Jvm.Cond.code ({ cls := "OnceLetters", name := "holder", desc := "(I)I" } : Jvm.MethodName) prog_1_method_34_code (6 : Nat) (Option.some Jvm.ClassFile.FieldType.int) ∈ xT := List.mem_filter.mpr ⟨List.mem_append_right _ (List.mem_of_getElem? (i := 357) (by decide +kernel)), rfl⟩
theorem xw_358 : Jvm.Cond.methodLink "OnceLetters" (275 : Nat) ({ cls := "OnceLetters$Producer", name := "holds", desc := "(I)Z" } : Jvm.MethodName) ∈ xT := List.mem_filter.mpr ⟨List.mem_append_right _ (List.mem_of_getElem? (i := 358) (by decide +kernel)), rfl⟩
theorem xw_359 : Jvm.Cond.instanceMethod ({ cls := "OnceLetters$Producer", name := "holds", desc := "(I)Z" } : Jvm.MethodName) ∈ xT := List.mem_filter.mpr ⟨List.mem_append_right _ (List.mem_of_getElem? (i := 359) (by decide +kernel)), rfl⟩
theorem xw_360 : Jvm.Cond.selects "OnceLetters$Producer" ({ cls := "OnceLetters$Producer", name := "holds", desc := "(I)Z" } : Jvm.MethodName) ({ cls := "OnceLetters$Producer", name := "holds", desc := "(I)Z" } : Jvm.MethodName) ∈ xT := List.mem_filter.mpr ⟨List.mem_append_right _ (List.mem_of_getElem? (i := 360) (by decide +kernel)), rfl⟩
theorem xw_361 : Jvm.Cond.code ({ cls := "OnceLetters$Producer", name := "holds", desc := "(I)Z" } : Jvm.MethodName) prog_4_method_4_code (2 : Nat) (Option.some Jvm.ClassFile.FieldType.boolean) ∈ xT := List.mem_filter.mpr ⟨List.mem_append_right _ (List.mem_of_getElem? (i := 361) (by decide +kernel)), rfl⟩
theorem xw_362 : Jvm.Cond.methodLink "OnceLetters" (164 : Nat) ({ cls := "OnceLetters$Log", name := "isVisible", desc := "(II)Z" } : Jvm.MethodName) ∈ xT := List.mem_filter.mpr ⟨List.mem_append_right _ (List.mem_of_getElem? (i := 362) (by decide +kernel)), rfl⟩
theorem xw_363 : Jvm.Cond.instanceMethod ({ cls := "OnceLetters$Log", name := "isVisible", desc := "(II)Z" } : Jvm.MethodName) ∈ xT := List.mem_filter.mpr ⟨List.mem_append_right _ (List.mem_of_getElem? (i := 363) (by decide +kernel)), rfl⟩
theorem xw_364 : Jvm.Cond.selects "OnceLetters$Log" ({ cls := "OnceLetters$Log", name := "isVisible", desc := "(II)Z" } : Jvm.MethodName) ({ cls := "OnceLetters$Log", name := "isVisible", desc := "(II)Z" } : Jvm.MethodName) ∈ xT := List.mem_filter.mpr ⟨List.mem_append_right _ (List.mem_of_getElem? (i := 364) (by decide +kernel)), rfl⟩
theorem xw_365 : Jvm.Cond.code ({ cls := "OnceLetters$Log", name := "isVisible", desc := "(II)Z" } : Jvm.MethodName) prog_3_method_10_code (4 : Nat) (Option.some Jvm.ClassFile.FieldType.boolean) ∈ xT := List.mem_filter.mpr ⟨List.mem_append_right _ (List.mem_of_getElem? (i := 365) (by decide +kernel)), rfl⟩
theorem xw_366 : Jvm.Cond.methodLink "OnceLetters$Log" (46 : Nat) ({ cls := "OnceLetters$Log", name := "fate", desc := "(I)I" } : Jvm.MethodName) ∈ xT := List.mem_filter.mpr ⟨List.mem_append_right _ (List.mem_of_getElem? (i := 366) (by decide +kernel)), rfl⟩
theorem xw_367 : Jvm.Cond.methodLink "OnceLettersLaw" (54 : Nat) ({ cls := "OnceLetters", name := "part", desc := "(II)I" } : Jvm.MethodName) ∈ xT := List.mem_filter.mpr ⟨List.mem_append_right _ (List.mem_of_getElem? (i := 367) (by decide +kernel)), rfl⟩
theorem xw_368 : Jvm.Cond.instanceMethod ({ cls := "OnceLetters", name := "part", desc := "(II)I" } : Jvm.MethodName) ∈ xT := List.mem_filter.mpr ⟨List.mem_append_right _ (List.mem_of_getElem? (i := 368) (by decide +kernel)), rfl⟩
theorem xw_369 : Jvm.Cond.selects "OnceLetters" ({ cls := "OnceLetters", name := "part", desc := "(II)I" } : Jvm.MethodName) ({ cls := "OnceLetters", name := "part", desc := "(II)I" } : Jvm.MethodName) ∈ xT := List.mem_filter.mpr ⟨List.mem_append_right _ (List.mem_of_getElem? (i := 369) (by decide +kernel)), rfl⟩
theorem xw_370 : Jvm.Cond.code ({ cls := "OnceLetters", name := "part", desc := "(II)I" } : Jvm.MethodName) prog_1_method_11_code (3 : Nat) (Option.some Jvm.ClassFile.FieldType.int) ∈ xT := List.mem_filter.mpr ⟨List.mem_append_right _ (List.mem_of_getElem? (i := 370) (by decide +kernel)), rfl⟩
theorem xw_371 : Jvm.Cond.methodLink "OnceLetters" (167 : Nat) ({ cls := "OnceLetters$Log", name := "visibleFrom", desc := "(II)I" } : Jvm.MethodName) ∈ xT := List.mem_filter.mpr ⟨List.mem_append_right _ (List.mem_of_getElem? (i := 371) (by decide +kernel)), rfl⟩
theorem xw_372 : Jvm.Cond.instanceMethod ({ cls := "OnceLetters$Log", name := "visibleFrom", desc := "(II)I" } : Jvm.MethodName) ∈ xT := List.mem_filter.mpr ⟨List.mem_append_right _ (List.mem_of_getElem? (i := 372) (by decide +kernel)), rfl⟩
theorem xw_373 : Jvm.Cond.selects "OnceLetters$Log" ({ cls := "OnceLetters$Log", name := "visibleFrom", desc := "(II)I" } : Jvm.MethodName) ({ cls := "OnceLetters$Log", name := "visibleFrom", desc := "(II)I" } : Jvm.MethodName) ∈ xT := List.mem_filter.mpr ⟨List.mem_append_right _ (List.mem_of_getElem? (i := 373) (by decide +kernel)), rfl⟩
theorem xw_374 : Jvm.Cond.code ({ cls := "OnceLetters$Log", name := "visibleFrom", desc := "(II)I" } : Jvm.MethodName) prog_3_method_11_code (5 : Nat) (Option.some Jvm.ClassFile.FieldType.int) ∈ xT := List.mem_filter.mpr ⟨List.mem_append_right _ (List.mem_of_getElem? (i := 374) (by decide +kernel)), rfl⟩
theorem xw_375 : Jvm.Cond.methodLink "OnceLetters$Log" (50 : Nat) ({ cls := "OnceLetters$Log", name := "isVisible", desc := "(II)Z" } : Jvm.MethodName) ∈ xT := List.mem_filter.mpr ⟨List.mem_append_right _ (List.mem_of_getElem? (i := 375) (by decide +kernel)), rfl⟩
theorem xw_376 : Jvm.Cond.methodLink "OnceLetters" (173 : Nat) ({ cls := "OnceLetters$Log", name := "abortedDeeds", desc := "()I" } : Jvm.MethodName) ∈ xT := List.mem_filter.mpr ⟨List.mem_append_right _ (List.mem_of_getElem? (i := 376) (by decide +kernel)), rfl⟩
theorem xw_377 : Jvm.Cond.instanceMethod ({ cls := "OnceLetters$Log", name := "abortedDeeds", desc := "()I" } : Jvm.MethodName) ∈ xT := List.mem_filter.mpr ⟨List.mem_append_right _ (List.mem_of_getElem? (i := 377) (by decide +kernel)), rfl⟩
theorem xw_378 : Jvm.Cond.selects "OnceLetters$Log" ({ cls := "OnceLetters$Log", name := "abortedDeeds", desc := "()I" } : Jvm.MethodName) ({ cls := "OnceLetters$Log", name := "abortedDeeds", desc := "()I" } : Jvm.MethodName) ∈ xT := List.mem_filter.mpr ⟨List.mem_append_right _ (List.mem_of_getElem? (i := 378) (by decide +kernel)), rfl⟩
theorem xw_379 : Jvm.Cond.code ({ cls := "OnceLetters$Log", name := "abortedDeeds", desc := "()I" } : Jvm.MethodName) prog_3_method_15_code (3 : Nat) (Option.some Jvm.ClassFile.FieldType.int) ∈ xT := List.mem_filter.mpr ⟨List.mem_append_right _ (List.mem_of_getElem? (i := 379) (by decide +kernel)), rfl⟩
theorem xw_380 : Jvm.Cond.methodLink "OnceLetters$Log" (54 : Nat) ({ cls := "OnceLetters$Log", name := "startsAborted", desc := "(I)Z" } : Jvm.MethodName) ∈ xT := List.mem_filter.mpr ⟨List.mem_append_right _ (List.mem_of_getElem? (i := 380) (by decide +kernel)), rfl⟩
theorem xw_382 : Jvm.Cond.instanceMethod ({ cls := "OnceLetters$Log", name := "startsAborted", desc := "(I)Z" } : Jvm.MethodName) ∈ xT := List.mem_filter.mpr ⟨List.mem_append_right _ (List.mem_of_getElem? (i := 382) (by decide +kernel)), rfl⟩
theorem xw_383 : Jvm.Cond.code ({ cls := "OnceLetters$Log", name := "startsAborted", desc := "(I)Z" } : Jvm.MethodName) prog_3_method_14_code (2 : Nat) (Option.some Jvm.ClassFile.FieldType.boolean) ∈ xT := List.mem_filter.mpr ⟨List.mem_append_right _ (List.mem_of_getElem? (i := 383) (by decide +kernel)), rfl⟩
theorem xw_384 : Jvm.Cond.methodLink "OnceLettersLaw" (58 : Nat) ({ cls := "OnceLetters", name := "aborted", desc := "(III)I" } : Jvm.MethodName) ∈ xT := List.mem_filter.mpr ⟨List.mem_append_right _ (List.mem_of_getElem? (i := 384) (by decide +kernel)), rfl⟩
theorem xw_385 : Jvm.Cond.instanceMethod ({ cls := "OnceLetters", name := "aborted", desc := "(III)I" } : Jvm.MethodName) ∈ xT := List.mem_filter.mpr ⟨List.mem_append_right _ (List.mem_of_getElem? (i := 385) (by decide +kernel)), rfl⟩
theorem xw_386 : Jvm.Cond.selects "OnceLetters" ({ cls := "OnceLetters", name := "aborted", desc := "(III)I" } : Jvm.MethodName) ({ cls := "OnceLetters", name := "aborted", desc := "(III)I" } : Jvm.MethodName) ∈ xT := List.mem_filter.mpr ⟨List.mem_append_right _ (List.mem_of_getElem? (i := 386) (by decide +kernel)), rfl⟩
theorem xw_387 : Jvm.Cond.code ({ cls := "OnceLetters", name := "aborted", desc := "(III)I" } : Jvm.MethodName) prog_1_method_12_code (6 : Nat) (Option.some Jvm.ClassFile.FieldType.int) ∈ xT := List.mem_filter.mpr ⟨List.mem_append_right _ (List.mem_of_getElem? (i := 387) (by decide +kernel)), rfl⟩
theorem xw_388 : Jvm.Cond.methodLink "OnceLetters" (176 : Nat) ({ cls := "OnceLetters$Log", name := "abortedFirst", desc := "(I)I" } : Jvm.MethodName) ∈ xT := List.mem_filter.mpr ⟨List.mem_append_right _ (List.mem_of_getElem? (i := 388) (by decide +kernel)), rfl⟩
theorem xw_389 : Jvm.Cond.instanceMethod ({ cls := "OnceLetters$Log", name := "abortedFirst", desc := "(I)I" } : Jvm.MethodName) ∈ xT := List.mem_filter.mpr ⟨List.mem_append_right _ (List.mem_of_getElem? (i := 389) (by decide +kernel)), rfl⟩
theorem xw_390 : Jvm.Cond.selects "OnceLetters$Log" ({ cls := "OnceLetters$Log", name := "abortedFirst", desc := "(I)I" } : Jvm.MethodName) ({ cls := "OnceLetters$Log", name := "abortedFirst", desc := "(I)I" } : Jvm.MethodName) ∈ xT := List.mem_filter.mpr ⟨List.mem_append_right _ (List.mem_of_getElem? (i := 390) (by decide +kernel)), rfl⟩
theorem xw_391 : Jvm.Cond.code ({ cls := "OnceLetters$Log", name := "abortedFirst", desc := "(I)I" } : Jvm.MethodName) prog_3_method_16_code (4 : Nat) (Option.some Jvm.ClassFile.FieldType.int) ∈ xT := List.mem_filter.mpr ⟨List.mem_append_right _ (List.mem_of_getElem? (i := 391) (by decide +kernel)), rfl⟩
theorem xw_392 : Jvm.Cond.methodLink "OnceLettersLaw" (62 : Nat) ({ cls := "OnceLetters", name := "reads", desc := "(II)I" } : Jvm.MethodName) ∈ xT := List.mem_filter.mpr ⟨List.mem_append_right _ (List.mem_of_getElem? (i := 392) (by decide +kernel)), rfl⟩
theorem xw_393 : Jvm.Cond.instanceMethod ({ cls := "OnceLetters", name := "reads", desc := "(II)I" } : Jvm.MethodName) ∈ xT := List.mem_filter.mpr ⟨List.mem_append_right _ (List.mem_of_getElem? (i := 393) (by decide +kernel)), rfl⟩
theorem xw_394 : Jvm.Cond.selects "OnceLetters" ({ cls := "OnceLetters", name := "reads", desc := "(II)I" } : Jvm.MethodName) ({ cls := "OnceLetters", name := "reads", desc := "(II)I" } : Jvm.MethodName) ∈ xT := List.mem_filter.mpr ⟨List.mem_append_right _ (List.mem_of_getElem? (i := 394) (by decide +kernel)), rfl⟩
theorem xw_395 : Jvm.Cond.code ({ cls := "OnceLetters", name := "reads", desc := "(II)I" } : Jvm.MethodName) prog_1_method_13_code (5 : Nat) (Option.some Jvm.ClassFile.FieldType.int) ∈ xT := List.mem_filter.mpr ⟨List.mem_append_right _ (List.mem_of_getElem? (i := 395) (by decide +kernel)), rfl⟩
theorem xw_396 : Jvm.Cond.methodLink "OnceLetters" (182 : Nat) ({ cls := "OnceLetters$Log", name := "nextVisible", desc := "(II)I" } : Jvm.MethodName) ∈ xT := List.mem_filter.mpr ⟨List.mem_append_right _ (List.mem_of_getElem? (i := 396) (by decide +kernel)), rfl⟩
theorem xw_397 : Jvm.Cond.instanceMethod ({ cls := "OnceLetters$Log", name := "nextVisible", desc := "(II)I" } : Jvm.MethodName) ∈ xT := List.mem_filter.mpr ⟨List.mem_append_right _ (List.mem_of_getElem? (i := 397) (by decide +kernel)), rfl⟩
theorem xw_398 : Jvm.Cond.selects "OnceLetters$Log" ({ cls := "OnceLetters$Log", name := "nextVisible", desc := "(II)I" } : Jvm.MethodName) ({ cls := "OnceLetters$Log", name := "nextVisible", desc := "(II)I" } : Jvm.MethodName) ∈ xT := List.mem_filter.mpr ⟨List.mem_append_right _ (List.mem_of_getElem? (i := 398) (by decide +kernel)), rfl⟩
theorem xw_399 : Jvm.Cond.code ({ cls := "OnceLetters$Log", name := "nextVisible", desc := "(II)I" } : Jvm.MethodName) prog_3_method_12_code (4 : Nat) (Option.some Jvm.ClassFile.FieldType.int) ∈ xT := List.mem_filter.mpr ⟨List.mem_append_right _ (List.mem_of_getElem? (i := 399) (by decide +kernel)), rfl⟩
theorem xw_400 : Jvm.Cond.methodLink "OnceLettersLaw" (66 : Nat) ({ cls := "OnceLetters", name := "rewinds", desc := "(I)I" } : Jvm.MethodName) ∈ xT := List.mem_filter.mpr ⟨List.mem_append_right _ (List.mem_of_getElem? (i := 400) (by decide +kernel)), rfl⟩
theorem xw_401 : Jvm.Cond.instanceMethod ({ cls := "OnceLetters", name := "rewinds", desc := "(I)I" } : Jvm.MethodName) ∈ xT := List.mem_filter.mpr ⟨List.mem_append_right _ (List.mem_of_getElem? (i := 401) (by decide +kernel)), rfl⟩
theorem xw_402 : Jvm.Cond.selects "OnceLetters" ({ cls := "OnceLetters", name := "rewinds", desc := "(I)I" } : Jvm.MethodName) ({ cls := "OnceLetters", name := "rewinds", desc := "(I)I" } : Jvm.MethodName) ∈ xT := List.mem_filter.mpr ⟨List.mem_append_right _ (List.mem_of_getElem? (i := 402) (by decide +kernel)), rfl⟩
theorem xw_403 : Jvm.Cond.code ({ cls := "OnceLetters", name := "rewinds", desc := "(I)I" } : Jvm.MethodName) prog_1_method_14_code (2 : Nat) (Option.some Jvm.ClassFile.FieldType.int) ∈ xT := List.mem_filter.mpr ⟨List.mem_append_right _ (List.mem_of_getElem? (i := 403) (by decide +kernel)), rfl⟩
theorem xw_404 : Jvm.Cond.methodLink "OnceLetters" (185 : Nat) ({ cls := "OnceLetters$Consumer", name := "returnToSaved", desc := "()I" } : Jvm.MethodName) ∈ xT := List.mem_filter.mpr ⟨List.mem_append_right _ (List.mem_of_getElem? (i := 404) (by decide +kernel)), rfl⟩
theorem xw_405 : Jvm.Cond.instanceMethod ({ cls := "OnceLetters$Consumer", name := "returnToSaved", desc := "()I" } : Jvm.MethodName) ∈ xT := List.mem_filter.mpr ⟨List.mem_append_right _ (List.mem_of_getElem? (i := 405) (by decide +kernel)), rfl⟩
theorem xw_406 : Jvm.Cond.selects "OnceLetters$Consumer" ({ cls := "OnceLetters$Consumer", name := "returnToSaved", desc := "()I" } : Jvm.MethodName) ({ cls := "OnceLetters$Consumer", name := "returnToSaved", desc := "()I" } : Jvm.MethodName) ∈ xT := List.mem_filter.mpr ⟨List.mem_append_right _ (List.mem_of_getElem? (i := 406) (by decide +kernel)), rfl⟩
theorem xw_407 : Jvm.Cond.code ({ cls := "OnceLetters$Consumer", name := "returnToSaved", desc := "()I" } : Jvm.MethodName) prog_2_method_4_code (3 : Nat) (Option.some Jvm.ClassFile.FieldType.int) ∈ xT := List.mem_filter.mpr ⟨List.mem_append_right _ (List.mem_of_getElem? (i := 407) (by decide +kernel)), rfl⟩
theorem xw_408 : Jvm.Cond.methodLink "OnceLettersLaw" (70 : Nat) ({ cls := "OnceLetters", name := "reader", desc := "(III)I" } : Jvm.MethodName) ∈ xT := List.mem_filter.mpr ⟨List.mem_append_right _ (List.mem_of_getElem? (i := 408) (by decide +kernel)), rfl⟩
theorem xw_409 : Jvm.Cond.instanceMethod ({ cls := "OnceLetters", name := "reader", desc := "(III)I" } : Jvm.MethodName) ∈ xT := List.mem_filter.mpr ⟨List.mem_append_right _ (List.mem_of_getElem? (i := 409) (by decide +kernel)), rfl⟩
theorem xw_410 : Jvm.Cond.selects "OnceLetters" ({ cls := "OnceLetters", name := "reader", desc := "(III)I" } : Jvm.MethodName) ({ cls := "OnceLetters", name := "reader", desc := "(III)I" } : Jvm.MethodName) ∈ xT := List.mem_filter.mpr ⟨List.mem_append_right _ (List.mem_of_getElem? (i := 410) (by decide +kernel)), rfl⟩
theorem xw_411 : Jvm.Cond.code ({ cls := "OnceLetters", name := "reader", desc := "(III)I" } : Jvm.MethodName) prog_1_method_15_code (5 : Nat) (Option.some Jvm.ClassFile.FieldType.int) ∈ xT := List.mem_filter.mpr ⟨List.mem_append_right _ (List.mem_of_getElem? (i := 411) (by decide +kernel)), rfl⟩
theorem xw_412 : Jvm.Cond.methodLink "OnceLettersLaw" (74 : Nat) ({ cls := "OnceLetters", name := "type", desc := "(I)I" } : Jvm.MethodName) ∈ xT := List.mem_filter.mpr ⟨List.mem_append_right _ (List.mem_of_getElem? (i := 412) (by decide +kernel)), rfl⟩
theorem xw_413 : Jvm.Cond.instanceMethod ({ cls := "OnceLetters", name := "type", desc := "(I)I" } : Jvm.MethodName) ∈ xT := List.mem_filter.mpr ⟨List.mem_append_right _ (List.mem_of_getElem? (i := 413) (by decide +kernel)), rfl⟩
theorem xw_414 : Jvm.Cond.selects "OnceLetters" ({ cls := "OnceLetters", name := "type", desc := "(I)I" } : Jvm.MethodName) ({ cls := "OnceLetters", name := "type", desc := "(I)I" } : Jvm.MethodName) ∈ xT := List.mem_filter.mpr ⟨List.mem_append_right _ (List.mem_of_getElem? (i := 414) (by decide +kernel)), rfl⟩
theorem xw_415 : Jvm.Cond.code ({ cls := "OnceLetters", name := "type", desc := "(I)I" } : Jvm.MethodName) prog_1_method_16_code (2 : Nat) (Option.some Jvm.ClassFile.FieldType.int) ∈ xT := List.mem_filter.mpr ⟨List.mem_append_right _ (List.mem_of_getElem? (i := 415) (by decide +kernel)), rfl⟩
theorem xw_416 : Jvm.Cond.methodLink "OnceLettersLaw" (78 : Nat) ({ cls := "OnceLetters", name := "clear", desc := "()I" } : Jvm.MethodName) ∈ xT := List.mem_filter.mpr ⟨List.mem_append_right _ (List.mem_of_getElem? (i := 416) (by decide +kernel)), rfl⟩
theorem xw_417 : Jvm.Cond.instanceMethod ({ cls := "OnceLetters", name := "clear", desc := "()I" } : Jvm.MethodName) ∈ xT := List.mem_filter.mpr ⟨List.mem_append_right _ (List.mem_of_getElem? (i := 417) (by decide +kernel)), rfl⟩
theorem xw_418 : Jvm.Cond.selects "OnceLetters" ({ cls := "OnceLetters", name := "clear", desc := "()I" } : Jvm.MethodName) ({ cls := "OnceLetters", name := "clear", desc := "()I" } : Jvm.MethodName) ∈ xT := List.mem_filter.mpr ⟨List.mem_append_right _ (List.mem_of_getElem? (i := 418) (by decide +kernel)), rfl⟩
theorem xw_419 : Jvm.Cond.code ({ cls := "OnceLetters", name := "clear", desc := "()I" } : Jvm.MethodName) prog_1_method_17_code (2 : Nat) (Option.some Jvm.ClassFile.FieldType.int) ∈ xT := List.mem_filter.mpr ⟨List.mem_append_right _ (List.mem_of_getElem? (i := 419) (by decide +kernel)), rfl⟩
theorem xw_420 : Jvm.Cond.methodLink "OnceLettersLaw" (83 : Nat) ({ cls := "OnceLetters", name := "does", desc := "()I" } : Jvm.MethodName) ∈ xT := List.mem_filter.mpr ⟨List.mem_append_right _ (List.mem_of_getElem? (i := 420) (by decide +kernel)), rfl⟩
theorem xw_421 : Jvm.Cond.instanceMethod ({ cls := "OnceLetters", name := "does", desc := "()I" } : Jvm.MethodName) ∈ xT := List.mem_filter.mpr ⟨List.mem_append_right _ (List.mem_of_getElem? (i := 421) (by decide +kernel)), rfl⟩
theorem xw_422 : Jvm.Cond.selects "OnceLetters" ({ cls := "OnceLetters", name := "does", desc := "()I" } : Jvm.MethodName) ({ cls := "OnceLetters", name := "does", desc := "()I" } : Jvm.MethodName) ∈ xT := List.mem_filter.mpr ⟨List.mem_append_right _ (List.mem_of_getElem? (i := 422) (by decide +kernel)), rfl⟩
theorem xw_423 : Jvm.Cond.code ({ cls := "OnceLetters", name := "does", desc := "()I" } : Jvm.MethodName) prog_1_method_18_code (4 : Nat) (Option.some Jvm.ClassFile.FieldType.int) ∈ xT := List.mem_filter.mpr ⟨List.mem_append_right _ (List.mem_of_getElem? (i := 423) (by decide +kernel)), rfl⟩
theorem xw_424 : Jvm.Cond.methodLink "OnceLetters" (195 : Nat) ({ cls := "OnceLetters$Script", name := "findFault", desc := "()I" } : Jvm.MethodName) ∈ xT := List.mem_filter.mpr ⟨List.mem_append_right _ (List.mem_of_getElem? (i := 424) (by decide +kernel)), rfl⟩
theorem xw_425 : Jvm.Cond.instanceMethod ({ cls := "OnceLetters$Script", name := "findFault", desc := "()I" } : Jvm.MethodName) ∈ xT := List.mem_filter.mpr ⟨List.mem_append_right _ (List.mem_of_getElem? (i := 425) (by decide +kernel)), rfl⟩
theorem xw_426 : Jvm.Cond.selects "OnceLetters$Script" ({ cls := "OnceLetters$Script", name := "findFault", desc := "()I" } : Jvm.MethodName) ({ cls := "OnceLetters$Script", name := "findFault", desc := "()I" } : Jvm.MethodName) ∈ xT := List.mem_filter.mpr ⟨List.mem_append_right _ (List.mem_of_getElem? (i := 426) (by decide +kernel)), rfl⟩
theorem xw_427 : Jvm.Cond.code ({ cls := "OnceLetters$Script", name := "findFault", desc := "()I" } : Jvm.MethodName) prog_5_method_2_code (2 : Nat) (Option.some Jvm.ClassFile.FieldType.int) ∈ xT := List.mem_filter.mpr ⟨List.mem_append_right _ (List.mem_of_getElem? (i := 427) (by decide +kernel)), rfl⟩
theorem xw_428 : Jvm.Cond.methodLink "OnceLetters$Script" (41 : Nat) ({ cls := "OnceLetters$Script", name := "takes", desc := "(I)Z" } : Jvm.MethodName) ∈ xT := List.mem_filter.mpr ⟨List.mem_append_right _ (List.mem_of_getElem? (i := 428) (by decide +kernel)), rfl⟩
theorem xw_430 : Jvm.Cond.instanceMethod ({ cls := "OnceLetters$Script", name := "takes", desc := "(I)Z" } : Jvm.MethodName) ∈ xT := List.mem_filter.mpr ⟨List.mem_append_right _ (List.mem_of_getElem? (i := 430) (by decide +kernel)), rfl⟩
theorem xw_431 : Jvm.Cond.code ({ cls := "OnceLetters$Script", name := "takes", desc := "(I)Z" } : Jvm.MethodName) prog_5_method_3_code (2 : Nat) (Option.some Jvm.ClassFile.FieldType.boolean) ∈ xT := List.mem_filter.mpr ⟨List.mem_append_right _ (List.mem_of_getElem? (i := 431) (by decide +kernel)), rfl⟩
theorem xw_432 : Jvm.Cond.methodLink "OnceLetters$Script" (45 : Nat) ({ cls := "OnceLetters$Script", name := "takesLetter", desc := "(I)Z" } : Jvm.MethodName) ∈ xT := List.mem_filter.mpr ⟨List.mem_append_right _ (List.mem_of_getElem? (i := 432) (by decide +kernel)), rfl⟩
theorem xw_434 : Jvm.Cond.instanceMethod ({ cls := "OnceLetters$Script", name := "takesLetter", desc := "(I)Z" } : Jvm.MethodName) ∈ xT := List.mem_filter.mpr ⟨List.mem_append_right _ (List.mem_of_getElem? (i := 434) (by decide +kernel)), rfl⟩
theorem xw_435 : Jvm.Cond.code ({ cls := "OnceLetters$Script", name := "takesLetter", desc := "(I)Z" } : Jvm.MethodName) prog_5_method_4_code (3 : Nat) (Option.some Jvm.ClassFile.FieldType.boolean) ∈ xT := List.mem_filter.mpr ⟨List.mem_append_right _ (List.mem_of_getElem? (i := 435) (by decide +kernel)), rfl⟩
theorem xw_436 : Jvm.Cond.methodLink "OnceLetters$Script" (55 : Nat) ({ cls := "OnceLetters$Script", name := "numbersOf", desc := "(I)I" } : Jvm.MethodName) ∈ xT := List.mem_filter.mpr ⟨List.mem_append_right _ (List.mem_of_getElem? (i := 436) (by decide +kernel)), rfl⟩
theorem xw_437 : Jvm.Cond.static ({ cls := "OnceLetters$Script", name := "numbersOf", desc := "(I)I" } : Jvm.MethodName) ∈ xT := List.mem_filter.mpr ⟨List.mem_append_right _ (List.mem_of_getElem? (i := 437) (by decide +kernel)), rfl⟩
theorem xw_438 : Jvm.Cond.code ({ cls := "OnceLetters$Script", name := "numbersOf", desc := "(I)I" } : Jvm.MethodName) prog_5_method_7_code (1 : Nat) (Option.some Jvm.ClassFile.FieldType.int) ∈ xT := List.mem_filter.mpr ⟨List.mem_append_right _ (List.mem_of_getElem? (i := 438) (by decide +kernel)), rfl⟩
theorem xw_439 : Jvm.Cond.methodLink "OnceLetters$Script" (48 : Nat) ({ cls := "OnceLetters$Script", name := "takesEnd", desc := "()Z" } : Jvm.MethodName) ∈ xT := List.mem_filter.mpr ⟨List.mem_append_right _ (List.mem_of_getElem? (i := 439) (by decide +kernel)), rfl⟩
theorem xw_441 : Jvm.Cond.instanceMethod ({ cls := "OnceLetters$Script", name := "takesEnd", desc := "()Z" } : Jvm.MethodName) ∈ xT := List.mem_filter.mpr ⟨List.mem_append_right _ (List.mem_of_getElem? (i := 441) (by decide +kernel)), rfl⟩
theorem xw_442 : Jvm.Cond.code ({ cls := "OnceLetters$Script", name := "takesEnd", desc := "()Z" } : Jvm.MethodName) prog_5_method_6_code (1 : Nat) (Option.some Jvm.ClassFile.FieldType.boolean) ∈ xT := List.mem_filter.mpr ⟨List.mem_append_right _ (List.mem_of_getElem? (i := 442) (by decide +kernel)), rfl⟩
theorem xw_443 : Jvm.Cond.methodLink "OnceLetters$Script" (52 : Nat) ({ cls := "OnceLetters$Script", name := "takesDigit", desc := "(I)Z" } : Jvm.MethodName) ∈ xT := List.mem_filter.mpr ⟨List.mem_append_right _ (List.mem_of_getElem? (i := 443) (by decide +kernel)), rfl⟩
theorem xw_445 : Jvm.Cond.instanceMethod ({ cls := "OnceLetters$Script", name := "takesDigit", desc := "(I)Z" } : Jvm.MethodName) ∈ xT := List.mem_filter.mpr ⟨List.mem_append_right _ (List.mem_of_getElem? (i := 445) (by decide +kernel)), rfl⟩
theorem xw_446 : Jvm.Cond.code ({ cls := "OnceLetters$Script", name := "takesDigit", desc := "(I)Z" } : Jvm.MethodName) prog_5_method_5_code (3 : Nat) (Option.some Jvm.ClassFile.FieldType.boolean) ∈ xT := List.mem_filter.mpr ⟨List.mem_append_right _ (List.mem_of_getElem? (i := 446) (by decide +kernel)), rfl⟩
theorem xw_447 : Jvm.Cond.methodLink "OnceLetters" (201 : Nat) ({ cls := "OnceLetters", name := "carryOut", desc := "(I)I" } : Jvm.MethodName) ∈ xT := List.mem_filter.mpr ⟨List.mem_append_right _ (List.mem_of_getElem? (i := 447) (by decide +kernel)), rfl⟩
theorem xw_449 : Jvm.Cond.instanceMethod ({ cls := "OnceLetters", name := "carryOut", desc := "(I)I" } : Jvm.MethodName) ∈ xT := List.mem_filter.mpr ⟨List.mem_append_right _ (List.mem_of_getElem? (i := 449) (by decide +kernel)), rfl⟩
theorem xw_450 : Jvm.Cond.code ({ cls := "OnceLetters", name := "carryOut", desc := "(I)I" } : Jvm.MethodName) prog_1_method_42_code (4 : Nat) (Option.some Jvm.ClassFile.FieldType.int) ∈ xT := List.mem_filter.mpr ⟨List.mem_append_right _ (List.mem_of_getElem? (i := 450) (by decide +kernel)), rfl⟩
theorem xw_451 : Jvm.Cond.methodLink "OnceLetters" (299 : Nat) ({ cls := "OnceLetters", name := "begins", desc := "(I)I" } : Jvm.MethodName) ∈ xT := List.mem_filter.mpr ⟨List.mem_append_right _ (List.mem_of_getElem? (i := 451) (by decide +kernel)), rfl⟩
theorem xw_452 : Jvm.Cond.methodLink "OnceLetters" (302 : Nat) ({ cls := "OnceLetters", name := "opens", desc := "(II)I" } : Jvm.MethodName) ∈ xT := List.mem_filter.mpr ⟨List.mem_append_right _ (List.mem_of_getElem? (i := 452) (by decide +kernel)), rfl⟩
theorem xw_453 : Jvm.Cond.methodLink "OnceLetters" (305 : Nat) ({ cls := "OnceLetters", name := "sends", desc := "(IIIII)I" } : Jvm.MethodName) ∈ xT := List.mem_filter.mpr ⟨List.mem_append_right _ (List.mem_of_getElem? (i := 453) (by decide +kernel)), rfl⟩
theorem xw_454 : Jvm.Cond.methodLink "OnceLetters" (308 : Nat) ({ cls := "OnceLetters", name := "ends", desc := "(III)I" } : Jvm.MethodName) ∈ xT := List.mem_filter.mpr ⟨List.mem_append_right _ (List.mem_of_getElem? (i := 454) (by decide +kernel)), rfl⟩
theorem xw_455 : Jvm.Cond.methodLink "OnceLetters" (311 : Nat) ({ cls := "OnceLetters", name := "ticks", desc := "(I)I" } : Jvm.MethodName) ∈ xT := List.mem_filter.mpr ⟨List.mem_append_right _ (List.mem_of_getElem? (i := 455) (by decide +kernel)), rfl⟩
theorem xw_456 : Jvm.Cond.methodLink "OnceLetters" (314 : Nat) ({ cls := "OnceLetters", name := "reads", desc := "(II)I" } : Jvm.MethodName) ∈ xT := List.mem_filter.mpr ⟨List.mem_append_right _ (List.mem_of_getElem? (i := 456) (by decide +kernel)), rfl⟩
theorem xw_457 : Jvm.Cond.methodLink "OnceLetters" (317 : Nat) ({ cls := "OnceLetters", name := "carries", desc := "(IIII)I" } : Jvm.MethodName) ∈ xT := List.mem_filter.mpr ⟨List.mem_append_right _ (List.mem_of_getElem? (i := 457) (by decide +kernel)), rfl⟩
theorem xw_458 : Jvm.Cond.methodLink "OnceLettersLaw" (87 : Nat) ({ cls := "OnceLetters", name := "asked", desc := "()I" } : Jvm.MethodName) ∈ xT := List.mem_filter.mpr ⟨List.mem_append_right _ (List.mem_of_getElem? (i := 458) (by decide +kernel)), rfl⟩
theorem xw_459 : Jvm.Cond.instanceMethod ({ cls := "OnceLetters", name := "asked", desc := "()I" } : Jvm.MethodName) ∈ xT := List.mem_filter.mpr ⟨List.mem_append_right _ (List.mem_of_getElem? (i := 459) (by decide +kernel)), rfl⟩
theorem xw_460 : Jvm.Cond.selects "OnceLetters" ({ cls := "OnceLetters", name := "asked", desc := "()I" } : Jvm.MethodName) ({ cls := "OnceLetters", name := "asked", desc := "()I" } : Jvm.MethodName) ∈ xT := List.mem_filter.mpr ⟨List.mem_append_right _ (List.mem_of_getElem? (i := 460) (by decide +kernel)), rfl⟩
theorem xw_461 : Jvm.Cond.code ({ cls := "OnceLetters", name := "asked", desc := "()I" } : Jvm.MethodName) prog_1_method_19_code (1 : Nat) (Option.some Jvm.ClassFile.FieldType.int) ∈ xT := List.mem_filter.mpr ⟨List.mem_append_right _ (List.mem_of_getElem? (i := 461) (by decide +kernel)), rfl⟩
theorem xw_462 : Jvm.Cond.methodLink "OnceLettersLaw" (91 : Nat) ({ cls := "OnceLetters", name := "all", desc := "(I)I" } : Jvm.MethodName) ∈ xT := List.mem_filter.mpr ⟨List.mem_append_right _ (List.mem_of_getElem? (i := 462) (by decide +kernel)), rfl⟩
theorem xw_463 : Jvm.Cond.instanceMethod ({ cls := "OnceLetters", name := "all", desc := "(I)I" } : Jvm.MethodName) ∈ xT := List.mem_filter.mpr ⟨List.mem_append_right _ (List.mem_of_getElem? (i := 463) (by decide +kernel)), rfl⟩
theorem xw_464 : Jvm.Cond.selects "OnceLetters" ({ cls := "OnceLetters", name := "all", desc := "(I)I" } : Jvm.MethodName) ({ cls := "OnceLetters", name := "all", desc := "(I)I" } : Jvm.MethodName) ∈ xT := List.mem_filter.mpr ⟨List.mem_append_right _ (List.mem_of_getElem? (i := 464) (by decide +kernel)), rfl⟩
theorem xw_465 : Jvm.Cond.code ({ cls := "OnceLetters", name := "all", desc := "(I)I" } : Jvm.MethodName) prog_1_method_20_code (2 : Nat) (Option.some Jvm.ClassFile.FieldType.int) ∈ xT := List.mem_filter.mpr ⟨List.mem_append_right _ (List.mem_of_getElem? (i := 465) (by decide +kernel)), rfl⟩
theorem xw_466 : Jvm.Cond.methodLink "OnceLetters" (204 : Nat) ({ cls := "OnceLetters", name := "entriesOfAll", desc := "()I" } : Jvm.MethodName) ∈ xT := List.mem_filter.mpr ⟨List.mem_append_right _ (List.mem_of_getElem? (i := 466) (by decide +kernel)), rfl⟩
theorem xw_468 : Jvm.Cond.instanceMethod ({ cls := "OnceLetters", name := "entriesOfAll", desc := "()I" } : Jvm.MethodName) ∈ xT := List.mem_filter.mpr ⟨List.mem_append_right _ (List.mem_of_getElem? (i := 468) (by decide +kernel)), rfl⟩
theorem xw_469 : Jvm.Cond.code ({ cls := "OnceLetters", name := "entriesOfAll", desc := "()I" } : Jvm.MethodName) prog_1_method_36_code (3 : Nat) (Option.some Jvm.ClassFile.FieldType.int) ∈ xT := List.mem_filter.mpr ⟨List.mem_append_right _ (List.mem_of_getElem? (i := 469) (by decide +kernel)), rfl⟩
theorem xw_470 : Jvm.Cond.methodLink "OnceLetters" (207 : Nat) ({ cls := "OnceLetters", name := "markersOfAll", desc := "()I" } : Jvm.MethodName) ∈ xT := List.mem_filter.mpr ⟨List.mem_append_right _ (List.mem_of_getElem? (i := 470) (by decide +kernel)), rfl⟩
theorem xw_472 : Jvm.Cond.instanceMethod ({ cls := "OnceLetters", name := "markersOfAll", desc := "()I" } : Jvm.MethodName) ∈ xT := List.mem_filter.mpr ⟨List.mem_append_right _ (List.mem_of_getElem? (i := 472) (by decide +kernel)), rfl⟩
theorem xw_473 : Jvm.Cond.code ({ cls := "OnceLetters", name := "markersOfAll", desc := "()I" } : Jvm.MethodName) prog_1_method_37_code (3 : Nat) (Option.some Jvm.ClassFile.FieldType.int) ∈ xT := List.mem_filter.mpr ⟨List.mem_append_right _ (List.mem_of_getElem? (i := 473) (by decide +kernel)), rfl⟩
theorem xw_474 : Jvm.Cond.methodLink "OnceLetters" (278 : Nat) ({ cls := "OnceLetters$Log", name := "markers", desc := "()I" } : Jvm.MethodName) ∈ xT := List.mem_filter.mpr ⟨List.mem_append_right _ (List.mem_of_getElem? (i := 474) (by decide +kernel)), rfl⟩
theorem xw_475 : Jvm.Cond.instanceMethod ({ cls := "OnceLetters$Log", name := "markers", desc := "()I" } : Jvm.MethodName) ∈ xT := List.mem_filter.mpr ⟨List.mem_append_right _ (List.mem_of_getElem? (i := 475) (by decide +kernel)), rfl⟩
theorem xw_476 : Jvm.Cond.selects "OnceLetters$Log" ({ cls := "OnceLetters$Log", name := "markers", desc := "()I" } : Jvm.MethodName) ({ cls := "OnceLetters$Log", name := "markers", desc := "()I" } : Jvm.MethodName) ∈ xT := List.mem_filter.mpr ⟨List.mem_append_right _ (List.mem_of_getElem? (i := 476) (by decide +kernel)), rfl⟩
theorem xw_477 : Jvm.Cond.code ({ cls := "OnceLetters$Log", name := "markers", desc := "()I" } : Jvm.MethodName) prog_3_method_13_code (3 : Nat) (Option.some Jvm.ClassFile.FieldType.int) ∈ xT := List.mem_filter.mpr ⟨List.mem_append_right _ (List.mem_of_getElem? (i := 477) (by decide +kernel)), rfl⟩
theorem xw_478 : Jvm.Cond.methodLink "OnceLetters" (210 : Nat) ({ cls := "OnceLetters", name := "visibleOfAll", desc := "()I" } : Jvm.MethodName) ∈ xT := List.mem_filter.mpr ⟨List.mem_append_right _ (List.mem_of_getElem? (i := 478) (by decide +kernel)), rfl⟩
theorem xw_480 : Jvm.Cond.instanceMethod ({ cls := "OnceLetters", name := "visibleOfAll", desc := "()I" } : Jvm.MethodName) ∈ xT := List.mem_filter.mpr ⟨List.mem_append_right _ (List.mem_of_getElem? (i := 480) (by decide +kernel)), rfl⟩
theorem xw_481 : Jvm.Cond.code ({ cls := "OnceLetters", name := "visibleOfAll", desc := "()I" } : Jvm.MethodName) prog_1_method_38_code (3 : Nat) (Option.some Jvm.ClassFile.FieldType.int) ∈ xT := List.mem_filter.mpr ⟨List.mem_append_right _ (List.mem_of_getElem? (i := 481) (by decide +kernel)), rfl⟩
theorem xw_482 : Jvm.Cond.methodLink "OnceLetters" (213 : Nat) ({ cls := "OnceLetters", name := "dueOfAll", desc := "()I" } : Jvm.MethodName) ∈ xT := List.mem_filter.mpr ⟨List.mem_append_right _ (List.mem_of_getElem? (i := 482) (by decide +kernel)), rfl⟩
theorem xw_484 : Jvm.Cond.instanceMethod ({ cls := "OnceLetters", name := "dueOfAll", desc := "()I" } : Jvm.MethodName) ∈ xT := List.mem_filter.mpr ⟨List.mem_append_right _ (List.mem_of_getElem? (i := 484) (by decide +kernel)), rfl⟩
theorem xw_485 : Jvm.Cond.code ({ cls := "OnceLetters", name := "dueOfAll", desc := "()I" } : Jvm.MethodName) prog_1_method_39_code (3 : Nat) (Option.some Jvm.ClassFile.FieldType.int) ∈ xT := List.mem_filter.mpr ⟨List.mem_append_right _ (List.mem_of_getElem? (i := 485) (by decide +kernel)), rfl⟩
theorem xw_486 : Jvm.Cond.methodLink "OnceLettersLaw" (95 : Nat) ({ cls := "OnceLetters", name := "back", desc := "()I" } : Jvm.MethodName) ∈ xT := List.mem_filter.mpr ⟨List.mem_append_right _ (List.mem_of_getElem? (i := 486) (by decide +kernel)), rfl⟩
theorem xw_487 : Jvm.Cond.instanceMethod ({ cls := "OnceLetters", name := "back", desc := "()I" } : Jvm.MethodName) ∈ xT := List.mem_filter.mpr ⟨List.mem_append_right _ (List.mem_of_getElem? (i := 487) (by decide +kernel)), rfl⟩
theorem xw_488 : Jvm.Cond.selects "OnceLetters" ({ cls := "OnceLetters", name := "back", desc := "()I" } : Jvm.MethodName) ({ cls := "OnceLetters", name := "back", desc := "()I" } : Jvm.MethodName) ∈ xT := List.mem_filter.mpr ⟨List.mem_append_right _ (List.mem_of_getElem? (i := 488) (by decide +kernel)), rfl⟩
theorem xw_489 : Jvm.Cond.code ({ cls := "OnceLetters", name := "back", desc := "()I" } : Jvm.MethodName) prog_1_method_21_code (2 : Nat) (Option.some Jvm.ClassFile.FieldType.int) ∈ xT := List.mem_filter.mpr ⟨List.mem_append_right _ (List.mem_of_getElem? (i := 489) (by decide +kernel)), rfl⟩
theorem xw_490 : Jvm.Cond.methodLink "OnceLetters" (223 : Nat) ({ cls := "OnceLetters$Log", name := "cut", desc := "(I)V" } : Jvm.MethodName) ∈ xT := List.mem_filter.mpr ⟨List.mem_append_right _ (List.mem_of_getElem? (i := 490) (by decide +kernel)), rfl⟩
theorem xw_491 : Jvm.Cond.instanceMethod ({ cls := "OnceLetters$Log", name := "cut", desc := "(I)V" } : Jvm.MethodName) ∈ xT := List.mem_filter.mpr ⟨List.mem_append_right _ (List.mem_of_getElem? (i := 491) (by decide +kernel)), rfl⟩
theorem xw_492 : Jvm.Cond.selects "OnceLetters$Log" ({ cls := "OnceLetters$Log", name := "cut", desc := "(I)V" } : Jvm.MethodName) ({ cls := "OnceLetters$Log", name := "cut", desc := "(I)V" } : Jvm.MethodName) ∈ xT := List.mem_filter.mpr ⟨List.mem_append_right _ (List.mem_of_getElem? (i := 492) (by decide +kernel)), rfl⟩
theorem xw_493 : Jvm.Cond.code ({ cls := "OnceLetters$Log", name := "cut", desc := "(I)V" } : Jvm.MethodName) prog_3_method_4_code (3 : Nat) (Option.none : Option Jvm.ClassFile.FieldType) ∈ xT := List.mem_filter.mpr ⟨List.mem_append_right _ (List.mem_of_getElem? (i := 493) (by decide +kernel)), rfl⟩
theorem xw_494 : Jvm.Cond.methodLink "OnceLettersLaw" (99 : Nat) ({ cls := "OnceLetters", name := "told", desc := "(I)I" } : Jvm.MethodName) ∈ xT := List.mem_filter.mpr ⟨List.mem_append_right _ (List.mem_of_getElem? (i := 494) (by decide +kernel)), rfl⟩
theorem xw_495 : Jvm.Cond.instanceMethod ({ cls := "OnceLetters", name := "told", desc := "(I)I" } : Jvm.MethodName) ∈ xT := List.mem_filter.mpr ⟨List.mem_append_right _ (List.mem_of_getElem? (i := 495) (by decide +kernel)), rfl⟩
theorem xw_496 : Jvm.Cond.selects "OnceLetters" ({ cls := "OnceLetters", name := "told", desc := "(I)I" } : Jvm.MethodName) ({ cls := "OnceLetters", name := "told", desc := "(I)I" } : Jvm.MethodName) ∈ xT := List.mem_filter.mpr ⟨List.mem_append_right _ (List.mem_of_getElem? (i := 496) (by decide +kernel)), rfl⟩
theorem xw_497 : Jvm.Cond.code ({ cls := "OnceLetters", name := "told", desc := "(I)I" } : Jvm.MethodName) prog_1_method_22_code (2 : Nat) (Option.some Jvm.ClassFile.FieldType.int) ∈ xT := List.mem_filter.mpr ⟨List.mem_append_right _ (List.mem_of_getElem? (i := 497) (by decide +kernel)), rfl⟩
theorem xw_498 : Jvm.Cond.methodLink "OnceLettersLaw" (103 : Nat) ({ cls := "OnceLetters", name := "digest", desc := "()J" } : Jvm.MethodName) ∈ xT := List.mem_filter.mpr ⟨List.mem_append_right _ (List.mem_of_getElem? (i := 498) (by decide +kernel)), rfl⟩
theorem xw_499 : Jvm.Cond.instanceMethod ({ cls := "OnceLetters", name := "digest", desc := "()J" } : Jvm.MethodName) ∈ xT := List.mem_filter.mpr ⟨List.mem_append_right _ (List.mem_of_getElem? (i := 499) (by decide +kernel)), rfl⟩
theorem xw_500 : Jvm.Cond.selects "OnceLetters" ({ cls := "OnceLetters", name := "digest", desc := "()J" } : Jvm.MethodName) ({ cls := "OnceLetters", name := "digest", desc := "()J" } : Jvm.MethodName) ∈ xT := List.mem_filter.mpr ⟨List.mem_append_right _ (List.mem_of_getElem? (i := 500) (by decide +kernel)), rfl⟩
theorem xw_501 : Jvm.Cond.code ({ cls := "OnceLetters", name := "digest", desc := "()J" } : Jvm.MethodName) prog_1_method_23_code (5 : Nat) (Option.some Jvm.ClassFile.FieldType.long) ∈ xT := List.mem_filter.mpr ⟨List.mem_append_right _ (List.mem_of_getElem? (i := 501) (by decide +kernel)), rfl⟩
theorem xw_502 : Jvm.Cond.constantLong "OnceLetters" (227 : Nat) (2297 : Int64) ∈ xT := List.mem_filter.mpr ⟨List.mem_append_right _ (List.mem_of_getElem? (i := 502) (by decide +kernel)), rfl⟩
theorem xw_503 : Jvm.Cond.constantLong "OnceLetters" (229 : Nat) (31 : Int64) ∈ xT := List.mem_filter.mpr ⟨List.mem_append_right _ (List.mem_of_getElem? (i := 503) (by decide +kernel)), rfl⟩
theorem xw_504 : Jvm.Cond.methodLink "OnceLetters" (231 : Nat) ({ cls := "OnceLetters", name := "told", desc := "(I)I" } : Jvm.MethodName) ∈ xT := List.mem_filter.mpr ⟨List.mem_append_right _ (List.mem_of_getElem? (i := 504) (by decide +kernel)), rfl⟩
theorem xw_505 : Jvm.Cond.methodLink "OnceLetters" (234 : Nat) ({ cls := "OnceLetters", name := "all", desc := "(I)I" } : Jvm.MethodName) ∈ xT := List.mem_filter.mpr ⟨List.mem_append_right _ (List.mem_of_getElem? (i := 505) (by decide +kernel)), rfl⟩
theorem xw_506 : Jvm.Cond.methodLink "OnceLetters" (237 : Nat) ({ cls := "OnceLetters", name := "writer", desc := "(II)I" } : Jvm.MethodName) ∈ xT := List.mem_filter.mpr ⟨List.mem_append_right _ (List.mem_of_getElem? (i := 506) (by decide +kernel)), rfl⟩
theorem xw_507 : Jvm.Cond.methodLink "OnceLetters" (239 : Nat) ({ cls := "OnceLetters", name := "mixPart", desc := "(JI)J" } : Jvm.MethodName) ∈ xT := List.mem_filter.mpr ⟨List.mem_append_right _ (List.mem_of_getElem? (i := 507) (by decide +kernel)), rfl⟩
theorem xw_509 : Jvm.Cond.instanceMethod ({ cls := "OnceLetters", name := "mixPart", desc := "(JI)J" } : Jvm.MethodName) ∈ xT := List.mem_filter.mpr ⟨List.mem_append_right _ (List.mem_of_getElem? (i := 509) (by decide +kernel)), rfl⟩
theorem xw_510 : Jvm.Cond.code ({ cls := "OnceLetters", name := "mixPart", desc := "(JI)J" } : Jvm.MethodName) prog_1_method_40_code (9 : Nat) (Option.some Jvm.ClassFile.FieldType.long) ∈ xT := List.mem_filter.mpr ⟨List.mem_append_right _ (List.mem_of_getElem? (i := 510) (by decide +kernel)), rfl⟩
theorem xw_511 : Jvm.Cond.methodLink "OnceLetters" (281 : Nat) ({ cls := "OnceLetters", name := "part", desc := "(II)I" } : Jvm.MethodName) ∈ xT := List.mem_filter.mpr ⟨List.mem_append_right _ (List.mem_of_getElem? (i := 511) (by decide +kernel)), rfl⟩
theorem xw_512 : Jvm.Cond.methodLink "OnceLetters" (284 : Nat) ({ cls := "OnceLetters", name := "entry", desc := "(III)I" } : Jvm.MethodName) ∈ xT := List.mem_filter.mpr ⟨List.mem_append_right _ (List.mem_of_getElem? (i := 512) (by decide +kernel)), rfl⟩
theorem xw_513 : Jvm.Cond.methodLink "OnceLetters" (287 : Nat) ({ cls := "OnceLetters", name := "aborted", desc := "(III)I" } : Jvm.MethodName) ∈ xT := List.mem_filter.mpr ⟨List.mem_append_right _ (List.mem_of_getElem? (i := 513) (by decide +kernel)), rfl⟩
theorem xw_514 : Jvm.Cond.methodLink "OnceLetters" (243 : Nat) ({ cls := "OnceLetters", name := "mixReader", desc := "(JI)J" } : Jvm.MethodName) ∈ xT := List.mem_filter.mpr ⟨List.mem_append_right _ (List.mem_of_getElem? (i := 514) (by decide +kernel)), rfl⟩
theorem xw_516 : Jvm.Cond.instanceMethod ({ cls := "OnceLetters", name := "mixReader", desc := "(JI)J" } : Jvm.MethodName) ∈ xT := List.mem_filter.mpr ⟨List.mem_append_right _ (List.mem_of_getElem? (i := 516) (by decide +kernel)), rfl⟩
theorem xw_517 : Jvm.Cond.code ({ cls := "OnceLetters", name := "mixReader", desc := "(JI)J" } : Jvm.MethodName) prog_1_method_41_code (8 : Nat) (Option.some Jvm.ClassFile.FieldType.long) ∈ xT := List.mem_filter.mpr ⟨List.mem_append_right _ (List.mem_of_getElem? (i := 517) (by decide +kernel)), rfl⟩
theorem xw_518 : Jvm.Cond.methodLink "OnceLetters" (290 : Nat) ({ cls := "OnceLetters", name := "reader", desc := "(III)I" } : Jvm.MethodName) ∈ xT := List.mem_filter.mpr ⟨List.mem_append_right _ (List.mem_of_getElem? (i := 518) (by decide +kernel)), rfl⟩
theorem xw_519 : Jvm.Cond.classLink "OnceLettersLaw" (10 : Nat) "OnceLettersModel" ∈ xT := List.mem_filter.mpr ⟨List.mem_append_right _ (List.mem_of_getElem? (i := 519) (by decide +kernel)), rfl⟩
theorem xw_520 : Jvm.Cond.instantiable "OnceLettersModel" (14 : Nat) ∈ xT := List.mem_filter.mpr ⟨List.mem_append_right _ (List.mem_of_getElem? (i := 520) (by decide +kernel)), rfl⟩
theorem xw_521 : Jvm.Cond.methodLink "OnceLettersLaw" (12 : Nat) ({ cls := "OnceLettersModel", name := "<init>", desc := "()V" } : Jvm.MethodName) ∈ xT := List.mem_filter.mpr ⟨List.mem_append_right _ (List.mem_of_getElem? (i := 521) (by decide +kernel)), rfl⟩
theorem xw_522 : Jvm.Cond.instanceMethod ({ cls := "OnceLettersModel", name := "<init>", desc := "()V" } : Jvm.MethodName) ∈ xT := List.mem_filter.mpr ⟨List.mem_append_right _ (List.mem_of_getElem? (i := 522) (by decide +kernel)), rfl⟩
theorem xw_523 : Jvm.Cond.code ({ cls := "OnceLettersModel", name := "<init>", desc := "()V" } : Jvm.MethodName) prog_8_method_1_code (2 : Nat) (Option.none : Option Jvm.ClassFile.FieldType) ∈ xT := List.mem_filter.mpr ⟨List.mem_append_right _ (List.mem_of_getElem? (i := 523) (by decide +kernel)), rfl⟩
theorem xw_524 : Jvm.Cond.methodLink "OnceLettersModel" (1 : Nat) ({ cls := "java/lang/Object", name := "<init>", desc := "()V" } : Jvm.MethodName) ∈ xT := List.mem_filter.mpr ⟨List.mem_append_right _ (List.mem_of_getElem? (i := 524) (by decide +kernel)), rfl⟩
theorem xw_525 : Jvm.Cond.methodLink "OnceLettersModel" (28 : Nat) ({ cls := "OnceLettersModel", name := "lays", desc := "(III)V" } : Jvm.MethodName) ∈ xT := List.mem_filter.mpr ⟨List.mem_append_right _ (List.mem_of_getElem? (i := 525) (by decide +kernel)), rfl⟩
theorem xw_527 : Jvm.Cond.instanceMethod ({ cls := "OnceLettersModel", name := "lays", desc := "(III)V" } : Jvm.MethodName) ∈ xT := List.mem_filter.mpr ⟨List.mem_append_right _ (List.mem_of_getElem? (i := 527) (by decide +kernel)), rfl⟩
theorem xw_528 : Jvm.Cond.code ({ cls := "OnceLettersModel", name := "lays", desc := "(III)V" } : Jvm.MethodName) prog_8_method_15_code (4 : Nat) (Option.none : Option Jvm.ClassFile.FieldType) ∈ xT := List.mem_filter.mpr ⟨List.mem_append_right _ (List.mem_of_getElem? (i := 528) (by decide +kernel)), rfl⟩
theorem xw_529 : Jvm.Cond.fieldLink "OnceLettersModel" (7 : Nat) "OnceLettersModel" "now" "[I" ∈ xT := List.mem_filter.mpr ⟨List.mem_append_right _ (List.mem_of_getElem? (i := 529) (by decide +kernel)), rfl⟩
theorem xw_530 : Jvm.Cond.fieldLink "OnceLettersModel" (13 : Nat) "OnceLettersModel" "past" "[I" ∈ xT := List.mem_filter.mpr ⟨List.mem_append_right _ (List.mem_of_getElem? (i := 530) (by decide +kernel)), rfl⟩
theorem xw_531 : Jvm.Cond.fieldLink "OnceLettersModel" (40 : Nat) "OnceLettersModel" "states" "I" ∈ xT := List.mem_filter.mpr ⟨List.mem_append_right _ (List.mem_of_getElem? (i := 531) (by decide +kernel)), rfl⟩
theorem xw_532 : Jvm.Cond.fieldLink "OnceLettersModel" (48 : Nat) "OnceLettersModel" "isOne" "Z" ∈ xT := List.mem_filter.mpr ⟨List.mem_append_right _ (List.mem_of_getElem? (i := 532) (by decide +kernel)), rfl⟩
theorem xw_533 : Jvm.Cond.fieldLink "OnceLettersModel" (16 : Nat) "OnceLettersModel" "refused" "[I" ∈ xT := List.mem_filter.mpr ⟨List.mem_append_right _ (List.mem_of_getElem? (i := 533) (by decide +kernel)), rfl⟩
theorem xw_534 : Jvm.Cond.fieldLink "OnceLettersModel" (19 : Nat) "OnceLettersModel" "text" "[I" ∈ xT := List.mem_filter.mpr ⟨List.mem_append_right _ (List.mem_of_getElem? (i := 534) (by decide +kernel)), rfl⟩
theorem xw_535 : Jvm.Cond.fieldLink "OnceLettersModel" (183 : Nat) "OnceLettersModel" "size" "I" ∈ xT := List.mem_filter.mpr ⟨List.mem_append_right _ (List.mem_of_getElem? (i := 535) (by decide +kernel)), rfl⟩
theorem xw_536 : Jvm.Cond.fieldLink "OnceLettersModel" (186 : Nat) "OnceLettersModel" "at" "I" ∈ xT := List.mem_filter.mpr ⟨List.mem_append_right _ (List.mem_of_getElem? (i := 536) (by decide +kernel)), rfl⟩
theorem xw_537 : Jvm.Cond.fieldLink "OnceLettersModel" (192 : Nat) "OnceLettersModel" "fault" "I" ∈ xT := List.mem_filter.mpr ⟨List.mem_append_right _ (List.mem_of_getElem? (i := 537) (by decide +kernel)), rfl⟩
theorem xw_538 : Jvm.Cond.fieldLink "OnceLettersModel" (208 : Nat) "OnceLettersModel" "orders" "I" ∈ xT := List.mem_filter.mpr ⟨List.mem_append_right _ (List.mem_of_getElem? (i := 538) (by decide +kernel)), rfl⟩
theorem xw_539 : Jvm.Cond.fieldLink "OnceLettersModel" (22 : Nat) "OnceLettersModel" "letters" "[I" ∈ xT := List.mem_filter.mpr ⟨List.mem_append_right _ (List.mem_of_getElem? (i := 539) (by decide +kernel)), rfl⟩
theorem xw_540 : Jvm.Cond.fieldLink "OnceLettersModel" (25 : Nat) "OnceLettersModel" "tells" "[I" ∈ xT := List.mem_filter.mpr ⟨List.mem_append_right _ (List.mem_of_getElem? (i := 540) (by decide +kernel)), rfl⟩
theorem xw_541 : Jvm.Cond.fieldLink "OnceLettersModel" (245 : Nat) "OnceLettersModel" "last" "I" ∈ xT := List.mem_filter.mpr ⟨List.mem_append_right _ (List.mem_of_getElem? (i := 541) (by decide +kernel)), rfl⟩
theorem xw_542 : Jvm.Cond.fieldLink "OnceLettersModel" (262 : Nat) "OnceLettersModel" "h" "J" ∈ xT := List.mem_filter.mpr ⟨List.mem_append_right _ (List.mem_of_getElem? (i := 542) (by decide +kernel)), rfl⟩
theorem xw_571 : Jvm.Cond.superclass "OnceLettersModel" "java/lang/Object" ∈ xT := List.mem_filter.mpr ⟨List.mem_append_right _ (List.mem_of_getElem? (i := 571) (by decide +kernel)), rfl⟩
theorem xw_572 : Jvm.Cond.methodLink "OnceLettersLaw" (17 : Nat) ({ cls := "OnceLettersModel", name := "begins", desc := "(I)I" } : Jvm.MethodName) ∈ xT := List.mem_filter.mpr ⟨List.mem_append_right _ (List.mem_of_getElem? (i := 572) (by decide +kernel)), rfl⟩
theorem xw_573 : Jvm.Cond.instanceMethod ({ cls := "OnceLettersModel", name := "begins", desc := "(I)I" } : Jvm.MethodName) ∈ xT := List.mem_filter.mpr ⟨List.mem_append_right _ (List.mem_of_getElem? (i := 573) (by decide +kernel)), rfl⟩
theorem xw_574 : Jvm.Cond.selects "OnceLettersModel" ({ cls := "OnceLettersModel", name := "begins", desc := "(I)I" } : Jvm.MethodName) ({ cls := "OnceLettersModel", name := "begins", desc := "(I)I" } : Jvm.MethodName) ∈ xT := List.mem_filter.mpr ⟨List.mem_append_right _ (List.mem_of_getElem? (i := 574) (by decide +kernel)), rfl⟩
theorem xw_575 : Jvm.Cond.code ({ cls := "OnceLettersModel", name := "begins", desc := "(I)I" } : Jvm.MethodName) prog_8_method_36_code (2 : Nat) (Option.some Jvm.ClassFile.FieldType.int) ∈ xT := List.mem_filter.mpr ⟨List.mem_append_right _ (List.mem_of_getElem? (i := 575) (by decide +kernel)), rfl⟩
theorem xw_576 : Jvm.Cond.methodLink "OnceLettersModel" (107 : Nat) ({ cls := "OnceLettersModel", name := "isWriter", desc := "(I)Z" } : Jvm.MethodName) ∈ xT := List.mem_filter.mpr ⟨List.mem_append_right _ (List.mem_of_getElem? (i := 576) (by decide +kernel)), rfl⟩
theorem xw_577 : Jvm.Cond.static ({ cls := "OnceLettersModel", name := "isWriter", desc := "(I)Z" } : Jvm.MethodName) ∈ xT := List.mem_filter.mpr ⟨List.mem_append_right _ (List.mem_of_getElem? (i := 577) (by decide +kernel)), rfl⟩
theorem xw_578 : Jvm.Cond.code ({ cls := "OnceLettersModel", name := "isWriter", desc := "(I)Z" } : Jvm.MethodName) prog_8_method_8_code (1 : Nat) (Option.some Jvm.ClassFile.FieldType.boolean) ∈ xT := List.mem_filter.mpr ⟨List.mem_append_right _ (List.mem_of_getElem? (i := 578) (by decide +kernel)), rfl⟩
theorem xw_579 : Jvm.Cond.methodLink "OnceLettersModel" (36 : Nat) ({ cls := "OnceLettersModel", name := "in", desc := "(III)Z" } : Jvm.MethodName) ∈ xT := List.mem_filter.mpr ⟨List.mem_append_right _ (List.mem_of_getElem? (i := 579) (by decide +kernel)), rfl⟩
theorem xw_580 : Jvm.Cond.static ({ cls := "OnceLettersModel", name := "in", desc := "(III)Z" } : Jvm.MethodName) ∈ xT := List.mem_filter.mpr ⟨List.mem_append_right _ (List.mem_of_getElem? (i := 580) (by decide +kernel)), rfl⟩
theorem xw_581 : Jvm.Cond.code ({ cls := "OnceLettersModel", name := "in", desc := "(III)Z" } : Jvm.MethodName) prog_8_method_3_code (3 : Nat) (Option.some Jvm.ClassFile.FieldType.boolean) ∈ xT := List.mem_filter.mpr ⟨List.mem_append_right _ (List.mem_of_getElem? (i := 581) (by decide +kernel)), rfl⟩
theorem xw_582 : Jvm.Cond.methodLink "OnceLettersModel" (111 : Nat) ({ cls := "OnceLettersModel", name := "bad", desc := "()I" } : Jvm.MethodName) ∈ xT := List.mem_filter.mpr ⟨List.mem_append_right _ (List.mem_of_getElem? (i := 582) (by decide +kernel)), rfl⟩
theorem xw_584 : Jvm.Cond.instanceMethod ({ cls := "OnceLettersModel", name := "bad", desc := "()I" } : Jvm.MethodName) ∈ xT := List.mem_filter.mpr ⟨List.mem_append_right _ (List.mem_of_getElem? (i := 584) (by decide +kernel)), rfl⟩
theorem xw_585 : Jvm.Cond.code ({ cls := "OnceLettersModel", name := "bad", desc := "()I" } : Jvm.MethodName) prog_8_method_7_code (1 : Nat) (Option.some Jvm.ClassFile.FieldType.int) ∈ xT := List.mem_filter.mpr ⟨List.mem_append_right _ (List.mem_of_getElem? (i := 585) (by decide +kernel)), rfl⟩
theorem xw_586 : Jvm.Cond.methodLink "OnceLettersModel" (32 : Nat) ({ cls := "OnceLettersModel", name := "refuse", desc := "(II)I" } : Jvm.MethodName) ∈ xT := List.mem_filter.mpr ⟨List.mem_append_right _ (List.mem_of_getElem? (i := 586) (by decide +kernel)), rfl⟩
theorem xw_588 : Jvm.Cond.instanceMethod ({ cls := "OnceLettersModel", name := "refuse", desc := "(II)I" } : Jvm.MethodName) ∈ xT := List.mem_filter.mpr ⟨List.mem_append_right _ (List.mem_of_getElem? (i := 588) (by decide +kernel)), rfl⟩
theorem xw_589 : Jvm.Cond.code ({ cls := "OnceLettersModel", name := "refuse", desc := "(II)I" } : Jvm.MethodName) prog_8_method_6_code (3 : Nat) (Option.some Jvm.ClassFile.FieldType.int) ∈ xT := List.mem_filter.mpr ⟨List.mem_append_right _ (List.mem_of_getElem? (i := 589) (by decide +kernel)), rfl⟩
theorem xw_590 : Jvm.Cond.methodLink "OnceLettersModel" (56 : Nat) ({ cls := "OnceLettersModel", name := "of", desc := "(II)I" } : Jvm.MethodName) ∈ xT := List.mem_filter.mpr ⟨List.mem_append_right _ (List.mem_of_getElem? (i := 590) (by decide +kernel)), rfl⟩
theorem xw_592 : Jvm.Cond.instanceMethod ({ cls := "OnceLettersModel", name := "of", desc := "(II)I" } : Jvm.MethodName) ∈ xT := List.mem_filter.mpr ⟨List.mem_append_right _ (List.mem_of_getElem? (i := 592) (by decide +kernel)), rfl⟩
theorem xw_593 : Jvm.Cond.code ({ cls := "OnceLettersModel", name := "of", desc := "(II)I" } : Jvm.MethodName) prog_8_method_14_code (3 : Nat) (Option.some Jvm.ClassFile.FieldType.int) ∈ xT := List.mem_filter.mpr ⟨List.mem_append_right _ (List.mem_of_getElem? (i := 593) (by decide +kernel)), rfl⟩
theorem xw_594 : Jvm.Cond.methodLink "OnceLettersModel" (115 : Nat) ({ cls := "OnceLettersModel", name := "notes", desc := "()V" } : Jvm.MethodName) ∈ xT := List.mem_filter.mpr ⟨List.mem_append_right _ (List.mem_of_getElem? (i := 594) (by decide +kernel)), rfl⟩
theorem xw_596 : Jvm.Cond.instanceMethod ({ cls := "OnceLettersModel", name := "notes", desc := "()V" } : Jvm.MethodName) ∈ xT := List.mem_filter.mpr ⟨List.mem_append_right _ (List.mem_of_getElem? (i := 596) (by decide +kernel)), rfl⟩
theorem xw_597 : Jvm.Cond.code ({ cls := "OnceLettersModel", name := "notes", desc := "()V" } : Jvm.MethodName) prog_8_method_13_code (1 : Nat) (Option.none : Option Jvm.ClassFile.FieldType) ∈ xT := List.mem_filter.mpr ⟨List.mem_append_right _ (List.mem_of_getElem? (i := 597) (by decide +kernel)), rfl⟩
theorem xw_598 : Jvm.Cond.methodLink "OnceLettersModel" (52 : Nat) ({ cls := "OnceLettersModel", name := "keeps", desc := "([II)V" } : Jvm.MethodName) ∈ xT := List.mem_filter.mpr ⟨List.mem_append_right _ (List.mem_of_getElem? (i := 598) (by decide +kernel)), rfl⟩
theorem xw_600 : Jvm.Cond.instanceMethod ({ cls := "OnceLettersModel", name := "keeps", desc := "([II)V" } : Jvm.MethodName) ∈ xT := List.mem_filter.mpr ⟨List.mem_append_right _ (List.mem_of_getElem? (i := 600) (by decide +kernel)), rfl⟩
theorem xw_601 : Jvm.Cond.code ({ cls := "OnceLettersModel", name := "keeps", desc := "([II)V" } : Jvm.MethodName) prog_8_method_12_code (4 : Nat) (Option.none : Option Jvm.ClassFile.FieldType) ∈ xT := List.mem_filter.mpr ⟨List.mem_append_right _ (List.mem_of_getElem? (i := 601) (by decide +kernel)), rfl⟩
theorem xw_602 : Jvm.Cond.methodLink "OnceLettersModel" (44 : Nat) ({ cls := "OnceLettersModel", name := "copies", desc := "([II[II)V" } : Jvm.MethodName) ∈ xT := List.mem_filter.mpr ⟨List.mem_append_right _ (List.mem_of_getElem? (i := 602) (by decide +kernel)), rfl⟩
theorem xw_604 : Jvm.Cond.instanceMethod ({ cls := "OnceLettersModel", name := "copies", desc := "([II[II)V" } : Jvm.MethodName) ∈ xT := List.mem_filter.mpr ⟨List.mem_append_right _ (List.mem_of_getElem? (i := 604) (by decide +kernel)), rfl⟩
theorem xw_605 : Jvm.Cond.code ({ cls := "OnceLettersModel", name := "copies", desc := "([II[II)V" } : Jvm.MethodName) prog_8_method_11_code (6 : Nat) (Option.none : Option Jvm.ClassFile.FieldType) ∈ xT := List.mem_filter.mpr ⟨List.mem_append_right _ (List.mem_of_getElem? (i := 605) (by decide +kernel)), rfl⟩
theorem xw_606 : Jvm.Cond.methodLink "OnceLettersModel" (104 : Nat) ({ cls := "OnceLettersModel", name := "endDeed", desc := "(II)V" } : Jvm.MethodName) ∈ xT := List.mem_filter.mpr ⟨List.mem_append_right _ (List.mem_of_getElem? (i := 606) (by decide +kernel)), rfl⟩
theorem xw_608 : Jvm.Cond.instanceMethod ({ cls := "OnceLettersModel", name := "endDeed", desc := "(II)V" } : Jvm.MethodName) ∈ xT := List.mem_filter.mpr ⟨List.mem_append_right _ (List.mem_of_getElem? (i := 608) (by decide +kernel)), rfl⟩
theorem xw_609 : Jvm.Cond.code ({ cls := "OnceLettersModel", name := "endDeed", desc := "(II)V" } : Jvm.MethodName) prog_8_method_31_code (3 : Nat) (Option.none : Option Jvm.ClassFile.FieldType) ∈ xT := List.mem_filter.mpr ⟨List.mem_append_right _ (List.mem_of_getElem? (i := 609) (by decide +kernel)), rfl⟩
theorem xw_610 : Jvm.Cond.methodLink "OnceLettersModel" (86 : Nat) ({ cls := "OnceLettersModel", name := "isOver", desc := "(I)V" } : Jvm.MethodName) ∈ xT := List.mem_filter.mpr ⟨List.mem_append_right _ (List.mem_of_getElem? (i := 610) (by decide +kernel)), rfl⟩
theorem xw_612 : Jvm.Cond.instanceMethod ({ cls := "OnceLettersModel", name := "isOver", desc := "(I)V" } : Jvm.MethodName) ∈ xT := List.mem_filter.mpr ⟨List.mem_append_right _ (List.mem_of_getElem? (i := 612) (by decide +kernel)), rfl⟩
theorem xw_613 : Jvm.Cond.code ({ cls := "OnceLettersModel", name := "isOver", desc := "(I)V" } : Jvm.MethodName) prog_8_method_30_code (5 : Nat) (Option.none : Option Jvm.ClassFile.FieldType) ∈ xT := List.mem_filter.mpr ⟨List.mem_append_right _ (List.mem_of_getElem? (i := 613) (by decide +kernel)), rfl⟩
theorem xw_614 : Jvm.Cond.methodLink "OnceLettersLaw" (22 : Nat) ({ cls := "OnceLettersModel", name := "opens", desc := "(II)I" } : Jvm.MethodName) ∈ xT := List.mem_filter.mpr ⟨List.mem_append_right _ (List.mem_of_getElem? (i := 614) (by decide +kernel)), rfl⟩
theorem xw_615 : Jvm.Cond.instanceMethod ({ cls := "OnceLettersModel", name := "opens", desc := "(II)I" } : Jvm.MethodName) ∈ xT := List.mem_filter.mpr ⟨List.mem_append_right _ (List.mem_of_getElem? (i := 615) (by decide +kernel)), rfl⟩
theorem xw_616 : Jvm.Cond.selects "OnceLettersModel" ({ cls := "OnceLettersModel", name := "opens", desc := "(II)I" } : Jvm.MethodName) ({ cls := "OnceLettersModel", name := "opens", desc := "(II)I" } : Jvm.MethodName) ∈ xT := List.mem_filter.mpr ⟨List.mem_append_right _ (List.mem_of_getElem? (i := 616) (by decide +kernel)), rfl⟩
theorem xw_617 : Jvm.Cond.code ({ cls := "OnceLettersModel", name := "opens", desc := "(II)I" } : Jvm.MethodName) prog_8_method_38_code (4 : Nat) (Option.some Jvm.ClassFile.FieldType.int) ∈ xT := List.mem_filter.mpr ⟨List.mem_append_right _ (List.mem_of_getElem? (i := 617) (by decide +kernel)), rfl⟩
theorem xw_618 : Jvm.Cond.methodLink "OnceLettersModel" (118 : Nat) ({ cls := "OnceLettersModel", name := "isAge", desc := "(II)Z" } : Jvm.MethodName) ∈ xT := List.mem_filter.mpr ⟨List.mem_append_right _ (List.mem_of_getElem? (i := 618) (by decide +kernel)), rfl⟩
theorem xw_620 : Jvm.Cond.instanceMethod ({ cls := "OnceLettersModel", name := "isAge", desc := "(II)Z" } : Jvm.MethodName) ∈ xT := List.mem_filter.mpr ⟨List.mem_append_right _ (List.mem_of_getElem? (i := 620) (by decide +kernel)), rfl⟩
theorem xw_621 : Jvm.Cond.code ({ cls := "OnceLettersModel", name := "isAge", desc := "(II)Z" } : Jvm.MethodName) prog_8_method_37_code (3 : Nat) (Option.some Jvm.ClassFile.FieldType.boolean) ∈ xT := List.mem_filter.mpr ⟨List.mem_append_right _ (List.mem_of_getElem? (i := 621) (by decide +kernel)), rfl⟩
theorem xw_622 : Jvm.Cond.methodLink "OnceLettersModel" (121 : Nat) ({ cls := "OnceLettersModel", name := "manyAre", desc := "(I)I" } : Jvm.MethodName) ∈ xT := List.mem_filter.mpr ⟨List.mem_append_right _ (List.mem_of_getElem? (i := 622) (by decide +kernel)), rfl⟩
theorem xw_624 : Jvm.Cond.instanceMethod ({ cls := "OnceLettersModel", name := "manyAre", desc := "(I)I" } : Jvm.MethodName) ∈ xT := List.mem_filter.mpr ⟨List.mem_append_right _ (List.mem_of_getElem? (i := 624) (by decide +kernel)), rfl⟩
theorem xw_625 : Jvm.Cond.code ({ cls := "OnceLettersModel", name := "manyAre", desc := "(I)I" } : Jvm.MethodName) prog_8_method_19_code (4 : Nat) (Option.some Jvm.ClassFile.FieldType.int) ∈ xT := List.mem_filter.mpr ⟨List.mem_append_right _ (List.mem_of_getElem? (i := 625) (by decide +kernel)), rfl⟩
theorem xw_626 : Jvm.Cond.methodLink "OnceLettersLaw" (27 : Nat) ({ cls := "OnceLettersModel", name := "sends", desc := "(IIIII)I" } : Jvm.MethodName) ∈ xT := List.mem_filter.mpr ⟨List.mem_append_right _ (List.mem_of_getElem? (i := 626) (by decide +kernel)), rfl⟩
theorem xw_627 : Jvm.Cond.instanceMethod ({ cls := "OnceLettersModel", name := "sends", desc := "(IIIII)I" } : Jvm.MethodName) ∈ xT := List.mem_filter.mpr ⟨List.mem_append_right _ (List.mem_of_getElem? (i := 627) (by decide +kernel)), rfl⟩
theorem xw_628 : Jvm.Cond.selects "OnceLettersModel" ({ cls := "OnceLettersModel", name := "sends", desc := "(IIIII)I" } : Jvm.MethodName) ({ cls := "OnceLettersModel", name := "sends", desc := "(IIIII)I" } : Jvm.MethodName) ∈ xT := List.mem_filter.mpr ⟨List.mem_append_right _ (List.mem_of_getElem? (i := 628) (by decide +kernel)), rfl⟩
theorem xw_629 : Jvm.Cond.code ({ cls := "OnceLettersModel", name := "sends", desc := "(IIIII)I" } : Jvm.MethodName) prog_8_method_40_code (7 : Nat) (Option.some Jvm.ClassFile.FieldType.int) ∈ xT := List.mem_filter.mpr ⟨List.mem_append_right _ (List.mem_of_getElem? (i := 629) (by decide +kernel)), rfl⟩
theorem xw_630 : Jvm.Cond.methodLink "OnceLettersModel" (124 : Nat) ({ cls := "OnceLettersModel", name := "isPart", desc := "(I)Z" } : Jvm.MethodName) ∈ xT := List.mem_filter.mpr ⟨List.mem_append_right _ (List.mem_of_getElem? (i := 630) (by decide +kernel)), rfl⟩
theorem xw_631 : Jvm.Cond.static ({ cls := "OnceLettersModel", name := "isPart", desc := "(I)Z" } : Jvm.MethodName) ∈ xT := List.mem_filter.mpr ⟨List.mem_append_right _ (List.mem_of_getElem? (i := 631) (by decide +kernel)), rfl⟩
theorem xw_632 : Jvm.Cond.code ({ cls := "OnceLettersModel", name := "isPart", desc := "(I)Z" } : Jvm.MethodName) prog_8_method_9_code (1 : Nat) (Option.some Jvm.ClassFile.FieldType.boolean) ∈ xT := List.mem_filter.mpr ⟨List.mem_append_right _ (List.mem_of_getElem? (i := 632) (by decide +kernel)), rfl⟩
theorem xw_633 : Jvm.Cond.methodLink "OnceLettersModel" (127 : Nat) ({ cls := "OnceLettersModel", name := "twinOf", desc := "(III)I" } : Jvm.MethodName) ∈ xT := List.mem_filter.mpr ⟨List.mem_append_right _ (List.mem_of_getElem? (i := 633) (by decide +kernel)), rfl⟩
theorem xw_635 : Jvm.Cond.instanceMethod ({ cls := "OnceLettersModel", name := "twinOf", desc := "(III)I" } : Jvm.MethodName) ∈ xT := List.mem_filter.mpr ⟨List.mem_append_right _ (List.mem_of_getElem? (i := 635) (by decide +kernel)), rfl⟩
theorem xw_636 : Jvm.Cond.code ({ cls := "OnceLettersModel", name := "twinOf", desc := "(III)I" } : Jvm.MethodName) prog_8_method_28_code (6 : Nat) (Option.some Jvm.ClassFile.FieldType.int) ∈ xT := List.mem_filter.mpr ⟨List.mem_append_right _ (List.mem_of_getElem? (i := 636) (by decide +kernel)), rfl⟩
theorem xw_637 : Jvm.Cond.methodLink "OnceLettersModel" (70 : Nat) ({ cls := "OnceLettersModel", name := "sizeOf", desc := "(I)I" } : Jvm.MethodName) ∈ xT := List.mem_filter.mpr ⟨List.mem_append_right _ (List.mem_of_getElem? (i := 637) (by decide +kernel)), rfl⟩
theorem xw_639 : Jvm.Cond.instanceMethod ({ cls := "OnceLettersModel", name := "sizeOf", desc := "(I)I" } : Jvm.MethodName) ∈ xT := List.mem_filter.mpr ⟨List.mem_append_right _ (List.mem_of_getElem? (i := 639) (by decide +kernel)), rfl⟩
theorem xw_640 : Jvm.Cond.code ({ cls := "OnceLettersModel", name := "sizeOf", desc := "(I)I" } : Jvm.MethodName) prog_8_method_16_code (2 : Nat) (Option.some Jvm.ClassFile.FieldType.int) ∈ xT := List.mem_filter.mpr ⟨List.mem_append_right _ (List.mem_of_getElem? (i := 640) (by decide +kernel)), rfl⟩
theorem xw_641 : Jvm.Cond.methodLink "OnceLettersModel" (83 : Nat) ({ cls := "OnceLettersModel", name := "isRecent", desc := "(III)Z" } : Jvm.MethodName) ∈ xT := List.mem_filter.mpr ⟨List.mem_append_right _ (List.mem_of_getElem? (i := 641) (by decide +kernel)), rfl⟩
theorem xw_643 : Jvm.Cond.instanceMethod ({ cls := "OnceLettersModel", name := "isRecent", desc := "(III)Z" } : Jvm.MethodName) ∈ xT := List.mem_filter.mpr ⟨List.mem_append_right _ (List.mem_of_getElem? (i := 643) (by decide +kernel)), rfl⟩
theorem xw_644 : Jvm.Cond.code ({ cls := "OnceLettersModel", name := "isRecent", desc := "(III)Z" } : Jvm.MethodName) prog_8_method_27_code (4 : Nat) (Option.some Jvm.ClassFile.FieldType.boolean) ∈ xT := List.mem_filter.mpr ⟨List.mem_append_right _ (List.mem_of_getElem? (i := 644) (by decide +kernel)), rfl⟩
theorem xw_645 : Jvm.Cond.methodLink "OnceLettersModel" (73 : Nat) ({ cls := "OnceLettersModel", name := "cellOf", desc := "(III)I" } : Jvm.MethodName) ∈ xT := List.mem_filter.mpr ⟨List.mem_append_right _ (List.mem_of_getElem? (i := 645) (by decide +kernel)), rfl⟩
theorem xw_647 : Jvm.Cond.instanceMethod ({ cls := "OnceLettersModel", name := "cellOf", desc := "(III)I" } : Jvm.MethodName) ∈ xT := List.mem_filter.mpr ⟨List.mem_append_right _ (List.mem_of_getElem? (i := 647) (by decide +kernel)), rfl⟩
theorem xw_648 : Jvm.Cond.code ({ cls := "OnceLettersModel", name := "cellOf", desc := "(III)I" } : Jvm.MethodName) prog_8_method_17_code (4 : Nat) (Option.some Jvm.ClassFile.FieldType.int) ∈ xT := List.mem_filter.mpr ⟨List.mem_append_right _ (List.mem_of_getElem? (i := 648) (by decide +kernel)), rfl⟩
theorem xw_649 : Jvm.Cond.methodLink "OnceLettersModel" (130 : Nat) ({ cls := "OnceLettersModel", name := "dueOf", desc := "(II)I" } : Jvm.MethodName) ∈ xT := List.mem_filter.mpr ⟨List.mem_append_right _ (List.mem_of_getElem? (i := 649) (by decide +kernel)), rfl⟩
theorem xw_651 : Jvm.Cond.instanceMethod ({ cls := "OnceLettersModel", name := "dueOf", desc := "(II)I" } : Jvm.MethodName) ∈ xT := List.mem_filter.mpr ⟨List.mem_append_right _ (List.mem_of_getElem? (i := 651) (by decide +kernel)), rfl⟩
theorem xw_652 : Jvm.Cond.code ({ cls := "OnceLettersModel", name := "dueOf", desc := "(II)I" } : Jvm.MethodName) prog_8_method_29_code (4 : Nat) (Option.some Jvm.ClassFile.FieldType.int) ∈ xT := List.mem_filter.mpr ⟨List.mem_append_right _ (List.mem_of_getElem? (i := 652) (by decide +kernel)), rfl⟩
theorem xw_653 : Jvm.Cond.methodLink "OnceLettersModel" (133 : Nat) ({ cls := "OnceLettersModel", name := "owed", desc := "(I)I" } : Jvm.MethodName) ∈ xT := List.mem_filter.mpr ⟨List.mem_append_right _ (List.mem_of_getElem? (i := 653) (by decide +kernel)), rfl⟩
theorem xw_655 : Jvm.Cond.instanceMethod ({ cls := "OnceLettersModel", name := "owed", desc := "(I)I" } : Jvm.MethodName) ∈ xT := List.mem_filter.mpr ⟨List.mem_append_right _ (List.mem_of_getElem? (i := 655) (by decide +kernel)), rfl⟩
theorem xw_656 : Jvm.Cond.code ({ cls := "OnceLettersModel", name := "owed", desc := "(I)I" } : Jvm.MethodName) prog_8_method_21_code (4 : Nat) (Option.some Jvm.ClassFile.FieldType.int) ∈ xT := List.mem_filter.mpr ⟨List.mem_append_right _ (List.mem_of_getElem? (i := 656) (by decide +kernel)), rfl⟩
theorem xw_657 : Jvm.Cond.methodLink "OnceLettersModel" (63 : Nat) ({ cls := "OnceLettersModel", name := "lacksMark", desc := "(II)Z" } : Jvm.MethodName) ∈ xT := List.mem_filter.mpr ⟨List.mem_append_right _ (List.mem_of_getElem? (i := 657) (by decide +kernel)), rfl⟩
theorem xw_659 : Jvm.Cond.instanceMethod ({ cls := "OnceLettersModel", name := "lacksMark", desc := "(II)Z" } : Jvm.MethodName) ∈ xT := List.mem_filter.mpr ⟨List.mem_append_right _ (List.mem_of_getElem? (i := 659) (by decide +kernel)), rfl⟩
theorem xw_660 : Jvm.Cond.code ({ cls := "OnceLettersModel", name := "lacksMark", desc := "(II)Z" } : Jvm.MethodName) prog_8_method_20_code (3 : Nat) (Option.some Jvm.ClassFile.FieldType.boolean) ∈ xT := List.mem_filter.mpr ⟨List.mem_append_right _ (List.mem_of_getElem? (i := 660) (by decide +kernel)), rfl⟩
theorem xw_661 : Jvm.Cond.methodLink "OnceLettersModel" (59 : Nat) ({ cls := "OnceLettersModel", name := "has", desc := "(II)Z" } : Jvm.MethodName) ∈ xT := List.mem_filter.mpr ⟨List.mem_append_right _ (List.mem_of_getElem? (i := 661) (by decide +kernel)), rfl⟩
theorem xw_662 : Jvm.Cond.static ({ cls := "OnceLettersModel", name := "has", desc := "(II)Z" } : Jvm.MethodName) ∈ xT := List.mem_filter.mpr ⟨List.mem_append_right _ (List.mem_of_getElem? (i := 662) (by decide +kernel)), rfl⟩
theorem xw_663 : Jvm.Cond.code ({ cls := "OnceLettersModel", name := "has", desc := "(II)Z" } : Jvm.MethodName) prog_8_method_4_code (2 : Nat) (Option.some Jvm.ClassFile.FieldType.boolean) ∈ xT := List.mem_filter.mpr ⟨List.mem_append_right _ (List.mem_of_getElem? (i := 663) (by decide +kernel)), rfl⟩
theorem xw_664 : Jvm.Cond.methodLink "OnceLettersModel" (136 : Nat) ({ cls := "OnceLettersModel", name := "writes", desc := "(IIII)I" } : Jvm.MethodName) ∈ xT := List.mem_filter.mpr ⟨List.mem_append_right _ (List.mem_of_getElem? (i := 664) (by decide +kernel)), rfl⟩
theorem xw_666 : Jvm.Cond.instanceMethod ({ cls := "OnceLettersModel", name := "writes", desc := "(IIII)I" } : Jvm.MethodName) ∈ xT := List.mem_filter.mpr ⟨List.mem_append_right _ (List.mem_of_getElem? (i := 666) (by decide +kernel)), rfl⟩
theorem xw_667 : Jvm.Cond.code ({ cls := "OnceLettersModel", name := "writes", desc := "(IIII)I" } : Jvm.MethodName) prog_8_method_39_code (7 : Nat) (Option.some Jvm.ClassFile.FieldType.int) ∈ xT := List.mem_filter.mpr ⟨List.mem_append_right _ (List.mem_of_getElem? (i := 667) (by decide +kernel)), rfl⟩
theorem xw_668 : Jvm.Cond.methodLink "OnceLettersModel" (93 : Nat) ({ cls := "OnceLettersModel", name := "put", desc := "(IIII)V" } : Jvm.MethodName) ∈ xT := List.mem_filter.mpr ⟨List.mem_append_right _ (List.mem_of_getElem? (i := 668) (by decide +kernel)), rfl⟩
theorem xw_670 : Jvm.Cond.instanceMethod ({ cls := "OnceLettersModel", name := "put", desc := "(IIII)V" } : Jvm.MethodName) ∈ xT := List.mem_filter.mpr ⟨List.mem_append_right _ (List.mem_of_getElem? (i := 670) (by decide +kernel)), rfl⟩
theorem xw_671 : Jvm.Cond.code ({ cls := "OnceLettersModel", name := "put", desc := "(IIII)V" } : Jvm.MethodName) prog_8_method_18_code (5 : Nat) (Option.none : Option Jvm.ClassFile.FieldType) ∈ xT := List.mem_filter.mpr ⟨List.mem_append_right _ (List.mem_of_getElem? (i := 671) (by decide +kernel)), rfl⟩
theorem xw_672 : Jvm.Cond.methodLink "OnceLettersLaw" (32 : Nat) ({ cls := "OnceLettersModel", name := "ends", desc := "(III)I" } : Jvm.MethodName) ∈ xT := List.mem_filter.mpr ⟨List.mem_append_right _ (List.mem_of_getElem? (i := 672) (by decide +kernel)), rfl⟩
theorem xw_673 : Jvm.Cond.instanceMethod ({ cls := "OnceLettersModel", name := "ends", desc := "(III)I" } : Jvm.MethodName) ∈ xT := List.mem_filter.mpr ⟨List.mem_append_right _ (List.mem_of_getElem? (i := 673) (by decide +kernel)), rfl⟩
theorem xw_674 : Jvm.Cond.selects "OnceLettersModel" ({ cls := "OnceLettersModel", name := "ends", desc := "(III)I" } : Jvm.MethodName) ({ cls := "OnceLettersModel", name := "ends", desc := "(III)I" } : Jvm.MethodName) ∈ xT := List.mem_filter.mpr ⟨List.mem_append_right _ (List.mem_of_getElem? (i := 674) (by decide +kernel)), rfl⟩
theorem xw_675 : Jvm.Cond.code ({ cls := "OnceLettersModel", name := "ends", desc := "(III)I" } : Jvm.MethodName) prog_8_method_41_code (5 : Nat) (Option.some Jvm.ClassFile.FieldType.int) ∈ xT := List.mem_filter.mpr ⟨List.mem_append_right _ (List.mem_of_getElem? (i := 675) (by decide +kernel)), rfl⟩
theorem xw_676 : Jvm.Cond.methodLink "OnceLettersModel" (140 : Nat) ({ cls := "OnceLettersModel", name := "bits", desc := "(I)I" } : Jvm.MethodName) ∈ xT := List.mem_filter.mpr ⟨List.mem_append_right _ (List.mem_of_getElem? (i := 676) (by decide +kernel)), rfl⟩
theorem xw_677 : Jvm.Cond.static ({ cls := "OnceLettersModel", name := "bits", desc := "(I)I" } : Jvm.MethodName) ∈ xT := List.mem_filter.mpr ⟨List.mem_append_right _ (List.mem_of_getElem? (i := 677) (by decide +kernel)), rfl⟩
theorem xw_678 : Jvm.Cond.code ({ cls := "OnceLettersModel", name := "bits", desc := "(I)I" } : Jvm.MethodName) prog_8_method_5_code (3 : Nat) (Option.some Jvm.ClassFile.FieldType.int) ∈ xT := List.mem_filter.mpr ⟨List.mem_append_right _ (List.mem_of_getElem? (i := 678) (by decide +kernel)), rfl⟩
theorem xw_679 : Jvm.Cond.methodLink "OnceLettersLaw" (37 : Nat) ({ cls := "OnceLettersModel", name := "carries", desc := "(IIII)I" } : Jvm.MethodName) ∈ xT := List.mem_filter.mpr ⟨List.mem_append_right _ (List.mem_of_getElem? (i := 679) (by decide +kernel)), rfl⟩
theorem xw_680 : Jvm.Cond.instanceMethod ({ cls := "OnceLettersModel", name := "carries", desc := "(IIII)I" } : Jvm.MethodName) ∈ xT := List.mem_filter.mpr ⟨List.mem_append_right _ (List.mem_of_getElem? (i := 680) (by decide +kernel)), rfl⟩
theorem xw_681 : Jvm.Cond.selects "OnceLettersModel" ({ cls := "OnceLettersModel", name := "carries", desc := "(IIII)I" } : Jvm.MethodName) ({ cls := "OnceLettersModel", name := "carries", desc := "(IIII)I" } : Jvm.MethodName) ∈ xT := List.mem_filter.mpr ⟨List.mem_append_right _ (List.mem_of_getElem? (i := 681) (by decide +kernel)), rfl⟩
theorem xw_682 : Jvm.Cond.code ({ cls := "OnceLettersModel", name := "carries", desc := "(IIII)I" } : Jvm.MethodName) prog_8_method_42_code (6 : Nat) (Option.some Jvm.ClassFile.FieldType.int) ∈ xT := List.mem_filter.mpr ⟨List.mem_append_right _ (List.mem_of_getElem? (i := 682) (by decide +kernel)), rfl⟩
theorem xw_683 : Jvm.Cond.methodLink "OnceLettersModel" (143 : Nat) ({ cls := "OnceLettersModel", name := "isReader", desc := "(I)Z" } : Jvm.MethodName) ∈ xT := List.mem_filter.mpr ⟨List.mem_append_right _ (List.mem_of_getElem? (i := 683) (by decide +kernel)), rfl⟩
theorem xw_684 : Jvm.Cond.static ({ cls := "OnceLettersModel", name := "isReader", desc := "(I)Z" } : Jvm.MethodName) ∈ xT := List.mem_filter.mpr ⟨List.mem_append_right _ (List.mem_of_getElem? (i := 684) (by decide +kernel)), rfl⟩
theorem xw_685 : Jvm.Cond.code ({ cls := "OnceLettersModel", name := "isReader", desc := "(I)Z" } : Jvm.MethodName) prog_8_method_10_code (1 : Nat) (Option.some Jvm.ClassFile.FieldType.boolean) ∈ xT := List.mem_filter.mpr ⟨List.mem_append_right _ (List.mem_of_getElem? (i := 685) (by decide +kernel)), rfl⟩
theorem xw_686 : Jvm.Cond.methodLink "OnceLettersLaw" (41 : Nat) ({ cls := "OnceLettersModel", name := "ticks", desc := "(I)I" } : Jvm.MethodName) ∈ xT := List.mem_filter.mpr ⟨List.mem_append_right _ (List.mem_of_getElem? (i := 686) (by decide +kernel)), rfl⟩
theorem xw_687 : Jvm.Cond.instanceMethod ({ cls := "OnceLettersModel", name := "ticks", desc := "(I)I" } : Jvm.MethodName) ∈ xT := List.mem_filter.mpr ⟨List.mem_append_right _ (List.mem_of_getElem? (i := 687) (by decide +kernel)), rfl⟩
theorem xw_688 : Jvm.Cond.selects "OnceLettersModel" ({ cls := "OnceLettersModel", name := "ticks", desc := "(I)I" } : Jvm.MethodName) ({ cls := "OnceLettersModel", name := "ticks", desc := "(I)I" } : Jvm.MethodName) ∈ xT := List.mem_filter.mpr ⟨List.mem_append_right _ (List.mem_of_getElem? (i := 688) (by decide +kernel)), rfl⟩
theorem xw_689 : Jvm.Cond.code ({ cls := "OnceLettersModel", name := "ticks", desc := "(I)I" } : Jvm.MethodName) prog_8_method_43_code (4 : Nat) (Option.some Jvm.ClassFile.FieldType.int) ∈ xT := List.mem_filter.mpr ⟨List.mem_append_right _ (List.mem_of_getElem? (i := 689) (by decide +kernel)), rfl⟩
theorem xw_690 : Jvm.Cond.methodLink "OnceLettersModel" (146 : Nat) ({ cls := "OnceLettersModel", name := "tick", desc := "()I" } : Jvm.MethodName) ∈ xT := List.mem_filter.mpr ⟨List.mem_append_right _ (List.mem_of_getElem? (i := 690) (by decide +kernel)), rfl⟩
theorem xw_692 : Jvm.Cond.instanceMethod ({ cls := "OnceLettersModel", name := "tick", desc := "()I" } : Jvm.MethodName) ∈ xT := List.mem_filter.mpr ⟨List.mem_append_right _ (List.mem_of_getElem? (i := 692) (by decide +kernel)), rfl⟩
theorem xw_693 : Jvm.Cond.code ({ cls := "OnceLettersModel", name := "tick", desc := "()I" } : Jvm.MethodName) prog_8_method_35_code (4 : Nat) (Option.some Jvm.ClassFile.FieldType.int) ∈ xT := List.mem_filter.mpr ⟨List.mem_append_right _ (List.mem_of_getElem? (i := 693) (by decide +kernel)), rfl⟩
theorem xw_694 : Jvm.Cond.methodLink "OnceLettersModel" (97 : Nat) ({ cls := "OnceLettersModel", name := "isDue", desc := "(II)Z" } : Jvm.MethodName) ∈ xT := List.mem_filter.mpr ⟨List.mem_append_right _ (List.mem_of_getElem? (i := 694) (by decide +kernel)), rfl⟩
theorem xw_696 : Jvm.Cond.instanceMethod ({ cls := "OnceLettersModel", name := "isDue", desc := "(II)Z" } : Jvm.MethodName) ∈ xT := List.mem_filter.mpr ⟨List.mem_append_right _ (List.mem_of_getElem? (i := 696) (by decide +kernel)), rfl⟩
theorem xw_697 : Jvm.Cond.code ({ cls := "OnceLettersModel", name := "isDue", desc := "(II)Z" } : Jvm.MethodName) prog_8_method_33_code (3 : Nat) (Option.some Jvm.ClassFile.FieldType.boolean) ∈ xT := List.mem_filter.mpr ⟨List.mem_append_right _ (List.mem_of_getElem? (i := 697) (by decide +kernel)), rfl⟩
theorem xw_698 : Jvm.Cond.methodLink "OnceLettersModel" (90 : Nat) ({ cls := "OnceLettersModel", name := "rank", desc := "(II)I" } : Jvm.MethodName) ∈ xT := List.mem_filter.mpr ⟨List.mem_append_right _ (List.mem_of_getElem? (i := 698) (by decide +kernel)), rfl⟩
theorem xw_700 : Jvm.Cond.instanceMethod ({ cls := "OnceLettersModel", name := "rank", desc := "(II)I" } : Jvm.MethodName) ∈ xT := List.mem_filter.mpr ⟨List.mem_append_right _ (List.mem_of_getElem? (i := 700) (by decide +kernel)), rfl⟩
theorem xw_701 : Jvm.Cond.code ({ cls := "OnceLettersModel", name := "rank", desc := "(II)I" } : Jvm.MethodName) prog_8_method_32_code (5 : Nat) (Option.some Jvm.ClassFile.FieldType.int) ∈ xT := List.mem_filter.mpr ⟨List.mem_append_right _ (List.mem_of_getElem? (i := 701) (by decide +kernel)), rfl⟩
theorem xw_702 : Jvm.Cond.methodLink "OnceLettersModel" (100 : Nat) ({ cls := "OnceLettersModel", name := "writeMark", desc := "(II)V" } : Jvm.MethodName) ∈ xT := List.mem_filter.mpr ⟨List.mem_append_right _ (List.mem_of_getElem? (i := 702) (by decide +kernel)), rfl⟩
theorem xw_704 : Jvm.Cond.instanceMethod ({ cls := "OnceLettersModel", name := "writeMark", desc := "(II)V" } : Jvm.MethodName) ∈ xT := List.mem_filter.mpr ⟨List.mem_append_right _ (List.mem_of_getElem? (i := 704) (by decide +kernel)), rfl⟩
theorem xw_705 : Jvm.Cond.code ({ cls := "OnceLettersModel", name := "writeMark", desc := "(II)V" } : Jvm.MethodName) prog_8_method_34_code (6 : Nat) (Option.none : Option Jvm.ClassFile.FieldType) ∈ xT := List.mem_filter.mpr ⟨List.mem_append_right _ (List.mem_of_getElem? (i := 705) (by decide +kernel)), rfl⟩
theorem xw_706 : Jvm.Cond.methodLink "OnceLettersLaw" (45 : Nat) ({ cls := "OnceLettersModel", name := "limit", desc := "(I)I" } : Jvm.MethodName) ∈ xT := List.mem_filter.mpr ⟨List.mem_append_right _ (List.mem_of_getElem? (i := 706) (by decide +kernel)), rfl⟩
theorem xw_707 : Jvm.Cond.instanceMethod ({ cls := "OnceLettersModel", name := "limit", desc := "(I)I" } : Jvm.MethodName) ∈ xT := List.mem_filter.mpr ⟨List.mem_append_right _ (List.mem_of_getElem? (i := 707) (by decide +kernel)), rfl⟩
theorem xw_708 : Jvm.Cond.selects "OnceLettersModel" ({ cls := "OnceLettersModel", name := "limit", desc := "(I)I" } : Jvm.MethodName) ({ cls := "OnceLettersModel", name := "limit", desc := "(I)I" } : Jvm.MethodName) ∈ xT := List.mem_filter.mpr ⟨List.mem_append_right _ (List.mem_of_getElem? (i := 708) (by decide +kernel)), rfl⟩
theorem xw_709 : Jvm.Cond.code ({ cls := "OnceLettersModel", name := "limit", desc := "(I)I" } : Jvm.MethodName) prog_8_method_44_code (3 : Nat) (Option.some Jvm.ClassFile.FieldType.int) ∈ xT := List.mem_filter.mpr ⟨List.mem_append_right _ (List.mem_of_getElem? (i := 709) (by decide +kernel)), rfl⟩
theorem xw_710 : Jvm.Cond.methodLink "OnceLettersLaw" (49 : Nat) ({ cls := "OnceLettersModel", name := "writer", desc := "(II)I" } : Jvm.MethodName) ∈ xT := List.mem_filter.mpr ⟨List.mem_append_right _ (List.mem_of_getElem? (i := 710) (by decide +kernel)), rfl⟩
theorem xw_711 : Jvm.Cond.instanceMethod ({ cls := "OnceLettersModel", name := "writer", desc := "(II)I" } : Jvm.MethodName) ∈ xT := List.mem_filter.mpr ⟨List.mem_append_right _ (List.mem_of_getElem? (i := 711) (by decide +kernel)), rfl⟩
theorem xw_712 : Jvm.Cond.selects "OnceLettersModel" ({ cls := "OnceLettersModel", name := "writer", desc := "(II)I" } : Jvm.MethodName) ({ cls := "OnceLettersModel", name := "writer", desc := "(II)I" } : Jvm.MethodName) ∈ xT := List.mem_filter.mpr ⟨List.mem_append_right _ (List.mem_of_getElem? (i := 712) (by decide +kernel)), rfl⟩
theorem xw_713 : Jvm.Cond.code ({ cls := "OnceLettersModel", name := "writer", desc := "(II)I" } : Jvm.MethodName) prog_8_method_47_code (3 : Nat) (Option.some Jvm.ClassFile.FieldType.int) ∈ xT := List.mem_filter.mpr ⟨List.mem_append_right _ (List.mem_of_getElem? (i := 713) (by decide +kernel)), rfl⟩
theorem xw_714 : Jvm.Cond.methodLink "OnceLettersModel" (152 : Nat) ({ cls := "OnceLettersModel", name := "tellWriter", desc := "(II)I" } : Jvm.MethodName) ∈ xT := List.mem_filter.mpr ⟨List.mem_append_right _ (List.mem_of_getElem? (i := 714) (by decide +kernel)), rfl⟩
theorem xw_716 : Jvm.Cond.instanceMethod ({ cls := "OnceLettersModel", name := "tellWriter", desc := "(II)I" } : Jvm.MethodName) ∈ xT := List.mem_filter.mpr ⟨List.mem_append_right _ (List.mem_of_getElem? (i := 716) (by decide +kernel)), rfl⟩
theorem xw_717 : Jvm.Cond.code ({ cls := "OnceLettersModel", name := "tellWriter", desc := "(II)I" } : Jvm.MethodName) prog_8_method_46_code (3 : Nat) (Option.some Jvm.ClassFile.FieldType.int) ∈ xT := List.mem_filter.mpr ⟨List.mem_append_right _ (List.mem_of_getElem? (i := 717) (by decide +kernel)), rfl⟩
theorem xw_718 : Jvm.Cond.methodLink "OnceLettersModel" (149 : Nat) ({ cls := "OnceLettersModel", name := "toCome", desc := "(I)I" } : Jvm.MethodName) ∈ xT := List.mem_filter.mpr ⟨List.mem_append_right _ (List.mem_of_getElem? (i := 718) (by decide +kernel)), rfl⟩
theorem xw_720 : Jvm.Cond.instanceMethod ({ cls := "OnceLettersModel", name := "toCome", desc := "(I)I" } : Jvm.MethodName) ∈ xT := List.mem_filter.mpr ⟨List.mem_append_right _ (List.mem_of_getElem? (i := 720) (by decide +kernel)), rfl⟩
theorem xw_721 : Jvm.Cond.code ({ cls := "OnceLettersModel", name := "toCome", desc := "(I)I" } : Jvm.MethodName) prog_8_method_45_code (2 : Nat) (Option.some Jvm.ClassFile.FieldType.int) ∈ xT := List.mem_filter.mpr ⟨List.mem_append_right _ (List.mem_of_getElem? (i := 721) (by decide +kernel)), rfl⟩
theorem xw_722 : Jvm.Cond.methodLink "OnceLettersLaw" (53 : Nat) ({ cls := "OnceLettersModel", name := "entry", desc := "(III)I" } : Jvm.MethodName) ∈ xT := List.mem_filter.mpr ⟨List.mem_append_right _ (List.mem_of_getElem? (i := 722) (by decide +kernel)), rfl⟩
theorem xw_723 : Jvm.Cond.instanceMethod ({ cls := "OnceLettersModel", name := "entry", desc := "(III)I" } : Jvm.MethodName) ∈ xT := List.mem_filter.mpr ⟨List.mem_append_right _ (List.mem_of_getElem? (i := 723) (by decide +kernel)), rfl⟩
theorem xw_724 : Jvm.Cond.selects "OnceLettersModel" ({ cls := "OnceLettersModel", name := "entry", desc := "(III)I" } : Jvm.MethodName) ({ cls := "OnceLettersModel", name := "entry", desc := "(III)I" } : Jvm.MethodName) ∈ xT := List.mem_filter.mpr ⟨List.mem_append_right _ (List.mem_of_getElem? (i := 724) (by decide +kernel)), rfl⟩
theorem xw_725 : Jvm.Cond.code ({ cls := "OnceLettersModel", name := "entry", desc := "(III)I" } : Jvm.MethodName) prog_8_method_49_code (4 : Nat) (Option.some Jvm.ClassFile.FieldType.int) ∈ xT := List.mem_filter.mpr ⟨List.mem_append_right _ (List.mem_of_getElem? (i := 725) (by decide +kernel)), rfl⟩
theorem xw_726 : Jvm.Cond.methodLink "OnceLettersModel" (155 : Nat) ({ cls := "OnceLettersModel", name := "tellEntry", desc := "(III)I" } : Jvm.MethodName) ∈ xT := List.mem_filter.mpr ⟨List.mem_append_right _ (List.mem_of_getElem? (i := 726) (by decide +kernel)), rfl⟩
theorem xw_728 : Jvm.Cond.instanceMethod ({ cls := "OnceLettersModel", name := "tellEntry", desc := "(III)I" } : Jvm.MethodName) ∈ xT := List.mem_filter.mpr ⟨List.mem_append_right _ (List.mem_of_getElem? (i := 728) (by decide +kernel)), rfl⟩
theorem xw_729 : Jvm.Cond.code ({ cls := "OnceLettersModel", name := "tellEntry", desc := "(III)I" } : Jvm.MethodName) prog_8_method_48_code (5 : Nat) (Option.some Jvm.ClassFile.FieldType.int) ∈ xT := List.mem_filter.mpr ⟨List.mem_append_right _ (List.mem_of_getElem? (i := 729) (by decide +kernel)), rfl⟩
theorem xw_730 : Jvm.Cond.methodLink "OnceLettersModel" (77 : Nat) ({ cls := "OnceLettersModel", name := "stable", desc := "(I)I" } : Jvm.MethodName) ∈ xT := List.mem_filter.mpr ⟨List.mem_append_right _ (List.mem_of_getElem? (i := 730) (by decide +kernel)), rfl⟩
theorem xw_732 : Jvm.Cond.instanceMethod ({ cls := "OnceLettersModel", name := "stable", desc := "(I)I" } : Jvm.MethodName) ∈ xT := List.mem_filter.mpr ⟨List.mem_append_right _ (List.mem_of_getElem? (i := 732) (by decide +kernel)), rfl⟩
theorem xw_733 : Jvm.Cond.code ({ cls := "OnceLettersModel", name := "stable", desc := "(I)I" } : Jvm.MethodName) prog_8_method_23_code (3 : Nat) (Option.some Jvm.ClassFile.FieldType.int) ∈ xT := List.mem_filter.mpr ⟨List.mem_append_right _ (List.mem_of_getElem? (i := 733) (by decide +kernel)), rfl⟩
theorem xw_734 : Jvm.Cond.methodLink "OnceLettersModel" (66 : Nat) ({ cls := "OnceLettersModel", name := "holder", desc := "(I)I" } : Jvm.MethodName) ∈ xT := List.mem_filter.mpr ⟨List.mem_append_right _ (List.mem_of_getElem? (i := 734) (by decide +kernel)), rfl⟩
theorem xw_736 : Jvm.Cond.instanceMethod ({ cls := "OnceLettersModel", name := "holder", desc := "(I)I" } : Jvm.MethodName) ∈ xT := List.mem_filter.mpr ⟨List.mem_append_right _ (List.mem_of_getElem? (i := 736) (by decide +kernel)), rfl⟩
theorem xw_737 : Jvm.Cond.code ({ cls := "OnceLettersModel", name := "holder", desc := "(I)I" } : Jvm.MethodName) prog_8_method_22_code (5 : Nat) (Option.some Jvm.ClassFile.FieldType.int) ∈ xT := List.mem_filter.mpr ⟨List.mem_append_right _ (List.mem_of_getElem? (i := 737) (by decide +kernel)), rfl⟩
theorem xw_738 : Jvm.Cond.methodLink "OnceLettersModel" (80 : Nat) ({ cls := "OnceLettersModel", name := "isSeen", desc := "(III)Z" } : Jvm.MethodName) ∈ xT := List.mem_filter.mpr ⟨List.mem_append_right _ (List.mem_of_getElem? (i := 738) (by decide +kernel)), rfl⟩
theorem xw_740 : Jvm.Cond.instanceMethod ({ cls := "OnceLettersModel", name := "isSeen", desc := "(III)Z" } : Jvm.MethodName) ∈ xT := List.mem_filter.mpr ⟨List.mem_append_right _ (List.mem_of_getElem? (i := 740) (by decide +kernel)), rfl⟩
theorem xw_741 : Jvm.Cond.code ({ cls := "OnceLettersModel", name := "isSeen", desc := "(III)Z" } : Jvm.MethodName) prog_8_method_24_code (5 : Nat) (Option.some Jvm.ClassFile.FieldType.boolean) ∈ xT := List.mem_filter.mpr ⟨List.mem_append_right _ (List.mem_of_getElem? (i := 741) (by decide +kernel)), rfl⟩
theorem xw_742 : Jvm.Cond.methodLink "OnceLettersLaw" (57 : Nat) ({ cls := "OnceLettersModel", name := "part", desc := "(II)I" } : Jvm.MethodName) ∈ xT := List.mem_filter.mpr ⟨List.mem_append_right _ (List.mem_of_getElem? (i := 742) (by decide +kernel)), rfl⟩
theorem xw_743 : Jvm.Cond.instanceMethod ({ cls := "OnceLettersModel", name := "part", desc := "(II)I" } : Jvm.MethodName) ∈ xT := List.mem_filter.mpr ⟨List.mem_append_right _ (List.mem_of_getElem? (i := 743) (by decide +kernel)), rfl⟩
theorem xw_744 : Jvm.Cond.selects "OnceLettersModel" ({ cls := "OnceLettersModel", name := "part", desc := "(II)I" } : Jvm.MethodName) ({ cls := "OnceLettersModel", name := "part", desc := "(II)I" } : Jvm.MethodName) ∈ xT := List.mem_filter.mpr ⟨List.mem_append_right _ (List.mem_of_getElem? (i := 744) (by decide +kernel)), rfl⟩
theorem xw_745 : Jvm.Cond.code ({ cls := "OnceLettersModel", name := "part", desc := "(II)I" } : Jvm.MethodName) prog_8_method_53_code (3 : Nat) (Option.some Jvm.ClassFile.FieldType.int) ∈ xT := List.mem_filter.mpr ⟨List.mem_append_right _ (List.mem_of_getElem? (i := 745) (by decide +kernel)), rfl⟩
theorem xw_746 : Jvm.Cond.methodLink "OnceLettersModel" (168 : Nat) ({ cls := "OnceLettersModel", name := "tellPart", desc := "(II)I" } : Jvm.MethodName) ∈ xT := List.mem_filter.mpr ⟨List.mem_append_right _ (List.mem_of_getElem? (i := 746) (by decide +kernel)), rfl⟩
theorem xw_748 : Jvm.Cond.instanceMethod ({ cls := "OnceLettersModel", name := "tellPart", desc := "(II)I" } : Jvm.MethodName) ∈ xT := List.mem_filter.mpr ⟨List.mem_append_right _ (List.mem_of_getElem? (i := 748) (by decide +kernel)), rfl⟩
theorem xw_749 : Jvm.Cond.code ({ cls := "OnceLettersModel", name := "tellPart", desc := "(II)I" } : Jvm.MethodName) prog_8_method_52_code (3 : Nat) (Option.some Jvm.ClassFile.FieldType.int) ∈ xT := List.mem_filter.mpr ⟨List.mem_append_right _ (List.mem_of_getElem? (i := 749) (by decide +kernel)), rfl⟩
theorem xw_750 : Jvm.Cond.methodLink "OnceLettersModel" (161 : Nat) ({ cls := "OnceLettersModel", name := "seenFrom", desc := "(II)I" } : Jvm.MethodName) ∈ xT := List.mem_filter.mpr ⟨List.mem_append_right _ (List.mem_of_getElem? (i := 750) (by decide +kernel)), rfl⟩
theorem xw_752 : Jvm.Cond.instanceMethod ({ cls := "OnceLettersModel", name := "seenFrom", desc := "(II)I" } : Jvm.MethodName) ∈ xT := List.mem_filter.mpr ⟨List.mem_append_right _ (List.mem_of_getElem? (i := 752) (by decide +kernel)), rfl⟩
theorem xw_753 : Jvm.Cond.code ({ cls := "OnceLettersModel", name := "seenFrom", desc := "(II)I" } : Jvm.MethodName) prog_8_method_25_code (6 : Nat) (Option.some Jvm.ClassFile.FieldType.int) ∈ xT := List.mem_filter.mpr ⟨List.mem_append_right _ (List.mem_of_getElem? (i := 753) (by decide +kernel)), rfl⟩
theorem xw_754 : Jvm.Cond.methodLink "OnceLettersModel" (164 : Nat) ({ cls := "OnceLettersModel", name := "marksIn", desc := "(IZ)I" } : Jvm.MethodName) ∈ xT := List.mem_filter.mpr ⟨List.mem_append_right _ (List.mem_of_getElem? (i := 754) (by decide +kernel)), rfl⟩
theorem xw_756 : Jvm.Cond.instanceMethod ({ cls := "OnceLettersModel", name := "marksIn", desc := "(IZ)I" } : Jvm.MethodName) ∈ xT := List.mem_filter.mpr ⟨List.mem_append_right _ (List.mem_of_getElem? (i := 756) (by decide +kernel)), rfl⟩
theorem xw_757 : Jvm.Cond.code ({ cls := "OnceLettersModel", name := "marksIn", desc := "(IZ)I" } : Jvm.MethodName) prog_8_method_51_code (5 : Nat) (Option.some Jvm.ClassFile.FieldType.int) ∈ xT := List.mem_filter.mpr ⟨List.mem_append_right _ (List.mem_of_getElem? (i := 757) (by decide +kernel)), rfl⟩
theorem xw_758 : Jvm.Cond.methodLink "OnceLettersModel" (158 : Nat) ({ cls := "OnceLettersModel", name := "isAbort", desc := "(II)Z" } : Jvm.MethodName) ∈ xT := List.mem_filter.mpr ⟨List.mem_append_right _ (List.mem_of_getElem? (i := 758) (by decide +kernel)), rfl⟩
theorem xw_760 : Jvm.Cond.instanceMethod ({ cls := "OnceLettersModel", name := "isAbort", desc := "(II)Z" } : Jvm.MethodName) ∈ xT := List.mem_filter.mpr ⟨List.mem_append_right _ (List.mem_of_getElem? (i := 760) (by decide +kernel)), rfl⟩
theorem xw_761 : Jvm.Cond.code ({ cls := "OnceLettersModel", name := "isAbort", desc := "(II)Z" } : Jvm.MethodName) prog_8_method_50_code (3 : Nat) (Option.some Jvm.ClassFile.FieldType.boolean) ∈ xT := List.mem_filter.mpr ⟨List.mem_append_right _ (List.mem_of_getElem? (i := 761) (by decide +kernel)), rfl⟩
theorem xw_762 : Jvm.Cond.methodLink "OnceLettersLaw" (61 : Nat) ({ cls := "OnceLettersModel", name := "aborted", desc := "(III)I" } : Jvm.MethodName) ∈ xT := List.mem_filter.mpr ⟨List.mem_append_right _ (List.mem_of_getElem? (i := 762) (by decide +kernel)), rfl⟩
theorem xw_763 : Jvm.Cond.instanceMethod ({ cls := "OnceLettersModel", name := "aborted", desc := "(III)I" } : Jvm.MethodName) ∈ xT := List.mem_filter.mpr ⟨List.mem_append_right _ (List.mem_of_getElem? (i := 763) (by decide +kernel)), rfl⟩
theorem xw_764 : Jvm.Cond.selects "OnceLettersModel" ({ cls := "OnceLettersModel", name := "aborted", desc := "(III)I" } : Jvm.MethodName) ({ cls := "OnceLettersModel", name := "aborted", desc := "(III)I" } : Jvm.MethodName) ∈ xT := List.mem_filter.mpr ⟨List.mem_append_right _ (List.mem_of_getElem? (i := 764) (by decide +kernel)), rfl⟩
theorem xw_765 : Jvm.Cond.code ({ cls := "OnceLettersModel", name := "aborted", desc := "(III)I" } : Jvm.MethodName) prog_8_method_56_code (4 : Nat) (Option.some Jvm.ClassFile.FieldType.int) ∈ xT := List.mem_filter.mpr ⟨List.mem_append_right _ (List.mem_of_getElem? (i := 765) (by decide +kernel)), rfl⟩
theorem xw_766 : Jvm.Cond.methodLink "OnceLettersModel" (174 : Nat) ({ cls := "OnceLettersModel", name := "tellAborted", desc := "(III)I" } : Jvm.MethodName) ∈ xT := List.mem_filter.mpr ⟨List.mem_append_right _ (List.mem_of_getElem? (i := 766) (by decide +kernel)), rfl⟩
theorem xw_768 : Jvm.Cond.instanceMethod ({ cls := "OnceLettersModel", name := "tellAborted", desc := "(III)I" } : Jvm.MethodName) ∈ xT := List.mem_filter.mpr ⟨List.mem_append_right _ (List.mem_of_getElem? (i := 768) (by decide +kernel)), rfl⟩
theorem xw_769 : Jvm.Cond.code ({ cls := "OnceLettersModel", name := "tellAborted", desc := "(III)I" } : Jvm.MethodName) prog_8_method_55_code (5 : Nat) (Option.some Jvm.ClassFile.FieldType.int) ∈ xT := List.mem_filter.mpr ⟨List.mem_append_right _ (List.mem_of_getElem? (i := 769) (by decide +kernel)), rfl⟩
theorem xw_770 : Jvm.Cond.methodLink "OnceLettersModel" (171 : Nat) ({ cls := "OnceLettersModel", name := "aheadOf", desc := "(II)I" } : Jvm.MethodName) ∈ xT := List.mem_filter.mpr ⟨List.mem_append_right _ (List.mem_of_getElem? (i := 770) (by decide +kernel)), rfl⟩
theorem xw_772 : Jvm.Cond.instanceMethod ({ cls := "OnceLettersModel", name := "aheadOf", desc := "(II)I" } : Jvm.MethodName) ∈ xT := List.mem_filter.mpr ⟨List.mem_append_right _ (List.mem_of_getElem? (i := 772) (by decide +kernel)), rfl⟩
theorem xw_773 : Jvm.Cond.code ({ cls := "OnceLettersModel", name := "aheadOf", desc := "(II)I" } : Jvm.MethodName) prog_8_method_54_code (5 : Nat) (Option.some Jvm.ClassFile.FieldType.int) ∈ xT := List.mem_filter.mpr ⟨List.mem_append_right _ (List.mem_of_getElem? (i := 773) (by decide +kernel)), rfl⟩
theorem xw_774 : Jvm.Cond.methodLink "OnceLettersLaw" (65 : Nat) ({ cls := "OnceLettersModel", name := "reads", desc := "(II)I" } : Jvm.MethodName) ∈ xT := List.mem_filter.mpr ⟨List.mem_append_right _ (List.mem_of_getElem? (i := 774) (by decide +kernel)), rfl⟩
theorem xw_775 : Jvm.Cond.instanceMethod ({ cls := "OnceLettersModel", name := "reads", desc := "(II)I" } : Jvm.MethodName) ∈ xT := List.mem_filter.mpr ⟨List.mem_append_right _ (List.mem_of_getElem? (i := 775) (by decide +kernel)), rfl⟩
theorem xw_776 : Jvm.Cond.selects "OnceLettersModel" ({ cls := "OnceLettersModel", name := "reads", desc := "(II)I" } : Jvm.MethodName) ({ cls := "OnceLettersModel", name := "reads", desc := "(II)I" } : Jvm.MethodName) ∈ xT := List.mem_filter.mpr ⟨List.mem_append_right _ (List.mem_of_getElem? (i := 776) (by decide +kernel)), rfl⟩
theorem xw_777 : Jvm.Cond.code ({ cls := "OnceLettersModel", name := "reads", desc := "(II)I" } : Jvm.MethodName) prog_8_method_57_code (5 : Nat) (Option.some Jvm.ClassFile.FieldType.int) ∈ xT := List.mem_filter.mpr ⟨List.mem_append_right _ (List.mem_of_getElem? (i := 777) (by decide +kernel)), rfl⟩
theorem xw_778 : Jvm.Cond.methodLink "OnceLettersModel" (177 : Nat) ({ cls := "OnceLettersModel", name := "firstSeen", desc := "(II)I" } : Jvm.MethodName) ∈ xT := List.mem_filter.mpr ⟨List.mem_append_right _ (List.mem_of_getElem? (i := 778) (by decide +kernel)), rfl⟩
theorem xw_780 : Jvm.Cond.instanceMethod ({ cls := "OnceLettersModel", name := "firstSeen", desc := "(II)I" } : Jvm.MethodName) ∈ xT := List.mem_filter.mpr ⟨List.mem_append_right _ (List.mem_of_getElem? (i := 780) (by decide +kernel)), rfl⟩
theorem xw_781 : Jvm.Cond.code ({ cls := "OnceLettersModel", name := "firstSeen", desc := "(II)I" } : Jvm.MethodName) prog_8_method_26_code (5 : Nat) (Option.some Jvm.ClassFile.FieldType.int) ∈ xT := List.mem_filter.mpr ⟨List.mem_append_right _ (List.mem_of_getElem? (i := 781) (by decide +kernel)), rfl⟩
theorem xw_782 : Jvm.Cond.methodLink "OnceLettersLaw" (69 : Nat) ({ cls := "OnceLettersModel", name := "rewinds", desc := "(I)I" } : Jvm.MethodName) ∈ xT := List.mem_filter.mpr ⟨List.mem_append_right _ (List.mem_of_getElem? (i := 782) (by decide +kernel)), rfl⟩
theorem xw_783 : Jvm.Cond.instanceMethod ({ cls := "OnceLettersModel", name := "rewinds", desc := "(I)I" } : Jvm.MethodName) ∈ xT := List.mem_filter.mpr ⟨List.mem_append_right _ (List.mem_of_getElem? (i := 783) (by decide +kernel)), rfl⟩
theorem xw_784 : Jvm.Cond.selects "OnceLettersModel" ({ cls := "OnceLettersModel", name := "rewinds", desc := "(I)I" } : Jvm.MethodName) ({ cls := "OnceLettersModel", name := "rewinds", desc := "(I)I" } : Jvm.MethodName) ∈ xT := List.mem_filter.mpr ⟨List.mem_append_right _ (List.mem_of_getElem? (i := 784) (by decide +kernel)), rfl⟩
theorem xw_785 : Jvm.Cond.code ({ cls := "OnceLettersModel", name := "rewinds", desc := "(I)I" } : Jvm.MethodName) prog_8_method_58_code (5 : Nat) (Option.some Jvm.ClassFile.FieldType.int) ∈ xT := List.mem_filter.mpr ⟨List.mem_append_right _ (List.mem_of_getElem? (i := 785) (by decide +kernel)), rfl⟩
theorem xw_786 : Jvm.Cond.methodLink "OnceLettersLaw" (73 : Nat) ({ cls := "OnceLettersModel", name := "reader", desc := "(III)I" } : Jvm.MethodName) ∈ xT := List.mem_filter.mpr ⟨List.mem_append_right _ (List.mem_of_getElem? (i := 786) (by decide +kernel)), rfl⟩
theorem xw_787 : Jvm.Cond.instanceMethod ({ cls := "OnceLettersModel", name := "reader", desc := "(III)I" } : Jvm.MethodName) ∈ xT := List.mem_filter.mpr ⟨List.mem_append_right _ (List.mem_of_getElem? (i := 787) (by decide +kernel)), rfl⟩
theorem xw_788 : Jvm.Cond.selects "OnceLettersModel" ({ cls := "OnceLettersModel", name := "reader", desc := "(III)I" } : Jvm.MethodName) ({ cls := "OnceLettersModel", name := "reader", desc := "(III)I" } : Jvm.MethodName) ∈ xT := List.mem_filter.mpr ⟨List.mem_append_right _ (List.mem_of_getElem? (i := 788) (by decide +kernel)), rfl⟩
theorem xw_789 : Jvm.Cond.code ({ cls := "OnceLettersModel", name := "reader", desc := "(III)I" } : Jvm.MethodName) prog_8_method_60_code (4 : Nat) (Option.some Jvm.ClassFile.FieldType.int) ∈ xT := List.mem_filter.mpr ⟨List.mem_append_right _ (List.mem_of_getElem? (i := 789) (by decide +kernel)), rfl⟩
theorem xw_790 : Jvm.Cond.methodLink "OnceLettersModel" (180 : Nat) ({ cls := "OnceLettersModel", name := "tellReader", desc := "(III)I" } : Jvm.MethodName) ∈ xT := List.mem_filter.mpr ⟨List.mem_append_right _ (List.mem_of_getElem? (i := 790) (by decide +kernel)), rfl⟩
theorem xw_792 : Jvm.Cond.instanceMethod ({ cls := "OnceLettersModel", name := "tellReader", desc := "(III)I" } : Jvm.MethodName) ∈ xT := List.mem_filter.mpr ⟨List.mem_append_right _ (List.mem_of_getElem? (i := 792) (by decide +kernel)), rfl⟩
theorem xw_793 : Jvm.Cond.code ({ cls := "OnceLettersModel", name := "tellReader", desc := "(III)I" } : Jvm.MethodName) prog_8_method_59_code (5 : Nat) (Option.some Jvm.ClassFile.FieldType.int) ∈ xT := List.mem_filter.mpr ⟨List.mem_append_right _ (List.mem_of_getElem? (i := 793) (by decide +kernel)), rfl⟩
theorem xw_794 : Jvm.Cond.methodLink "OnceLettersLaw" (77 : Nat) ({ cls := "OnceLettersModel", name := "type", desc := "(I)I" } : Jvm.MethodName) ∈ xT := List.mem_filter.mpr ⟨List.mem_append_right _ (List.mem_of_getElem? (i := 794) (by decide +kernel)), rfl⟩
theorem xw_795 : Jvm.Cond.instanceMethod ({ cls := "OnceLettersModel", name := "type", desc := "(I)I" } : Jvm.MethodName) ∈ xT := List.mem_filter.mpr ⟨List.mem_append_right _ (List.mem_of_getElem? (i := 795) (by decide +kernel)), rfl⟩
theorem xw_796 : Jvm.Cond.selects "OnceLettersModel" ({ cls := "OnceLettersModel", name := "type", desc := "(I)I" } : Jvm.MethodName) ({ cls := "OnceLettersModel", name := "type", desc := "(I)I" } : Jvm.MethodName) ∈ xT := List.mem_filter.mpr ⟨List.mem_append_right _ (List.mem_of_getElem? (i := 796) (by decide +kernel)), rfl⟩
theorem xw_797 : Jvm.Cond.code ({ cls := "OnceLettersModel", name := "type", desc := "(I)I" } : Jvm.MethodName) prog_8_method_61_code (2 : Nat) (Option.some Jvm.ClassFile.FieldType.int) ∈ xT := List.mem_filter.mpr ⟨List.mem_append_right _ (List.mem_of_getElem? (i := 797) (by decide +kernel)), rfl⟩
theorem xw_798 : Jvm.Cond.methodLink "OnceLettersLaw" (82 : Nat) ({ cls := "OnceLettersModel", name := "clear", desc := "()I" } : Jvm.MethodName) ∈ xT := List.mem_filter.mpr ⟨List.mem_append_right _ (List.mem_of_getElem? (i := 798) (by decide +kernel)), rfl⟩
theorem xw_799 : Jvm.Cond.instanceMethod ({ cls := "OnceLettersModel", name := "clear", desc := "()I" } : Jvm.MethodName) ∈ xT := List.mem_filter.mpr ⟨List.mem_append_right _ (List.mem_of_getElem? (i := 799) (by decide +kernel)), rfl⟩
theorem xw_800 : Jvm.Cond.selects "OnceLettersModel" ({ cls := "OnceLettersModel", name := "clear", desc := "()I" } : Jvm.MethodName) ({ cls := "OnceLettersModel", name := "clear", desc := "()I" } : Jvm.MethodName) ∈ xT := List.mem_filter.mpr ⟨List.mem_append_right _ (List.mem_of_getElem? (i := 800) (by decide +kernel)), rfl⟩
theorem xw_801 : Jvm.Cond.code ({ cls := "OnceLettersModel", name := "clear", desc := "()I" } : Jvm.MethodName) prog_8_method_62_code (2 : Nat) (Option.some Jvm.ClassFile.FieldType.int) ∈ xT := List.mem_filter.mpr ⟨List.mem_append_right _ (List.mem_of_getElem? (i := 801) (by decide +kernel)), rfl⟩
theorem xw_802 : Jvm.Cond.methodLink "OnceLettersLaw" (86 : Nat) ({ cls := "OnceLettersModel", name := "does", desc := "()I" } : Jvm.MethodName) ∈ xT := List.mem_filter.mpr ⟨List.mem_append_right _ (List.mem_of_getElem? (i := 802) (by decide +kernel)), rfl⟩
theorem xw_803 : Jvm.Cond.instanceMethod ({ cls := "OnceLettersModel", name := "does", desc := "()I" } : Jvm.MethodName) ∈ xT := List.mem_filter.mpr ⟨List.mem_append_right _ (List.mem_of_getElem? (i := 803) (by decide +kernel)), rfl⟩
theorem xw_804 : Jvm.Cond.selects "OnceLettersModel" ({ cls := "OnceLettersModel", name := "does", desc := "()I" } : Jvm.MethodName) ({ cls := "OnceLettersModel", name := "does", desc := "()I" } : Jvm.MethodName) ∈ xT := List.mem_filter.mpr ⟨List.mem_append_right _ (List.mem_of_getElem? (i := 804) (by decide +kernel)), rfl⟩
theorem xw_805 : Jvm.Cond.code ({ cls := "OnceLettersModel", name := "does", desc := "()I" } : Jvm.MethodName) prog_8_method_72_code (3 : Nat) (Option.some Jvm.ClassFile.FieldType.int) ∈ xT := List.mem_filter.mpr ⟨List.mem_append_right _ (List.mem_of_getElem? (i := 805) (by decide +kernel)), rfl⟩
theorem xw_806 : Jvm.Cond.methodLink "OnceLettersModel" (239 : Nat) ({ cls := "OnceLettersModel", name := "parses", desc := "()Z" } : Jvm.MethodName) ∈ xT := List.mem_filter.mpr ⟨List.mem_append_right _ (List.mem_of_getElem? (i := 806) (by decide +kernel)), rfl⟩
theorem xw_808 : Jvm.Cond.instanceMethod ({ cls := "OnceLettersModel", name := "parses", desc := "()Z" } : Jvm.MethodName) ∈ xT := List.mem_filter.mpr ⟨List.mem_append_right _ (List.mem_of_getElem? (i := 808) (by decide +kernel)), rfl⟩
theorem xw_809 : Jvm.Cond.code ({ cls := "OnceLettersModel", name := "parses", desc := "()Z" } : Jvm.MethodName) prog_8_method_70_code (2 : Nat) (Option.some Jvm.ClassFile.FieldType.boolean) ∈ xT := List.mem_filter.mpr ⟨List.mem_append_right _ (List.mem_of_getElem? (i := 809) (by decide +kernel)), rfl⟩
theorem xw_810 : Jvm.Cond.methodLink "OnceLettersModel" (195 : Nat) ({ cls := "OnceLettersModel", name := "skips", desc := "()V" } : Jvm.MethodName) ∈ xT := List.mem_filter.mpr ⟨List.mem_append_right _ (List.mem_of_getElem? (i := 810) (by decide +kernel)), rfl⟩
theorem xw_812 : Jvm.Cond.instanceMethod ({ cls := "OnceLettersModel", name := "skips", desc := "()V" } : Jvm.MethodName) ∈ xT := List.mem_filter.mpr ⟨List.mem_append_right _ (List.mem_of_getElem? (i := 812) (by decide +kernel)), rfl⟩
theorem xw_813 : Jvm.Cond.code ({ cls := "OnceLettersModel", name := "skips", desc := "()V" } : Jvm.MethodName) prog_8_method_64_code (1 : Nat) (Option.none : Option Jvm.ClassFile.FieldType) ∈ xT := List.mem_filter.mpr ⟨List.mem_append_right _ (List.mem_of_getElem? (i := 813) (by decide +kernel)), rfl⟩
theorem xw_814 : Jvm.Cond.methodLink "OnceLettersModel" (189 : Nat) ({ cls := "OnceLettersModel", name := "here", desc := "()I" } : Jvm.MethodName) ∈ xT := List.mem_filter.mpr ⟨List.mem_append_right _ (List.mem_of_getElem? (i := 814) (by decide +kernel)), rfl⟩
theorem xw_816 : Jvm.Cond.instanceMethod ({ cls := "OnceLettersModel", name := "here", desc := "()I" } : Jvm.MethodName) ∈ xT := List.mem_filter.mpr ⟨List.mem_append_right _ (List.mem_of_getElem? (i := 816) (by decide +kernel)), rfl⟩
theorem xw_817 : Jvm.Cond.code ({ cls := "OnceLettersModel", name := "here", desc := "()I" } : Jvm.MethodName) prog_8_method_63_code (1 : Nat) (Option.some Jvm.ClassFile.FieldType.int) ∈ xT := List.mem_filter.mpr ⟨List.mem_append_right _ (List.mem_of_getElem? (i := 817) (by decide +kernel)), rfl⟩
theorem xw_818 : Jvm.Cond.methodLink "OnceLettersModel" (214 : Nat) ({ cls := "OnceLettersModel", name := "order", desc := "()Z" } : Jvm.MethodName) ∈ xT := List.mem_filter.mpr ⟨List.mem_append_right _ (List.mem_of_getElem? (i := 818) (by decide +kernel)), rfl⟩
theorem xw_820 : Jvm.Cond.instanceMethod ({ cls := "OnceLettersModel", name := "order", desc := "()Z" } : Jvm.MethodName) ∈ xT := List.mem_filter.mpr ⟨List.mem_append_right _ (List.mem_of_getElem? (i := 820) (by decide +kernel)), rfl⟩
theorem xw_821 : Jvm.Cond.code ({ cls := "OnceLettersModel", name := "order", desc := "()Z" } : Jvm.MethodName) prog_8_method_69_code (4 : Nat) (Option.some Jvm.ClassFile.FieldType.boolean) ∈ xT := List.mem_filter.mpr ⟨List.mem_append_right _ (List.mem_of_getElem? (i := 821) (by decide +kernel)), rfl⟩
theorem xw_822 : Jvm.Cond.methodLink "OnceLettersModel" (205 : Nat) ({ cls := "OnceLettersModel", name := "numbersOf", desc := "(I)I" } : Jvm.MethodName) ∈ xT := List.mem_filter.mpr ⟨List.mem_append_right _ (List.mem_of_getElem? (i := 822) (by decide +kernel)), rfl⟩
theorem xw_823 : Jvm.Cond.static ({ cls := "OnceLettersModel", name := "numbersOf", desc := "(I)I" } : Jvm.MethodName) ∈ xT := List.mem_filter.mpr ⟨List.mem_append_right _ (List.mem_of_getElem? (i := 823) (by decide +kernel)), rfl⟩
theorem xw_824 : Jvm.Cond.code ({ cls := "OnceLettersModel", name := "numbersOf", desc := "(I)I" } : Jvm.MethodName) prog_8_method_67_code (1 : Nat) (Option.some Jvm.ClassFile.FieldType.int) ∈ xT := List.mem_filter.mpr ⟨List.mem_append_right _ (List.mem_of_getElem? (i := 824) (by decide +kernel)), rfl⟩
theorem xw_825 : Jvm.Cond.methodLink "OnceLettersModel" (202 : Nat) ({ cls := "OnceLettersModel", name := "stopsHere", desc := "()Z" } : Jvm.MethodName) ∈ xT := List.mem_filter.mpr ⟨List.mem_append_right _ (List.mem_of_getElem? (i := 825) (by decide +kernel)), rfl⟩
theorem xw_827 : Jvm.Cond.instanceMethod ({ cls := "OnceLettersModel", name := "stopsHere", desc := "()Z" } : Jvm.MethodName) ∈ xT := List.mem_filter.mpr ⟨List.mem_append_right _ (List.mem_of_getElem? (i := 827) (by decide +kernel)), rfl⟩
theorem xw_828 : Jvm.Cond.code ({ cls := "OnceLettersModel", name := "stopsHere", desc := "()Z" } : Jvm.MethodName) prog_8_method_66_code (1 : Nat) (Option.some Jvm.ClassFile.FieldType.boolean) ∈ xT := List.mem_filter.mpr ⟨List.mem_append_right _ (List.mem_of_getElem? (i := 828) (by decide +kernel)), rfl⟩
theorem xw_829 : Jvm.Cond.methodLink "OnceLettersModel" (211 : Nat) ({ cls := "OnceLettersModel", name := "number", desc := "(I)Z" } : Jvm.MethodName) ∈ xT := List.mem_filter.mpr ⟨List.mem_append_right _ (List.mem_of_getElem? (i := 829) (by decide +kernel)), rfl⟩
theorem xw_831 : Jvm.Cond.instanceMethod ({ cls := "OnceLettersModel", name := "number", desc := "(I)Z" } : Jvm.MethodName) ∈ xT := List.mem_filter.mpr ⟨List.mem_append_right _ (List.mem_of_getElem? (i := 831) (by decide +kernel)), rfl⟩
theorem xw_832 : Jvm.Cond.code ({ cls := "OnceLettersModel", name := "number", desc := "(I)Z" } : Jvm.MethodName) prog_8_method_68_code (3 : Nat) (Option.some Jvm.ClassFile.FieldType.boolean) ∈ xT := List.mem_filter.mpr ⟨List.mem_append_right _ (List.mem_of_getElem? (i := 832) (by decide +kernel)), rfl⟩
theorem xw_833 : Jvm.Cond.methodLink "OnceLettersModel" (198 : Nat) ({ cls := "OnceLettersModel", name := "isFigure", desc := "()Z" } : Jvm.MethodName) ∈ xT := List.mem_filter.mpr ⟨List.mem_append_right _ (List.mem_of_getElem? (i := 833) (by decide +kernel)), rfl⟩
theorem xw_835 : Jvm.Cond.instanceMethod ({ cls := "OnceLettersModel", name := "isFigure", desc := "()Z" } : Jvm.MethodName) ∈ xT := List.mem_filter.mpr ⟨List.mem_append_right _ (List.mem_of_getElem? (i := 835) (by decide +kernel)), rfl⟩
theorem xw_836 : Jvm.Cond.code ({ cls := "OnceLettersModel", name := "isFigure", desc := "()Z" } : Jvm.MethodName) prog_8_method_65_code (1 : Nat) (Option.some Jvm.ClassFile.FieldType.boolean) ∈ xT := List.mem_filter.mpr ⟨List.mem_append_right _ (List.mem_of_getElem? (i := 836) (by decide +kernel)), rfl⟩
theorem xw_837 : Jvm.Cond.methodLink "OnceLettersModel" (242 : Nat) ({ cls := "OnceLettersModel", name := "answers", desc := "(I)I" } : Jvm.MethodName) ∈ xT := List.mem_filter.mpr ⟨List.mem_append_right _ (List.mem_of_getElem? (i := 837) (by decide +kernel)), rfl⟩
theorem xw_839 : Jvm.Cond.instanceMethod ({ cls := "OnceLettersModel", name := "answers", desc := "(I)I" } : Jvm.MethodName) ∈ xT := List.mem_filter.mpr ⟨List.mem_append_right _ (List.mem_of_getElem? (i := 839) (by decide +kernel)), rfl⟩
theorem xw_840 : Jvm.Cond.code ({ cls := "OnceLettersModel", name := "answers", desc := "(I)I" } : Jvm.MethodName) prog_8_method_71_code (7 : Nat) (Option.some Jvm.ClassFile.FieldType.int) ∈ xT := List.mem_filter.mpr ⟨List.mem_append_right _ (List.mem_of_getElem? (i := 840) (by decide +kernel)), rfl⟩
theorem xw_841 : Jvm.Cond.methodLink "OnceLettersModel" (217 : Nat) ({ cls := "OnceLettersModel", name := "begins", desc := "(I)I" } : Jvm.MethodName) ∈ xT := List.mem_filter.mpr ⟨List.mem_append_right _ (List.mem_of_getElem? (i := 841) (by decide +kernel)), rfl⟩
theorem xw_842 : Jvm.Cond.methodLink "OnceLettersModel" (220 : Nat) ({ cls := "OnceLettersModel", name := "opens", desc := "(II)I" } : Jvm.MethodName) ∈ xT := List.mem_filter.mpr ⟨List.mem_append_right _ (List.mem_of_getElem? (i := 842) (by decide +kernel)), rfl⟩
theorem xw_843 : Jvm.Cond.methodLink "OnceLettersModel" (223 : Nat) ({ cls := "OnceLettersModel", name := "sends", desc := "(IIIII)I" } : Jvm.MethodName) ∈ xT := List.mem_filter.mpr ⟨List.mem_append_right _ (List.mem_of_getElem? (i := 843) (by decide +kernel)), rfl⟩
theorem xw_844 : Jvm.Cond.methodLink "OnceLettersModel" (227 : Nat) ({ cls := "OnceLettersModel", name := "ends", desc := "(III)I" } : Jvm.MethodName) ∈ xT := List.mem_filter.mpr ⟨List.mem_append_right _ (List.mem_of_getElem? (i := 844) (by decide +kernel)), rfl⟩
theorem xw_845 : Jvm.Cond.methodLink "OnceLettersModel" (230 : Nat) ({ cls := "OnceLettersModel", name := "ticks", desc := "(I)I" } : Jvm.MethodName) ∈ xT := List.mem_filter.mpr ⟨List.mem_append_right _ (List.mem_of_getElem? (i := 845) (by decide +kernel)), rfl⟩
theorem xw_846 : Jvm.Cond.methodLink "OnceLettersModel" (233 : Nat) ({ cls := "OnceLettersModel", name := "reads", desc := "(II)I" } : Jvm.MethodName) ∈ xT := List.mem_filter.mpr ⟨List.mem_append_right _ (List.mem_of_getElem? (i := 846) (by decide +kernel)), rfl⟩
theorem xw_847 : Jvm.Cond.methodLink "OnceLettersModel" (236 : Nat) ({ cls := "OnceLettersModel", name := "carries", desc := "(IIII)I" } : Jvm.MethodName) ∈ xT := List.mem_filter.mpr ⟨List.mem_append_right _ (List.mem_of_getElem? (i := 847) (by decide +kernel)), rfl⟩
theorem xw_848 : Jvm.Cond.methodLink "OnceLettersLaw" (90 : Nat) ({ cls := "OnceLettersModel", name := "asked", desc := "()I" } : Jvm.MethodName) ∈ xT := List.mem_filter.mpr ⟨List.mem_append_right _ (List.mem_of_getElem? (i := 848) (by decide +kernel)), rfl⟩
theorem xw_849 : Jvm.Cond.instanceMethod ({ cls := "OnceLettersModel", name := "asked", desc := "()I" } : Jvm.MethodName) ∈ xT := List.mem_filter.mpr ⟨List.mem_append_right _ (List.mem_of_getElem? (i := 849) (by decide +kernel)), rfl⟩
theorem xw_850 : Jvm.Cond.selects "OnceLettersModel" ({ cls := "OnceLettersModel", name := "asked", desc := "()I" } : Jvm.MethodName) ({ cls := "OnceLettersModel", name := "asked", desc := "()I" } : Jvm.MethodName) ∈ xT := List.mem_filter.mpr ⟨List.mem_append_right _ (List.mem_of_getElem? (i := 850) (by decide +kernel)), rfl⟩
theorem xw_851 : Jvm.Cond.code ({ cls := "OnceLettersModel", name := "asked", desc := "()I" } : Jvm.MethodName) prog_8_method_73_code (1 : Nat) (Option.some Jvm.ClassFile.FieldType.int) ∈ xT := List.mem_filter.mpr ⟨List.mem_append_right _ (List.mem_of_getElem? (i := 851) (by decide +kernel)), rfl⟩
theorem xw_852 : Jvm.Cond.methodLink "OnceLettersLaw" (94 : Nat) ({ cls := "OnceLettersModel", name := "all", desc := "(I)I" } : Jvm.MethodName) ∈ xT := List.mem_filter.mpr ⟨List.mem_append_right _ (List.mem_of_getElem? (i := 852) (by decide +kernel)), rfl⟩
theorem xw_853 : Jvm.Cond.instanceMethod ({ cls := "OnceLettersModel", name := "all", desc := "(I)I" } : Jvm.MethodName) ∈ xT := List.mem_filter.mpr ⟨List.mem_append_right _ (List.mem_of_getElem? (i := 853) (by decide +kernel)), rfl⟩
theorem xw_854 : Jvm.Cond.selects "OnceLettersModel" ({ cls := "OnceLettersModel", name := "all", desc := "(I)I" } : Jvm.MethodName) ({ cls := "OnceLettersModel", name := "all", desc := "(I)I" } : Jvm.MethodName) ∈ xT := List.mem_filter.mpr ⟨List.mem_append_right _ (List.mem_of_getElem? (i := 854) (by decide +kernel)), rfl⟩
theorem xw_855 : Jvm.Cond.code ({ cls := "OnceLettersModel", name := "all", desc := "(I)I" } : Jvm.MethodName) prog_8_method_77_code (2 : Nat) (Option.some Jvm.ClassFile.FieldType.int) ∈ xT := List.mem_filter.mpr ⟨List.mem_append_right _ (List.mem_of_getElem? (i := 855) (by decide +kernel)), rfl⟩
theorem xw_856 : Jvm.Cond.methodLink "OnceLettersModel" (254 : Nat) ({ cls := "OnceLettersModel", name := "tellAll", desc := "(I)I" } : Jvm.MethodName) ∈ xT := List.mem_filter.mpr ⟨List.mem_append_right _ (List.mem_of_getElem? (i := 856) (by decide +kernel)), rfl⟩
theorem xw_858 : Jvm.Cond.instanceMethod ({ cls := "OnceLettersModel", name := "tellAll", desc := "(I)I" } : Jvm.MethodName) ∈ xT := List.mem_filter.mpr ⟨List.mem_append_right _ (List.mem_of_getElem? (i := 858) (by decide +kernel)), rfl⟩
theorem xw_859 : Jvm.Cond.code ({ cls := "OnceLettersModel", name := "tellAll", desc := "(I)I" } : Jvm.MethodName) prog_8_method_76_code (2 : Nat) (Option.some Jvm.ClassFile.FieldType.int) ∈ xT := List.mem_filter.mpr ⟨List.mem_append_right _ (List.mem_of_getElem? (i := 859) (by decide +kernel)), rfl⟩
theorem xw_860 : Jvm.Cond.methodLink "OnceLettersModel" (248 : Nat) ({ cls := "OnceLettersModel", name := "dues", desc := "()I" } : Jvm.MethodName) ∈ xT := List.mem_filter.mpr ⟨List.mem_append_right _ (List.mem_of_getElem? (i := 860) (by decide +kernel)), rfl⟩
theorem xw_862 : Jvm.Cond.instanceMethod ({ cls := "OnceLettersModel", name := "dues", desc := "()I" } : Jvm.MethodName) ∈ xT := List.mem_filter.mpr ⟨List.mem_append_right _ (List.mem_of_getElem? (i := 862) (by decide +kernel)), rfl⟩
theorem xw_863 : Jvm.Cond.code ({ cls := "OnceLettersModel", name := "dues", desc := "()I" } : Jvm.MethodName) prog_8_method_75_code (3 : Nat) (Option.some Jvm.ClassFile.FieldType.int) ∈ xT := List.mem_filter.mpr ⟨List.mem_append_right _ (List.mem_of_getElem? (i := 863) (by decide +kernel)), rfl⟩
theorem xw_864 : Jvm.Cond.methodLink "OnceLettersModel" (251 : Nat) ({ cls := "OnceLettersModel", name := "sumOf", desc := "(I)I" } : Jvm.MethodName) ∈ xT := List.mem_filter.mpr ⟨List.mem_append_right _ (List.mem_of_getElem? (i := 864) (by decide +kernel)), rfl⟩
theorem xw_866 : Jvm.Cond.instanceMethod ({ cls := "OnceLettersModel", name := "sumOf", desc := "(I)I" } : Jvm.MethodName) ∈ xT := List.mem_filter.mpr ⟨List.mem_append_right _ (List.mem_of_getElem? (i := 866) (by decide +kernel)), rfl⟩
theorem xw_867 : Jvm.Cond.code ({ cls := "OnceLettersModel", name := "sumOf", desc := "(I)I" } : Jvm.MethodName) prog_8_method_74_code (4 : Nat) (Option.some Jvm.ClassFile.FieldType.int) ∈ xT := List.mem_filter.mpr ⟨List.mem_append_right _ (List.mem_of_getElem? (i := 867) (by decide +kernel)), rfl⟩
theorem xw_868 : Jvm.Cond.methodLink "OnceLettersLaw" (98 : Nat) ({ cls := "OnceLettersModel", name := "back", desc := "()I" } : Jvm.MethodName) ∈ xT := List.mem_filter.mpr ⟨List.mem_append_right _ (List.mem_of_getElem? (i := 868) (by decide +kernel)), rfl⟩
theorem xw_869 : Jvm.Cond.instanceMethod ({ cls := "OnceLettersModel", name := "back", desc := "()I" } : Jvm.MethodName) ∈ xT := List.mem_filter.mpr ⟨List.mem_append_right _ (List.mem_of_getElem? (i := 869) (by decide +kernel)), rfl⟩
theorem xw_870 : Jvm.Cond.selects "OnceLettersModel" ({ cls := "OnceLettersModel", name := "back", desc := "()I" } : Jvm.MethodName) ({ cls := "OnceLettersModel", name := "back", desc := "()I" } : Jvm.MethodName) ∈ xT := List.mem_filter.mpr ⟨List.mem_append_right _ (List.mem_of_getElem? (i := 870) (by decide +kernel)), rfl⟩
theorem xw_871 : Jvm.Cond.code ({ cls := "OnceLettersModel", name := "back", desc := "()I" } : Jvm.MethodName) prog_8_method_78_code (1 : Nat) (Option.some Jvm.ClassFile.FieldType.int) ∈ xT := List.mem_filter.mpr ⟨List.mem_append_right _ (List.mem_of_getElem? (i := 871) (by decide +kernel)), rfl⟩
theorem xw_872 : Jvm.Cond.methodLink "OnceLettersLaw" (102 : Nat) ({ cls := "OnceLettersModel", name := "told", desc := "(I)I" } : Jvm.MethodName) ∈ xT := List.mem_filter.mpr ⟨List.mem_append_right _ (List.mem_of_getElem? (i := 872) (by decide +kernel)), rfl⟩
theorem xw_873 : Jvm.Cond.instanceMethod ({ cls := "OnceLettersModel", name := "told", desc := "(I)I" } : Jvm.MethodName) ∈ xT := List.mem_filter.mpr ⟨List.mem_append_right _ (List.mem_of_getElem? (i := 873) (by decide +kernel)), rfl⟩
theorem xw_874 : Jvm.Cond.selects "OnceLettersModel" ({ cls := "OnceLettersModel", name := "told", desc := "(I)I" } : Jvm.MethodName) ({ cls := "OnceLettersModel", name := "told", desc := "(I)I" } : Jvm.MethodName) ∈ xT := List.mem_filter.mpr ⟨List.mem_append_right _ (List.mem_of_getElem? (i := 874) (by decide +kernel)), rfl⟩
theorem xw_875 : Jvm.Cond.code ({ cls := "OnceLettersModel", name := "told", desc := "(I)I" } : Jvm.MethodName) prog_8_method_80_code (2 : Nat) (Option.some Jvm.ClassFile.FieldType.int) ∈ xT := List.mem_filter.mpr ⟨List.mem_append_right _ (List.mem_of_getElem? (i := 875) (by decide +kernel)), rfl⟩
theorem xw_876 : Jvm.Cond.methodLink "OnceLettersModel" (257 : Nat) ({ cls := "OnceLettersModel", name := "tell", desc := "(I)I" } : Jvm.MethodName) ∈ xT := List.mem_filter.mpr ⟨List.mem_append_right _ (List.mem_of_getElem? (i := 876) (by decide +kernel)), rfl⟩
theorem xw_878 : Jvm.Cond.instanceMethod ({ cls := "OnceLettersModel", name := "tell", desc := "(I)I" } : Jvm.MethodName) ∈ xT := List.mem_filter.mpr ⟨List.mem_append_right _ (List.mem_of_getElem? (i := 878) (by decide +kernel)), rfl⟩
theorem xw_879 : Jvm.Cond.code ({ cls := "OnceLettersModel", name := "tell", desc := "(I)I" } : Jvm.MethodName) prog_8_method_79_code (2 : Nat) (Option.some Jvm.ClassFile.FieldType.int) ∈ xT := List.mem_filter.mpr ⟨List.mem_append_right _ (List.mem_of_getElem? (i := 879) (by decide +kernel)), rfl⟩
theorem xw_880 : Jvm.Cond.methodLink "OnceLettersLaw" (107 : Nat) ({ cls := "OnceLettersModel", name := "digest", desc := "()J" } : Jvm.MethodName) ∈ xT := List.mem_filter.mpr ⟨List.mem_append_right _ (List.mem_of_getElem? (i := 880) (by decide +kernel)), rfl⟩
theorem xw_881 : Jvm.Cond.instanceMethod ({ cls := "OnceLettersModel", name := "digest", desc := "()J" } : Jvm.MethodName) ∈ xT := List.mem_filter.mpr ⟨List.mem_append_right _ (List.mem_of_getElem? (i := 881) (by decide +kernel)), rfl⟩
theorem xw_882 : Jvm.Cond.selects "OnceLettersModel" ({ cls := "OnceLettersModel", name := "digest", desc := "()J" } : Jvm.MethodName) ({ cls := "OnceLettersModel", name := "digest", desc := "()J" } : Jvm.MethodName) ∈ xT := List.mem_filter.mpr ⟨List.mem_append_right _ (List.mem_of_getElem? (i := 882) (by decide +kernel)), rfl⟩
theorem xw_883 : Jvm.Cond.code ({ cls := "OnceLettersModel", name := "digest", desc := "()J" } : Jvm.MethodName) prog_8_method_83_code (3 : Nat) (Option.some Jvm.ClassFile.FieldType.long) ∈ xT := List.mem_filter.mpr ⟨List.mem_append_right _ (List.mem_of_getElem? (i := 883) (by decide +kernel)), rfl⟩
theorem xw_884 : Jvm.Cond.constantLong "OnceLettersModel" (269 : Nat) (2297 : Int64) ∈ xT := List.mem_filter.mpr ⟨List.mem_append_right _ (List.mem_of_getElem? (i := 884) (by decide +kernel)), rfl⟩
theorem xw_885 : Jvm.Cond.methodLink "OnceLettersModel" (266 : Nat) ({ cls := "OnceLettersModel", name := "more", desc := "(I)V" } : Jvm.MethodName) ∈ xT := List.mem_filter.mpr ⟨List.mem_append_right _ (List.mem_of_getElem? (i := 885) (by decide +kernel)), rfl⟩
theorem xw_887 : Jvm.Cond.instanceMethod ({ cls := "OnceLettersModel", name := "more", desc := "(I)V" } : Jvm.MethodName) ∈ xT := List.mem_filter.mpr ⟨List.mem_append_right _ (List.mem_of_getElem? (i := 887) (by decide +kernel)), rfl⟩
theorem xw_888 : Jvm.Cond.code ({ cls := "OnceLettersModel", name := "more", desc := "(I)V" } : Jvm.MethodName) prog_8_method_81_code (2 : Nat) (Option.none : Option Jvm.ClassFile.FieldType) ∈ xT := List.mem_filter.mpr ⟨List.mem_append_right _ (List.mem_of_getElem? (i := 888) (by decide +kernel)), rfl⟩
theorem xw_889 : Jvm.Cond.constantLong "OnceLettersModel" (260 : Nat) (31 : Int64) ∈ xT := List.mem_filter.mpr ⟨List.mem_append_right _ (List.mem_of_getElem? (i := 889) (by decide +kernel)), rfl⟩
theorem xw_890 : Jvm.Cond.methodLink "OnceLettersModel" (271 : Nat) ({ cls := "OnceLettersModel", name := "morePart", desc := "(I)V" } : Jvm.MethodName) ∈ xT := List.mem_filter.mpr ⟨List.mem_append_right _ (List.mem_of_getElem? (i := 890) (by decide +kernel)), rfl⟩
theorem xw_892 : Jvm.Cond.instanceMethod ({ cls := "OnceLettersModel", name := "morePart", desc := "(I)V" } : Jvm.MethodName) ∈ xT := List.mem_filter.mpr ⟨List.mem_append_right _ (List.mem_of_getElem? (i := 892) (by decide +kernel)), rfl⟩
theorem xw_893 : Jvm.Cond.code ({ cls := "OnceLettersModel", name := "morePart", desc := "(I)V" } : Jvm.MethodName) prog_8_method_82_code (4 : Nat) (Option.none : Option Jvm.ClassFile.FieldType) ∈ xT := List.mem_filter.mpr ⟨List.mem_append_right _ (List.mem_of_getElem? (i := 893) (by decide +kernel)), rfl⟩
theorem xs_0 : Cond.selects "OnceLetters" ⟨"OnceLetters", "failed", "(I)I"⟩ ⟨"OnceLetters", "failed", "(I)I"⟩ ∈ xT := List.mem_filter.mpr ⟨List.mem_append_left _ (List.mem_of_getElem? (i := 0) (by decide +kernel)), rfl⟩
theorem xs_1 : Cond.selects "OnceLetters" ⟨"OnceLetters", "keep", "()V"⟩ ⟨"OnceLetters", "keep", "()V"⟩ ∈ xT := List.mem_filter.mpr ⟨List.mem_append_left _ (List.mem_of_getElem? (i := 1) (by decide +kernel)), rfl⟩
theorem xs_2 : Cond.selects "OnceLetters" ⟨"OnceLetters", "endDeed", "(LOnceLetters$Producer;I)I"⟩ ⟨"OnceLetters", "endDeed", "(LOnceLetters$Producer;I)I"⟩ ∈ xT := List.mem_filter.mpr ⟨List.mem_append_left _ (List.mem_of_getElem? (i := 2) (by decide +kernel)), rfl⟩
theorem xs_3 : Cond.selects "OnceLetters" ⟨"OnceLetters", "finishDeed", "(LOnceLetters$Producer;)V"⟩ ⟨"OnceLetters", "finishDeed", "(LOnceLetters$Producer;)V"⟩ ∈ xT := List.mem_filter.mpr ⟨List.mem_append_left _ (List.mem_of_getElem? (i := 3) (by decide +kernel)), rfl⟩
theorem xs_4 : Cond.selects "OnceLetters" ⟨"OnceLetters", "wrongAge", "(II)Z"⟩ ⟨"OnceLetters", "wrongAge", "(II)Z"⟩ ∈ xT := List.mem_filter.mpr ⟨List.mem_append_left _ (List.mem_of_getElem? (i := 4) (by decide +kernel)), rfl⟩
theorem xs_5 : Cond.selects "OnceLetters" ⟨"OnceLetters", "producersIn", "(I)I"⟩ ⟨"OnceLetters", "producersIn", "(I)I"⟩ ∈ xT := List.mem_filter.mpr ⟨List.mem_append_left _ (List.mem_of_getElem? (i := 5) (by decide +kernel)), rfl⟩
theorem xs_6 : Cond.selects "OnceLetters$Log" ⟨"OnceLetters$Log", "lastBefore", "(III)I"⟩ ⟨"OnceLetters$Log", "lastBefore", "(III)I"⟩ ∈ xT := List.mem_filter.mpr ⟨List.mem_append_left _ (List.mem_of_getElem? (i := 6) (by decide +kernel)), rfl⟩
theorem xs_7 : Cond.selects "OnceLetters" ⟨"OnceLetters", "reserve", "(I)I"⟩ ⟨"OnceLetters", "reserve", "(I)I"⟩ ∈ xT := List.mem_filter.mpr ⟨List.mem_append_left _ (List.mem_of_getElem? (i := 7) (by decide +kernel)), rfl⟩
theorem xs_8 : Cond.selects "OnceLetters" ⟨"OnceLetters", "writeMarkers", "()I"⟩ ⟨"OnceLetters", "writeMarkers", "()I"⟩ ∈ xT := List.mem_filter.mpr ⟨List.mem_append_left _ (List.mem_of_getElem? (i := 8) (by decide +kernel)), rfl⟩
theorem xs_9 : Cond.selects "OnceLetters" ⟨"OnceLetters", "abortHanging", "()V"⟩ ⟨"OnceLetters", "abortHanging", "()V"⟩ ∈ xT := List.mem_filter.mpr ⟨List.mem_append_left _ (List.mem_of_getElem? (i := 9) (by decide +kernel)), rfl⟩
theorem xs_10 : Cond.selects "OnceLetters" ⟨"OnceLetters", "stable", "(I)I"⟩ ⟨"OnceLetters", "stable", "(I)I"⟩ ∈ xT := List.mem_filter.mpr ⟨List.mem_append_left _ (List.mem_of_getElem? (i := 10) (by decide +kernel)), rfl⟩
theorem xs_11 : Cond.selects "OnceLetters" ⟨"OnceLetters", "holder", "(I)I"⟩ ⟨"OnceLetters", "holder", "(I)I"⟩ ∈ xT := List.mem_filter.mpr ⟨List.mem_append_left _ (List.mem_of_getElem? (i := 11) (by decide +kernel)), rfl⟩
theorem xs_12 : Cond.selects "OnceLetters$Log" ⟨"OnceLetters$Log", "startsAborted", "(I)Z"⟩ ⟨"OnceLetters$Log", "startsAborted", "(I)Z"⟩ ∈ xT := List.mem_filter.mpr ⟨List.mem_append_left _ (List.mem_of_getElem? (i := 12) (by decide +kernel)), rfl⟩
theorem xs_13 : Cond.selects "OnceLetters$Script" ⟨"OnceLetters$Script", "takes", "(I)Z"⟩ ⟨"OnceLetters$Script", "takes", "(I)Z"⟩ ∈ xT := List.mem_filter.mpr ⟨List.mem_append_left _ (List.mem_of_getElem? (i := 13) (by decide +kernel)), rfl⟩
theorem xs_14 : Cond.selects "OnceLetters$Script" ⟨"OnceLetters$Script", "takesLetter", "(I)Z"⟩ ⟨"OnceLetters$Script", "takesLetter", "(I)Z"⟩ ∈ xT := List.mem_filter.mpr ⟨List.mem_append_left _ (List.mem_of_getElem? (i := 14) (by decide +kernel)), rfl⟩
theorem xs_15 : Cond.selects "OnceLetters$Script" ⟨"OnceLetters$Script", "takesEnd", "()Z"⟩ ⟨"OnceLetters$Script", "takesEnd", "()Z"⟩ ∈ xT := List.mem_filter.mpr ⟨List.mem_append_left _ (List.mem_of_getElem? (i := 15) (by decide +kernel)), rfl⟩
theorem xs_16 : Cond.selects "OnceLetters$Script" ⟨"OnceLetters$Script", "takesDigit", "(I)Z"⟩ ⟨"OnceLetters$Script", "takesDigit", "(I)Z"⟩ ∈ xT := List.mem_filter.mpr ⟨List.mem_append_left _ (List.mem_of_getElem? (i := 16) (by decide +kernel)), rfl⟩
theorem xs_17 : Cond.selects "OnceLetters" ⟨"OnceLetters", "carryOut", "(I)I"⟩ ⟨"OnceLetters", "carryOut", "(I)I"⟩ ∈ xT := List.mem_filter.mpr ⟨List.mem_append_left _ (List.mem_of_getElem? (i := 17) (by decide +kernel)), rfl⟩
theorem xs_18 : Cond.selects "OnceLetters" ⟨"OnceLetters", "entriesOfAll", "()I"⟩ ⟨"OnceLetters", "entriesOfAll", "()I"⟩ ∈ xT := List.mem_filter.mpr ⟨List.mem_append_left _ (List.mem_of_getElem? (i := 18) (by decide +kernel)), rfl⟩
theorem xs_19 : Cond.selects "OnceLetters" ⟨"OnceLetters", "markersOfAll", "()I"⟩ ⟨"OnceLetters", "markersOfAll", "()I"⟩ ∈ xT := List.mem_filter.mpr ⟨List.mem_append_left _ (List.mem_of_getElem? (i := 19) (by decide +kernel)), rfl⟩
theorem xs_20 : Cond.selects "OnceLetters" ⟨"OnceLetters", "visibleOfAll", "()I"⟩ ⟨"OnceLetters", "visibleOfAll", "()I"⟩ ∈ xT := List.mem_filter.mpr ⟨List.mem_append_left _ (List.mem_of_getElem? (i := 20) (by decide +kernel)), rfl⟩
theorem xs_21 : Cond.selects "OnceLetters" ⟨"OnceLetters", "dueOfAll", "()I"⟩ ⟨"OnceLetters", "dueOfAll", "()I"⟩ ∈ xT := List.mem_filter.mpr ⟨List.mem_append_left _ (List.mem_of_getElem? (i := 21) (by decide +kernel)), rfl⟩
theorem xs_22 : Cond.selects "OnceLetters" ⟨"OnceLetters", "mixPart", "(JI)J"⟩ ⟨"OnceLetters", "mixPart", "(JI)J"⟩ ∈ xT := List.mem_filter.mpr ⟨List.mem_append_left _ (List.mem_of_getElem? (i := 22) (by decide +kernel)), rfl⟩
theorem xs_23 : Cond.selects "OnceLetters" ⟨"OnceLetters", "mixReader", "(JI)J"⟩ ⟨"OnceLetters", "mixReader", "(JI)J"⟩ ∈ xT := List.mem_filter.mpr ⟨List.mem_append_left _ (List.mem_of_getElem? (i := 23) (by decide +kernel)), rfl⟩
theorem xs_24 : Cond.selects "OnceLettersModel" ⟨"OnceLettersModel", "lays", "(III)V"⟩ ⟨"OnceLettersModel", "lays", "(III)V"⟩ ∈ xT := List.mem_filter.mpr ⟨List.mem_append_left _ (List.mem_of_getElem? (i := 24) (by decide +kernel)), rfl⟩
theorem xs_25 : Cond.selects "OnceLettersModel" ⟨"OnceLettersModel", "bad", "()I"⟩ ⟨"OnceLettersModel", "bad", "()I"⟩ ∈ xT := List.mem_filter.mpr ⟨List.mem_append_left _ (List.mem_of_getElem? (i := 25) (by decide +kernel)), rfl⟩
theorem xs_26 : Cond.selects "OnceLettersModel" ⟨"OnceLettersModel", "refuse", "(II)I"⟩ ⟨"OnceLettersModel", "refuse", "(II)I"⟩ ∈ xT := List.mem_filter.mpr ⟨List.mem_append_left _ (List.mem_of_getElem? (i := 26) (by decide +kernel)), rfl⟩
theorem xs_27 : Cond.selects "OnceLettersModel" ⟨"OnceLettersModel", "of", "(II)I"⟩ ⟨"OnceLettersModel", "of", "(II)I"⟩ ∈ xT := List.mem_filter.mpr ⟨List.mem_append_left _ (List.mem_of_getElem? (i := 27) (by decide +kernel)), rfl⟩
theorem xs_28 : Cond.selects "OnceLettersModel" ⟨"OnceLettersModel", "notes", "()V"⟩ ⟨"OnceLettersModel", "notes", "()V"⟩ ∈ xT := List.mem_filter.mpr ⟨List.mem_append_left _ (List.mem_of_getElem? (i := 28) (by decide +kernel)), rfl⟩
theorem xs_29 : Cond.selects "OnceLettersModel" ⟨"OnceLettersModel", "keeps", "([II)V"⟩ ⟨"OnceLettersModel", "keeps", "([II)V"⟩ ∈ xT := List.mem_filter.mpr ⟨List.mem_append_left _ (List.mem_of_getElem? (i := 29) (by decide +kernel)), rfl⟩
theorem xs_30 : Cond.selects "OnceLettersModel" ⟨"OnceLettersModel", "copies", "([II[II)V"⟩ ⟨"OnceLettersModel", "copies", "([II[II)V"⟩ ∈ xT := List.mem_filter.mpr ⟨List.mem_append_left _ (List.mem_of_getElem? (i := 30) (by decide +kernel)), rfl⟩
theorem xs_31 : Cond.selects "OnceLettersModel" ⟨"OnceLettersModel", "endDeed", "(II)V"⟩ ⟨"OnceLettersModel", "endDeed", "(II)V"⟩ ∈ xT := List.mem_filter.mpr ⟨List.mem_append_left _ (List.mem_of_getElem? (i := 31) (by decide +kernel)), rfl⟩
theorem xs_32 : Cond.selects "OnceLettersModel" ⟨"OnceLettersModel", "isOver", "(I)V"⟩ ⟨"OnceLettersModel", "isOver", "(I)V"⟩ ∈ xT := List.mem_filter.mpr ⟨List.mem_append_left _ (List.mem_of_getElem? (i := 32) (by decide +kernel)), rfl⟩
theorem xs_33 : Cond.selects "OnceLettersModel" ⟨"OnceLettersModel", "isAge", "(II)Z"⟩ ⟨"OnceLettersModel", "isAge", "(II)Z"⟩ ∈ xT := List.mem_filter.mpr ⟨List.mem_append_left _ (List.mem_of_getElem? (i := 33) (by decide +kernel)), rfl⟩
theorem xs_34 : Cond.selects "OnceLettersModel" ⟨"OnceLettersModel", "manyAre", "(I)I"⟩ ⟨"OnceLettersModel", "manyAre", "(I)I"⟩ ∈ xT := List.mem_filter.mpr ⟨List.mem_append_left _ (List.mem_of_getElem? (i := 34) (by decide +kernel)), rfl⟩
theorem xs_35 : Cond.selects "OnceLettersModel" ⟨"OnceLettersModel", "twinOf", "(III)I"⟩ ⟨"OnceLettersModel", "twinOf", "(III)I"⟩ ∈ xT := List.mem_filter.mpr ⟨List.mem_append_left _ (List.mem_of_getElem? (i := 35) (by decide +kernel)), rfl⟩
theorem xs_36 : Cond.selects "OnceLettersModel" ⟨"OnceLettersModel", "sizeOf", "(I)I"⟩ ⟨"OnceLettersModel", "sizeOf", "(I)I"⟩ ∈ xT := List.mem_filter.mpr ⟨List.mem_append_left _ (List.mem_of_getElem? (i := 36) (by decide +kernel)), rfl⟩
theorem xs_37 : Cond.selects "OnceLettersModel" ⟨"OnceLettersModel", "isRecent", "(III)Z"⟩ ⟨"OnceLettersModel", "isRecent", "(III)Z"⟩ ∈ xT := List.mem_filter.mpr ⟨List.mem_append_left _ (List.mem_of_getElem? (i := 37) (by decide +kernel)), rfl⟩
theorem xs_38 : Cond.selects "OnceLettersModel" ⟨"OnceLettersModel", "cellOf", "(III)I"⟩ ⟨"OnceLettersModel", "cellOf", "(III)I"⟩ ∈ xT := List.mem_filter.mpr ⟨List.mem_append_left _ (List.mem_of_getElem? (i := 38) (by decide +kernel)), rfl⟩
theorem xs_39 : Cond.selects "OnceLettersModel" ⟨"OnceLettersModel", "dueOf", "(II)I"⟩ ⟨"OnceLettersModel", "dueOf", "(II)I"⟩ ∈ xT := List.mem_filter.mpr ⟨List.mem_append_left _ (List.mem_of_getElem? (i := 39) (by decide +kernel)), rfl⟩
theorem xs_40 : Cond.selects "OnceLettersModel" ⟨"OnceLettersModel", "owed", "(I)I"⟩ ⟨"OnceLettersModel", "owed", "(I)I"⟩ ∈ xT := List.mem_filter.mpr ⟨List.mem_append_left _ (List.mem_of_getElem? (i := 40) (by decide +kernel)), rfl⟩
theorem xs_41 : Cond.selects "OnceLettersModel" ⟨"OnceLettersModel", "lacksMark", "(II)Z"⟩ ⟨"OnceLettersModel", "lacksMark", "(II)Z"⟩ ∈ xT := List.mem_filter.mpr ⟨List.mem_append_left _ (List.mem_of_getElem? (i := 41) (by decide +kernel)), rfl⟩
theorem xs_42 : Cond.selects "OnceLettersModel" ⟨"OnceLettersModel", "writes", "(IIII)I"⟩ ⟨"OnceLettersModel", "writes", "(IIII)I"⟩ ∈ xT := List.mem_filter.mpr ⟨List.mem_append_left _ (List.mem_of_getElem? (i := 42) (by decide +kernel)), rfl⟩
theorem xs_43 : Cond.selects "OnceLettersModel" ⟨"OnceLettersModel", "put", "(IIII)V"⟩ ⟨"OnceLettersModel", "put", "(IIII)V"⟩ ∈ xT := List.mem_filter.mpr ⟨List.mem_append_left _ (List.mem_of_getElem? (i := 43) (by decide +kernel)), rfl⟩
theorem xs_44 : Cond.selects "OnceLettersModel" ⟨"OnceLettersModel", "tick", "()I"⟩ ⟨"OnceLettersModel", "tick", "()I"⟩ ∈ xT := List.mem_filter.mpr ⟨List.mem_append_left _ (List.mem_of_getElem? (i := 44) (by decide +kernel)), rfl⟩
theorem xs_45 : Cond.selects "OnceLettersModel" ⟨"OnceLettersModel", "isDue", "(II)Z"⟩ ⟨"OnceLettersModel", "isDue", "(II)Z"⟩ ∈ xT := List.mem_filter.mpr ⟨List.mem_append_left _ (List.mem_of_getElem? (i := 45) (by decide +kernel)), rfl⟩
theorem xs_46 : Cond.selects "OnceLettersModel" ⟨"OnceLettersModel", "rank", "(II)I"⟩ ⟨"OnceLettersModel", "rank", "(II)I"⟩ ∈ xT := List.mem_filter.mpr ⟨List.mem_append_left _ (List.mem_of_getElem? (i := 46) (by decide +kernel)), rfl⟩
theorem xs_47 : Cond.selects "OnceLettersModel" ⟨"OnceLettersModel", "writeMark", "(II)V"⟩ ⟨"OnceLettersModel", "writeMark", "(II)V"⟩ ∈ xT := List.mem_filter.mpr ⟨List.mem_append_left _ (List.mem_of_getElem? (i := 47) (by decide +kernel)), rfl⟩
theorem xs_48 : Cond.selects "OnceLettersModel" ⟨"OnceLettersModel", "tellWriter", "(II)I"⟩ ⟨"OnceLettersModel", "tellWriter", "(II)I"⟩ ∈ xT := List.mem_filter.mpr ⟨List.mem_append_left _ (List.mem_of_getElem? (i := 48) (by decide +kernel)), rfl⟩
theorem xs_49 : Cond.selects "OnceLettersModel" ⟨"OnceLettersModel", "toCome", "(I)I"⟩ ⟨"OnceLettersModel", "toCome", "(I)I"⟩ ∈ xT := List.mem_filter.mpr ⟨List.mem_append_left _ (List.mem_of_getElem? (i := 49) (by decide +kernel)), rfl⟩
theorem xs_50 : Cond.selects "OnceLettersModel" ⟨"OnceLettersModel", "tellEntry", "(III)I"⟩ ⟨"OnceLettersModel", "tellEntry", "(III)I"⟩ ∈ xT := List.mem_filter.mpr ⟨List.mem_append_left _ (List.mem_of_getElem? (i := 50) (by decide +kernel)), rfl⟩
theorem xs_51 : Cond.selects "OnceLettersModel" ⟨"OnceLettersModel", "stable", "(I)I"⟩ ⟨"OnceLettersModel", "stable", "(I)I"⟩ ∈ xT := List.mem_filter.mpr ⟨List.mem_append_left _ (List.mem_of_getElem? (i := 51) (by decide +kernel)), rfl⟩
theorem xs_52 : Cond.selects "OnceLettersModel" ⟨"OnceLettersModel", "holder", "(I)I"⟩ ⟨"OnceLettersModel", "holder", "(I)I"⟩ ∈ xT := List.mem_filter.mpr ⟨List.mem_append_left _ (List.mem_of_getElem? (i := 52) (by decide +kernel)), rfl⟩
theorem xs_53 : Cond.selects "OnceLettersModel" ⟨"OnceLettersModel", "isSeen", "(III)Z"⟩ ⟨"OnceLettersModel", "isSeen", "(III)Z"⟩ ∈ xT := List.mem_filter.mpr ⟨List.mem_append_left _ (List.mem_of_getElem? (i := 53) (by decide +kernel)), rfl⟩
theorem xs_54 : Cond.selects "OnceLettersModel" ⟨"OnceLettersModel", "tellPart", "(II)I"⟩ ⟨"OnceLettersModel", "tellPart", "(II)I"⟩ ∈ xT := List.mem_filter.mpr ⟨List.mem_append_left _ (List.mem_of_getElem? (i := 54) (by decide +kernel)), rfl⟩
theorem xs_55 : Cond.selects "OnceLettersModel" ⟨"OnceLettersModel", "seenFrom", "(II)I"⟩ ⟨"OnceLettersModel", "seenFrom", "(II)I"⟩ ∈ xT := List.mem_filter.mpr ⟨List.mem_append_left _ (List.mem_of_getElem? (i := 55) (by decide +kernel)), rfl⟩
theorem xs_56 : Cond.selects "OnceLettersModel" ⟨"OnceLettersModel", "marksIn", "(IZ)I"⟩ ⟨"OnceLettersModel", "marksIn", "(IZ)I"⟩ ∈ xT := List.mem_filter.mpr ⟨List.mem_append_left _ (List.mem_of_getElem? (i := 56) (by decide +kernel)), rfl⟩
theorem xs_57 : Cond.selects "OnceLettersModel" ⟨"OnceLettersModel", "isAbort", "(II)Z"⟩ ⟨"OnceLettersModel", "isAbort", "(II)Z"⟩ ∈ xT := List.mem_filter.mpr ⟨List.mem_append_left _ (List.mem_of_getElem? (i := 57) (by decide +kernel)), rfl⟩
theorem xs_58 : Cond.selects "OnceLettersModel" ⟨"OnceLettersModel", "tellAborted", "(III)I"⟩ ⟨"OnceLettersModel", "tellAborted", "(III)I"⟩ ∈ xT := List.mem_filter.mpr ⟨List.mem_append_left _ (List.mem_of_getElem? (i := 58) (by decide +kernel)), rfl⟩
theorem xs_59 : Cond.selects "OnceLettersModel" ⟨"OnceLettersModel", "aheadOf", "(II)I"⟩ ⟨"OnceLettersModel", "aheadOf", "(II)I"⟩ ∈ xT := List.mem_filter.mpr ⟨List.mem_append_left _ (List.mem_of_getElem? (i := 59) (by decide +kernel)), rfl⟩
theorem xs_60 : Cond.selects "OnceLettersModel" ⟨"OnceLettersModel", "firstSeen", "(II)I"⟩ ⟨"OnceLettersModel", "firstSeen", "(II)I"⟩ ∈ xT := List.mem_filter.mpr ⟨List.mem_append_left _ (List.mem_of_getElem? (i := 60) (by decide +kernel)), rfl⟩
theorem xs_61 : Cond.selects "OnceLettersModel" ⟨"OnceLettersModel", "tellReader", "(III)I"⟩ ⟨"OnceLettersModel", "tellReader", "(III)I"⟩ ∈ xT := List.mem_filter.mpr ⟨List.mem_append_left _ (List.mem_of_getElem? (i := 61) (by decide +kernel)), rfl⟩
theorem xs_62 : Cond.selects "OnceLettersModel" ⟨"OnceLettersModel", "parses", "()Z"⟩ ⟨"OnceLettersModel", "parses", "()Z"⟩ ∈ xT := List.mem_filter.mpr ⟨List.mem_append_left _ (List.mem_of_getElem? (i := 62) (by decide +kernel)), rfl⟩
theorem xs_63 : Cond.selects "OnceLettersModel" ⟨"OnceLettersModel", "skips", "()V"⟩ ⟨"OnceLettersModel", "skips", "()V"⟩ ∈ xT := List.mem_filter.mpr ⟨List.mem_append_left _ (List.mem_of_getElem? (i := 63) (by decide +kernel)), rfl⟩
theorem xs_64 : Cond.selects "OnceLettersModel" ⟨"OnceLettersModel", "here", "()I"⟩ ⟨"OnceLettersModel", "here", "()I"⟩ ∈ xT := List.mem_filter.mpr ⟨List.mem_append_left _ (List.mem_of_getElem? (i := 64) (by decide +kernel)), rfl⟩
theorem xs_65 : Cond.selects "OnceLettersModel" ⟨"OnceLettersModel", "order", "()Z"⟩ ⟨"OnceLettersModel", "order", "()Z"⟩ ∈ xT := List.mem_filter.mpr ⟨List.mem_append_left _ (List.mem_of_getElem? (i := 65) (by decide +kernel)), rfl⟩
theorem xs_66 : Cond.selects "OnceLettersModel" ⟨"OnceLettersModel", "stopsHere", "()Z"⟩ ⟨"OnceLettersModel", "stopsHere", "()Z"⟩ ∈ xT := List.mem_filter.mpr ⟨List.mem_append_left _ (List.mem_of_getElem? (i := 66) (by decide +kernel)), rfl⟩
theorem xs_67 : Cond.selects "OnceLettersModel" ⟨"OnceLettersModel", "number", "(I)Z"⟩ ⟨"OnceLettersModel", "number", "(I)Z"⟩ ∈ xT := List.mem_filter.mpr ⟨List.mem_append_left _ (List.mem_of_getElem? (i := 67) (by decide +kernel)), rfl⟩
theorem xs_68 : Cond.selects "OnceLettersModel" ⟨"OnceLettersModel", "isFigure", "()Z"⟩ ⟨"OnceLettersModel", "isFigure", "()Z"⟩ ∈ xT := List.mem_filter.mpr ⟨List.mem_append_left _ (List.mem_of_getElem? (i := 68) (by decide +kernel)), rfl⟩
theorem xs_69 : Cond.selects "OnceLettersModel" ⟨"OnceLettersModel", "answers", "(I)I"⟩ ⟨"OnceLettersModel", "answers", "(I)I"⟩ ∈ xT := List.mem_filter.mpr ⟨List.mem_append_left _ (List.mem_of_getElem? (i := 69) (by decide +kernel)), rfl⟩
theorem xs_70 : Cond.selects "OnceLettersModel" ⟨"OnceLettersModel", "tellAll", "(I)I"⟩ ⟨"OnceLettersModel", "tellAll", "(I)I"⟩ ∈ xT := List.mem_filter.mpr ⟨List.mem_append_left _ (List.mem_of_getElem? (i := 70) (by decide +kernel)), rfl⟩
theorem xs_71 : Cond.selects "OnceLettersModel" ⟨"OnceLettersModel", "dues", "()I"⟩ ⟨"OnceLettersModel", "dues", "()I"⟩ ∈ xT := List.mem_filter.mpr ⟨List.mem_append_left _ (List.mem_of_getElem? (i := 71) (by decide +kernel)), rfl⟩
theorem xs_72 : Cond.selects "OnceLettersModel" ⟨"OnceLettersModel", "sumOf", "(I)I"⟩ ⟨"OnceLettersModel", "sumOf", "(I)I"⟩ ∈ xT := List.mem_filter.mpr ⟨List.mem_append_left _ (List.mem_of_getElem? (i := 72) (by decide +kernel)), rfl⟩
theorem xs_73 : Cond.selects "OnceLettersModel" ⟨"OnceLettersModel", "tell", "(I)I"⟩ ⟨"OnceLettersModel", "tell", "(I)I"⟩ ∈ xT := List.mem_filter.mpr ⟨List.mem_append_left _ (List.mem_of_getElem? (i := 73) (by decide +kernel)), rfl⟩
theorem xs_74 : Cond.selects "OnceLettersModel" ⟨"OnceLettersModel", "more", "(I)V"⟩ ⟨"OnceLettersModel", "more", "(I)V"⟩ ∈ xT := List.mem_filter.mpr ⟨List.mem_append_left _ (List.mem_of_getElem? (i := 74) (by decide +kernel)), rfl⟩
theorem xs_75 : Cond.selects "OnceLettersModel" ⟨"OnceLettersModel", "morePart", "(I)V"⟩ ⟨"OnceLettersModel", "morePart", "(I)V"⟩ ∈ xT := List.mem_filter.mpr ⟨List.mem_append_left _ (List.mem_of_getElem? (i := 75) (by decide +kernel)), rfl⟩
theorem inX0 : ∀ w ∈ wsX00, w ∈ xT := by decide +kernel
theorem inX1 : ∀ w ∈ wsX10, w ∈ xT := by decide +kernel
theorem inX2 : ∀ w ∈ wsX20, w ∈ xT := by decide +kernel
theorem inX3 : ∀ w ∈ wsX30, w ∈ xT := by decide +kernel
theorem inX4 : ∀ w ∈ wsX40, w ∈ xT := by decide +kernel
theorem inX5 : ∀ w ∈ wsX50, w ∈ xT := by decide +kernel
theorem inX6 : ∀ w ∈ wsX60, w ∈ xT := by decide +kernel
end
section
/-! THE LAYER: the system's cells after the constructors are a fixed graph of named cells; what changes is a memory of ints.
A name is (kind, state, place). Kinds 0..6: objects of vwCl; 10..25: int rows of the class; 30..35: int rows of the reference; 40..43: rows of references. -/
abbrev xN : Type := Nat × Nat × Nat
abbrev xV : Type := Int32 ⊕ (Int64 ⊕ xN)
abbrev vI (x : Int32) : xV := Sum.inl x
abbrev vL (x : Int64) : xV := Sum.inr (Sum.inl x)
abbrev vR (k s w : Nat) : xV := Sum.inr (Sum.inr (k, s, w))
abbrev xA : Type := Nat → Nat → Nat → Nat → Int32
abbrev xM : Type := xA × (xA × Int64)
abbrev xG : Type := va_G × ((Nat → ClassId) × (Nat → Nat → Nat → Nat))
def xr (G : xG) (k s w : Nat) : Nat := G.2.2 k s w
def cv (G : xG) (v : xV) : Value := match v with
  | .inl x => .int x
  | .inr (.inl x) => .long x
  | .inr (.inr n) => .ref (xr G n.1 n.2.1 n.2.2)
def xcat (v : xV) : Nat := match v with
  | .inr (.inl _) => 2
  | _ => 1
theorem cv_cat (G : xG) (v : xV) : (cv G v).category = xcat v := by
  rcases v with x | x | n <;> rfl
def xLen (k : Nat) : Nat := if k < 16 then 48 else if k = 19 then 6 else if k < 22 then 3 else if k = 22 then 120 else if k = 23 then 40 else if k = 24 then 200 else if k = 25 then 5 else if k = 30 then 945 else if k = 31 then 6615 else if k = 32 then 5 else if k = 33 then 120 else if k = 34 then 40 else 200
abbrev xRefs (c : ClassId) (n : Nat) (f : Nat → Nat) : va_E := .inl (c, n, .inr (.inr (.inr (.inr (fun j => some (f j))))))
def xCell (G : xG) (μ : xM) (n : xN) : va_E :=
  if n.1 = 0 then .inr (0, [.ref (xr G 20 n.2.1 n.2.2), .ref (xr G 21 n.2.1 n.2.2)])
  else if n.1 = 1 then .inr (1, [.int (μ.1 n.1 n.2.1 n.2.2 0), .ref (xr G 10 n.2.1 n.2.2), .ref (xr G 11 n.2.1 n.2.2), .ref (xr G 12 n.2.1 n.2.2), .ref (xr G 13 n.2.1 n.2.2), .ref (xr G 14 n.2.1 n.2.2), .ref (xr G 15 n.2.1 n.2.2)])
  else if n.1 = 2 then .inr (2, [.int (μ.1 n.1 n.2.1 n.2.2 0), .int (μ.1 n.1 n.2.1 n.2.2 1), .int (μ.1 n.1 n.2.1 n.2.2 2), .int (μ.1 n.1 n.2.1 n.2.2 3), .ref (xr G 17 n.2.1 n.2.2), .ref (xr G 18 n.2.1 n.2.2), .ref (xr G 19 n.2.1 n.2.2)])
  else if n.1 = 3 then .inr (3, [.ref (xr G 22 n.2.1 n.2.2), .int (μ.1 n.1 n.2.1 n.2.2 1), .ref (xr G 23 n.2.1 n.2.2), .ref (xr G 24 n.2.1 n.2.2), .int (μ.1 n.1 n.2.1 n.2.2 4), .int (μ.1 n.1 n.2.1 n.2.2 5), .int (μ.1 n.1 n.2.1 n.2.2 6), .int (μ.1 n.1 n.2.1 n.2.2 7), .int (μ.1 n.1 n.2.1 n.2.2 8)])
  else if n.1 = 4 then .inr (4, [.int (μ.1 n.1 n.2.1 n.2.2 0), .int (μ.1 n.1 n.2.1 n.2.2 1), .ref (xr G 16 n.2.1 n.2.2), .ref (xr G 42 n.2.1 n.2.2), .ref (xr G 43 n.2.1 n.2.2)])
  else if n.1 = 5 then .inr (5, [.ref (xr G 40 n.2.1 n.2.2), .ref (xr G 4 0 0), .ref (xr G 41 n.2.1 n.2.2), .int (μ.1 n.1 n.2.1 n.2.2 3), .int (μ.1 n.1 n.2.1 n.2.2 4), .ref (xr G 3 n.2.1 n.2.2), .ref (xr G 25 n.2.1 n.2.2), .int (μ.1 n.1 n.2.1 n.2.2 7), .int (μ.1 n.1 n.2.1 n.2.2 8)])
  else if n.1 = 6 then .inr (6, [.ref (xr G 30 n.2.1 n.2.2), .ref (xr G 31 n.2.1 n.2.2), .int (μ.2.1 n.1 n.2.1 n.2.2 2), .int (μ.2.1 n.1 n.2.1 n.2.2 3), .ref (xr G 32 n.2.1 n.2.2), .ref (xr G 33 n.2.1 n.2.2), .int (μ.2.1 n.1 n.2.1 n.2.2 6), .int (μ.2.1 n.1 n.2.1 n.2.2 7), .int (μ.2.1 n.1 n.2.1 n.2.2 8), .int (μ.2.1 n.1 n.2.1 n.2.2 9), .ref (xr G 34 n.2.1 n.2.2), .ref (xr G 35 n.2.1 n.2.2), .int (μ.2.1 n.1 n.2.1 n.2.2 12), .long μ.2.2])
  else if n.1 = 40 then xRefs (G.2.1 1) 3 (fun j => xr G 1 0 j)
  else if n.1 = 41 then xRefs (G.2.1 2) 6 (fun j => xr G 4 (j + 1) 0)
  else if n.1 = 42 then xRefs (G.2.1 3) 4 (fun j => xr G 2 n.2.1 j)
  else if n.1 = 43 then xRefs (G.2.1 4) 2 (fun j => xr G 0 n.2.1 j)
  else if n.1 < 30 then .inl (G.2.1 0, xLen n.1, .inl (fun j => μ.1 n.1 n.2.1 n.2.2 j))
  else .inl (G.2.1 0, xLen n.1, .inl (fun j => μ.2.1 n.1 n.2.1 n.2.2 j))
theorem xCell_same {G : xG} {μ μ' : xM} {n : xN} (h1 : ∀ j, μ'.1 n.1 n.2.1 n.2.2 j = μ.1 n.1 n.2.1 n.2.2 j) (h2 : ∀ j, μ'.2.1 n.1 n.2.1 n.2.2 j = μ.2.1 n.1 n.2.1 n.2.2 j) (h3 : n.1 = 6 → μ'.2.2 = μ.2.2) : xCell G μ' n = xCell G μ n := by
  by_cases h6 : n.1 = 6
  · simp only [xCell, h1, h2, h3 h6]
  · simp only [xCell, h1, h2, if_neg h6]
def xNms : List xN := [(5, 0, 0), (3, 0, 0), (6, 0, 0), (40, 0, 0), (41, 0, 0), (22, 0, 0), (23, 0, 0), (24, 0, 0), (25, 0, 0), (30, 0, 0), (31, 0, 0), (32, 0, 0), (33, 0, 0), (34, 0, 0), (35, 0, 0)]
  ++ (List.range 3).flatMap (fun p => [(1, 0, p), (10, 0, p), (11, 0, p), (12, 0, p), (13, 0, p), (14, 0, p), (15, 0, p)])
  ++ (List.range 7).flatMap (fun s => [(4, s, 0), (16, s, 0), (42, s, 0), (43, s, 0)] ++ (List.range 4).flatMap (fun w => [(2, s, w), (17, s, w), (18, s, w), (19, s, w)]) ++ (List.range 2).flatMap (fun r => [(0, s, r), (20, s, r), (21, s, r)]))
theorem xNodup : xNms.Nodup := by decide +kernel
def xadr (G : xG) (n : xN) : Nat := xr G n.1 n.2.1 n.2.2
def xWs (G : xG) (μ : xM) : va_W := xNms.map (fun n => (xadr G n, xCell G μ n))
theorem xAt {n : xN} (h : n ∈ xNms) : ∃ k : Nat, xNms[k]? = some n := List.getElem?_of_mem h
theorem xWs_get {G : xG} {μ : xM} {n : xN} {k : Nat} (hk : xNms[k]? = some n) : (xWs G μ)[k]? = some (xadr G n, xCell G μ n) := by
  rw [xWs, List.getElem?_map, hk]; rfl
theorem xWs_set {G : xG} {μ μ' : xM} {n : xN} {k : Nat} {e : va_E} (hk : xNms[k]? = some n) (he : e = xCell G μ' n) (h : ∀ n' ∈ xNms, n' ≠ n → xCell G μ' n' = xCell G μ n') : (xWs G μ).set k (xadr G n, e) = xWs G μ' := by
  have hl : k < xNms.length := (List.getElem?_eq_some_iff.mp hk).1
  have hl2 : k < (xWs G μ).length := by rw [xWs, List.length_map]; exact hl
  apply List.ext_getElem?
  intro i
  by_cases hi : i = k
  · subst hi
    rw [List.getElem?_set_self hl2, xWs_get hk, he]
  · rw [List.getElem?_set_ne (Ne.symm hi), xWs, xWs, List.getElem?_map, List.getElem?_map]
    cases hx : xNms[i]? with
    | none => rfl
    | some n' =>
      have hne : n' ≠ n := by
        intro e2
        subst e2
        exact hi ((List.getElem?_inj (List.getElem?_eq_some_iff.mp hx).1 xNodup).mp (hx.trans hk.symm))
      show some (xadr G n', xCell G μ n') = some (xadr G n', xCell G μ' n')
      rw [h n' (List.mem_of_getElem? hx) hne]
/-- which cells a method may change -/
def xF (G : xG) (sz : Nat) : Nat → Prop := fun q => (∃ n ∈ xNms, q = xadr G n) ∨ sz ≤ q
theorem xF_of {G : xG} {sz : Nat} {μ : xM} {k : Nat} {q : Nat × va_E} (h : (xWs G μ)[k]? = some q) : xF G sz q.1 := by
  rw [xWs, List.getElem?_map] at h
  cases hx : xNms[k]? with
  | none => rw [hx] at h; cases h
  | some n =>
    rw [hx] at h
    cases h
    exact Or.inl ⟨n, List.mem_of_getElem? hx, rfl⟩
theorem xF_D {G : xG} {sz : Nat} {μ : xM} {A : Nat → Prop} (h : va_D A (xWs G μ)) : va_D (xF G sz) (xWs G μ) := ⟨h.1, fun k q hk => xF_of hk⟩
/-- a method: name, code, maxLocals, what it returns, frames and locals of the room that it asks -/
abbrev xMt : Type := MethodName × ByteArray × Nat × Option FieldType × Nat × Nat
def xRm (M : xMt) : Room := { frames := M.2.2.2.2.1, cells := 0, slots := 0, locals := M.2.2.2.2.2 }
def xTy (G : xG) : List (ClassId × FieldType) := [(G.2.1 0, .int), (G.2.1 1, .object "OnceLetters$Log"), (G.2.1 2, .object "OnceLetters$State"), (G.2.1 3, .object "OnceLetters$Producer"), (G.2.1 4, .object "OnceLetters$Consumer")]
def xW (M : xMt) : List Cond := .code M.1 M.2.1 M.2.2.1 M.2.2.2.1 :: xT
abbrev xPo : Type := Option xV → xM → Prop
def xQ (G : xG) (Q : xPo) (A : Nat → Prop) : Array Value → State → Outcome → State → Prop := fun _ st oc t =>
  (∃ (v : Option xV) (μ : xM), oc = .returned (v.map (cv G)) ∧ Q v μ ∧ va_P G.1 vwCl (xWs G μ) t.heap ∧ va_K G.1 vwCl (xTy G) t ∧ va_D A (xWs G μ)) ∧ va_F A st t
def xPre (G : xG) (μ : xM) (sz : Nat) (U : State) : Prop := U.heap.size = sz ∧ va_P G.1 vwCl (xWs G μ) U.heap ∧ va_K G.1 vwCl (xTy G) U ∧ va_D (fun _ => True) (xWs G μ)
/-- the method's contract: from memory μ with these arguments it returns, and Q holds of answer and memory -/
def xCalls (M : xMt) (av : List xV) (μ : xM) (Q : xPo) : Prop := ∀ (l : Launch) (G : xG) (sz : Nat), Met l M.1 (xW M) (xRm M) (va_Pc (av.map (cv G)) (xPre G μ sz)) (xQ G Q (xF G sz)) 0 0 (xF G sz)
/-- what holds inside a method -/
def xC (M : xMt) (p : Program) (s : State) (m : MethodId) (args : Array Value) (meth : Method) (c : Code) (G : xG) : Prop :=
  p.tables.exec = Jvm.exec ∧ c.code = M.2.1 ∧ meth.sig.returnType = M.2.2.2.1 ∧ c.maxLocals = M.2.2.1 ∧ s.vm.findClass M.1.cls = some m.cls ∧ (∀ w ∈ xT, w.before args s = true) ∧ meth.locks = false ∧ va_K G.1 vwCl (xTy G) s
def xLs (G : xG) (ls : List (Nat × xV)) : List (Nat × Value) := ls.map (fun q => (q.1, cv G q.2))
/-- the machine, in method M at pc with these locals and this stack and memory, comes to the method's end with Q -/
def xOk (M : xMt) (pc : Nat) (ls : List (Nat × xV)) (st : List xV) (μ : xM) (Q : xPo) : Prop :=
  ∀ (p : Program) (l : Launch) (e : Env) (s : State) (m : MethodId) (args : Array Value) (below : List Frame) (meth : Method) (c : Code) (G : xG) (H : Heap) (locs : List Loc) (la : Array Slot),
    xC M p s m args meth c G → va_P G.1 vwCl (xWs G μ) H → va_D (xF G s.heap.size) (xWs G μ) → va_S (xF G s.heap.size) s.heap H locs → lv_has la M.2.2.1 (xLs G ls) →
    W p l e (xRm M) s m args below meth c H locs 0 0 (MQ below (xQ G Q (xF G s.heap.size)) args s 0 0 (xF G s.heap.size)) (F0 m pc la (st.map (cv G)))
theorem xl_at {G : xG} {la : Array Slot} {nL : Nat} {ls : List (Nat × xV)} (h : lv_has la nL (xLs G ls)) {k i : Nat} {v : xV} (hk : ls[k]? = some (i, v)) : la[i]? = some (.val (cv G v)) := by
  refine lv_at h k (v := cv G v) ?_
  rw [xLs, List.getElem?_map, hk]; rfl
def xSto (i : Nat) (v : xV) (ls : List (Nat × xV)) : List (Nat × xV) := (i, v) :: ls.filter (fun q => !(q.1 == i) && !(q.1 + 1 == i && xcat q.2 == 2))
theorem xSto_eq (G : xG) (i : Nat) (v : xV) (ls : List (Nat × xV)) : (i, cv G v) :: (xLs G ls).filter (fun q => !(q.1 == i) && !(q.1 + 1 == i && q.2.category == 2)) = xLs G (xSto i v ls) := by
  unfold xSto xLs
  rw [List.map_cons, List.filter_map]
  congr 3
  funext q
  simp only [Function.comp, cv_cat]
def xStoL (i : Nat) (v : xV) (ls : List (Nat × xV)) : List (Nat × xV) := (i, v) :: ls.filter (fun q => !(q.1 == i) && (!(q.1 == i + 1) && !(q.1 + 1 == i && xcat q.2 == 2)))
theorem xStoL_eq (G : xG) (i : Nat) (v : xV) (ls : List (Nat × xV)) : (i, cv G v) :: (xLs G ls).filter (fun q => !(q.1 == i) && (!(q.1 == i + 1) && !(q.1 + 1 == i && q.2.category == 2))) = xLs G (xStoL i v ls) := by
  unfold xStoL xLs
  rw [List.map_cons, List.filter_map]
  congr 3
  funext q
  simp only [Function.comp, cv_cat]
/-- other locals, each of them among those that are there -/
theorem ok_sub {M : xMt} {pc : Nat} {ls : List (Nat × xV)} {st : List xV} {μ : xM} {Q : xPo} (ls' : List (Nat × xV)) (ks : List Nat) (hs : ks.filterMap (fun k => ls[k]?) = ls') (kk : xOk M pc ls' st μ Q) : xOk M pc ls st μ Q := by
  intro p l e s m args below meth c G H locs la C hP hD hS hL
  refine kk p l e s m args below meth c G H locs la C hP hD hS ⟨hL.1, hL.2.1, fun q hq => ?_⟩
  subst hs
  obtain ⟨q0, h0, rfl⟩ := List.mem_map.mp hq
  obtain ⟨k, -, hk⟩ := List.mem_filterMap.mp h0
  exact hL.2.2 _ (List.mem_map.mpr ⟨q0, List.mem_of_getElem? hk, rfl⟩)
end
section
theorem xl_get {G : xG} {ls : List (Nat × xV)} {k i : Nat} {v : xV} (hk : ls[k]? = some (i, v)) : (xLs G ls)[k]? = some (i, cv G v) := by
  rw [xLs, List.getElem?_map, hk]; rfl
theorem ok_iconst {M : xMt} {pc : Nat} {ls : List (Nat × xV)} {st : List xV} {μ : xM} {Q : xPo} {n : Int} {v : Int32} (hd : decode M.2.1 pc = .ok (.iconst n, 1)) (hv : Int32.ofInt n = v) (kk : xOk M (pc + 1) ls (vI v :: st) μ Q) : xOk M pc ls (st) μ Q := by
  intro p l e s m args below meth c G H locs la C hP hD hS hL
  exact lv_iconst C.1 C.2.1 hd hv (kk p l e s m args below meth c G H locs la C hP hD hS hL)
theorem ok_bipush {M : xMt} {pc : Nat} {ls : List (Nat × xV)} {st : List xV} {μ : xM} {Q : xPo} {n : Int} {v : Int32} (hd : decode M.2.1 pc = .ok (.bipush n, 2)) (hv : (Int8.ofInt n).toInt32 = v) (kk : xOk M (pc + 2) ls (vI v :: st) μ Q) : xOk M pc ls (st) μ Q := by
  intro p l e s m args below meth c G H locs la C hP hD hS hL
  exact lv_bipush C.1 C.2.1 hd hv (kk p l e s m args below meth c G H locs la C hP hD hS hL)
theorem ok_sipush {M : xMt} {pc : Nat} {ls : List (Nat × xV)} {st : List xV} {μ : xM} {Q : xPo} {n : Int} {v : Int32} (hd : decode M.2.1 pc = .ok (.sipush n, 3)) (hv : (Int16.ofInt n).toInt32 = v) (kk : xOk M (pc + 3) ls (vI v :: st) μ Q) : xOk M pc ls (st) μ Q := by
  intro p l e s m args below meth c G H locs la C hP hD hS hL
  exact lv_sipush C.1 C.2.1 hd hv (kk p l e s m args below meth c G H locs la C hP hD hS hL)
theorem ok_ldc2 {M : xMt} {pc : Nat} {ls : List (Nat × xV)} {st : List xV} {μ : xM} {Q : xPo} {index : Nat} {v : Int64} (hd : decode M.2.1 pc = .ok (.ldc2_w index, 3)) (hw : Cond.constantLong M.1.cls index v ∈ xT) (kk : xOk M (pc + 3) ls (vL v :: st) μ Q) : xOk M pc ls (st) μ Q := by
  intro p l e s m args below meth c G H locs la C hP hD hS hL
  exact lv_ldc2 C.1 C.2.1 C.2.2.2.2.1 (C.2.2.2.2.2.1 _ hw) hd (kk p l e s m args below meth c G H locs la C hP hD hS hL)
theorem ok_iload_n {M : xMt} {pc : Nat} {ls : List (Nat × xV)} {st : List xV} {μ : xM} {Q : xPo} {k : Fin 4} {i j : Nat} {x : Int32} (hd : decode M.2.1 pc = .ok (.iload_n k, 1)) (hi : (k : Nat) = i) (hl : ls[j]? = some (i, vI x)) (kk : xOk M (pc + 1) ls (vI x :: st) μ Q) : xOk M pc ls (st) μ Q := by
  intro p l e s m args below meth c G H locs la C hP hD hS hL
  exact lv_iload_n C.1 C.2.1 hd hi (xl_at hL hl) (kk p l e s m args below meth c G H locs la C hP hD hS hL)
theorem ok_iload {M : xMt} {pc : Nat} {ls : List (Nat × xV)} {st : List xV} {μ : xM} {Q : xPo} {i j : Nat} {x : Int32} (hd : decode M.2.1 pc = .ok (.iload i, 2)) (hl : ls[j]? = some (i, vI x)) (kk : xOk M (pc + 2) ls (vI x :: st) μ Q) : xOk M pc ls (st) μ Q := by
  intro p l e s m args below meth c G H locs la C hP hD hS hL
  exact lv_iload C.1 C.2.1 hd (xl_at hL hl) (kk p l e s m args below meth c G H locs la C hP hD hS hL)
theorem ok_lload_n {M : xMt} {pc : Nat} {ls : List (Nat × xV)} {st : List xV} {μ : xM} {Q : xPo} {k : Fin 4} {i j : Nat} {x : Int64} (hd : decode M.2.1 pc = .ok (.lload_n k, 1)) (hi : (k : Nat) = i) (hl : ls[j]? = some (i, vL x)) (kk : xOk M (pc + 1) ls (vL x :: st) μ Q) : xOk M pc ls (st) μ Q := by
  intro p l e s m args below meth c G H locs la C hP hD hS hL
  exact lv_lload_n C.1 C.2.1 hd hi (xl_at hL hl) (kk p l e s m args below meth c G H locs la C hP hD hS hL)
theorem ok_lload {M : xMt} {pc : Nat} {ls : List (Nat × xV)} {st : List xV} {μ : xM} {Q : xPo} {i j : Nat} {x : Int64} (hd : decode M.2.1 pc = .ok (.lload i, 2)) (hl : ls[j]? = some (i, vL x)) (kk : xOk M (pc + 2) ls (vL x :: st) μ Q) : xOk M pc ls (st) μ Q := by
  intro p l e s m args below meth c G H locs la C hP hD hS hL
  exact lv_lload C.1 C.2.1 hd (xl_at hL hl) (kk p l e s m args below meth c G H locs la C hP hD hS hL)
theorem ok_aload_n {M : xMt} {pc : Nat} {ls : List (Nat × xV)} {st : List xV} {μ : xM} {Q : xPo} {k : Fin 4} {i j a b d : Nat} (hd : decode M.2.1 pc = .ok (.aload_n k, 1)) (hi : (k : Nat) = i) (hl : ls[j]? = some (i, vR a b d)) (kk : xOk M (pc + 1) ls (vR a b d :: st) μ Q) : xOk M pc ls (st) μ Q := by
  intro p l e s m args below meth c G H locs la C hP hD hS hL
  exact lv_aload_n C.1 C.2.1 hd hi (xl_at hL hl) (kk p l e s m args below meth c G H locs la C hP hD hS hL)
theorem ok_aload {M : xMt} {pc : Nat} {ls : List (Nat × xV)} {st : List xV} {μ : xM} {Q : xPo} {i j a b d : Nat} (hd : decode M.2.1 pc = .ok (.aload i, 2)) (hl : ls[j]? = some (i, vR a b d)) (kk : xOk M (pc + 2) ls (vR a b d :: st) μ Q) : xOk M pc ls (st) μ Q := by
  intro p l e s m args below meth c G H locs la C hP hD hS hL
  exact lv_aload C.1 C.2.1 hd (xl_at hL hl) (kk p l e s m args below meth c G H locs la C hP hD hS hL)
theorem ok_istore_n {M : xMt} {pc : Nat} {ls : List (Nat × xV)} {st : List xV} {μ : xM} {Q : xPo} {k : Fin 4} {i : Nat} {x : Int32} {ls2 : List (Nat × xV)} (hd : decode M.2.1 pc = .ok (.istore_n k, 1)) (hi : (k : Nat) = i) (hn : i < M.2.2.1) (hs : xSto i (vI x) ls = ls2) (kk : xOk M (pc + 1) ls2 (st) μ Q) : xOk M pc ls (vI x :: st) μ Q := by
  intro p l e s m args below meth c G H locs la C hP hD hS hL
  exact lv_istore_n C.1 C.2.1 hd hi hL hn ((xSto_eq G i (vI x) ls).trans (congrArg (xLs G) hs)) (fun la hL => kk p l e s m args below meth c G H locs la C hP hD hS hL)
theorem ok_istore {M : xMt} {pc : Nat} {ls : List (Nat × xV)} {st : List xV} {μ : xM} {Q : xPo} {i : Nat} {x : Int32} {ls2 : List (Nat × xV)} (hd : decode M.2.1 pc = .ok (.istore i, 2)) (hn : i < M.2.2.1) (hs : xSto i (vI x) ls = ls2) (kk : xOk M (pc + 2) ls2 (st) μ Q) : xOk M pc ls (vI x :: st) μ Q := by
  intro p l e s m args below meth c G H locs la C hP hD hS hL
  exact lv_istore C.1 C.2.1 hd hL hn ((xSto_eq G i (vI x) ls).trans (congrArg (xLs G) hs)) (fun la hL => kk p l e s m args below meth c G H locs la C hP hD hS hL)
theorem ok_astore_n {M : xMt} {pc : Nat} {ls : List (Nat × xV)} {st : List xV} {μ : xM} {Q : xPo} {k : Fin 4} {i : Nat} {a b d : Nat} {ls2 : List (Nat × xV)} (hd : decode M.2.1 pc = .ok (.astore_n k, 1)) (hi : (k : Nat) = i) (hn : i < M.2.2.1) (hs : xSto i (vR a b d) ls = ls2) (kk : xOk M (pc + 1) ls2 (st) μ Q) : xOk M pc ls (vR a b d :: st) μ Q := by
  intro p l e s m args below meth c G H locs la C hP hD hS hL
  exact lv_astore_n C.1 C.2.1 hd hi hL hn ((xSto_eq G i (vR a b d) ls).trans (congrArg (xLs G) hs)) (fun la hL => kk p l e s m args below meth c G H locs la C hP hD hS hL)
theorem ok_astore {M : xMt} {pc : Nat} {ls : List (Nat × xV)} {st : List xV} {μ : xM} {Q : xPo} {i : Nat} {a b d : Nat} {ls2 : List (Nat × xV)} (hd : decode M.2.1 pc = .ok (.astore i, 2)) (hn : i < M.2.2.1) (hs : xSto i (vR a b d) ls = ls2) (kk : xOk M (pc + 2) ls2 (st) μ Q) : xOk M pc ls (vR a b d :: st) μ Q := by
  intro p l e s m args below meth c G H locs la C hP hD hS hL
  exact lv_astore C.1 C.2.1 hd hL hn ((xSto_eq G i (vR a b d) ls).trans (congrArg (xLs G) hs)) (fun la hL => kk p l e s m args below meth c G H locs la C hP hD hS hL)
theorem ok_lstore_n {M : xMt} {pc : Nat} {ls : List (Nat × xV)} {st : List xV} {μ : xM} {Q : xPo} {k : Fin 4} {i : Nat} {x : Int64} {ls2 : List (Nat × xV)} (hd : decode M.2.1 pc = .ok (.lstore_n k, 1)) (hi : (k : Nat) = i) (hn : i + 1 < M.2.2.1) (hs : xStoL i (vL x) ls = ls2) (kk : xOk M (pc + 1) ls2 (st) μ Q) : xOk M pc ls (vL x :: st) μ Q := by
  intro p l e s m args below meth c G H locs la C hP hD hS hL
  exact lv_lstore_n C.1 C.2.1 hd hi hL hn ((xStoL_eq G i (vL x) ls).trans (congrArg (xLs G) hs)) (fun la hL => kk p l e s m args below meth c G H locs la C hP hD hS hL)
theorem ok_lstore {M : xMt} {pc : Nat} {ls : List (Nat × xV)} {st : List xV} {μ : xM} {Q : xPo} {i : Nat} {x : Int64} {ls2 : List (Nat × xV)} (hd : decode M.2.1 pc = .ok (.lstore i, 2)) (hn : i + 1 < M.2.2.1) (hs : xStoL i (vL x) ls = ls2) (kk : xOk M (pc + 2) ls2 (st) μ Q) : xOk M pc ls (vL x :: st) μ Q := by
  intro p l e s m args below meth c G H locs la C hP hD hS hL
  exact lv_lstore C.1 C.2.1 hd hL hn ((xStoL_eq G i (vL x) ls).trans (congrArg (xLs G) hs)) (fun la hL => kk p l e s m args below meth c G H locs la C hP hD hS hL)
theorem ok_iinc {M : xMt} {pc : Nat} {ls : List (Nat × xV)} {st : List xV} {μ : xM} {Q : xPo} {i j : Nat} {n : Int} {x v : Int32} {ls2 : List (Nat × xV)} (hd : decode M.2.1 pc = .ok (.iinc i n, 3)) (hl : ls[j]? = some (i, vI x)) (hv : x + Int32.ofInt n = v) (hn : i < M.2.2.1) (hs : xSto i (vI v) ls = ls2) (kk : xOk M (pc + 3) ls2 (st) μ Q) : xOk M pc ls (st) μ Q := by
  intro p l e s m args below meth c G H locs la C hP hD hS hL
  exact lv_iinc (k := j) C.1 C.2.1 hd hL (xl_get hl) hv hn ((xSto_eq G i (vI v) ls).trans (congrArg (xLs G) hs)) (fun la hL => kk p l e s m args below meth c G H locs la C hP hD hS hL)
theorem ok_iadd {M : xMt} {pc : Nat} {ls : List (Nat × xV)} {st : List xV} {μ : xM} {Q : xPo} {x y : Int32} (hd : decode M.2.1 pc = .ok (.iadd, 1)) (kk : xOk M (pc + 1) ls (vI (x + y) :: st) μ Q) : xOk M pc ls (vI y :: vI x :: st) μ Q := by
  intro p l e s m args below meth c G H locs la C hP hD hS hL
  exact lv_iadd C.1 C.2.1 hd (kk p l e s m args below meth c G H locs la C hP hD hS hL)
theorem ok_isub {M : xMt} {pc : Nat} {ls : List (Nat × xV)} {st : List xV} {μ : xM} {Q : xPo} {x y : Int32} (hd : decode M.2.1 pc = .ok (.isub, 1)) (kk : xOk M (pc + 1) ls (vI (x - y) :: st) μ Q) : xOk M pc ls (vI y :: vI x :: st) μ Q := by
  intro p l e s m args below meth c G H locs la C hP hD hS hL
  exact lv_isub C.1 C.2.1 hd (kk p l e s m args below meth c G H locs la C hP hD hS hL)
theorem ok_imul {M : xMt} {pc : Nat} {ls : List (Nat × xV)} {st : List xV} {μ : xM} {Q : xPo} {x y : Int32} (hd : decode M.2.1 pc = .ok (.imul, 1)) (kk : xOk M (pc + 1) ls (vI (x * y) :: st) μ Q) : xOk M pc ls (vI y :: vI x :: st) μ Q := by
  intro p l e s m args below meth c G H locs la C hP hD hS hL
  exact lv_imul C.1 C.2.1 hd (kk p l e s m args below meth c G H locs la C hP hD hS hL)
theorem ok_iand {M : xMt} {pc : Nat} {ls : List (Nat × xV)} {st : List xV} {μ : xM} {Q : xPo} {x y : Int32} (hd : decode M.2.1 pc = .ok (.iand, 1)) (kk : xOk M (pc + 1) ls (vI (x &&& y) :: st) μ Q) : xOk M pc ls (vI y :: vI x :: st) μ Q := by
  intro p l e s m args below meth c G H locs la C hP hD hS hL
  exact lv_iand C.1 C.2.1 hd (kk p l e s m args below meth c G H locs la C hP hD hS hL)
theorem ok_ior {M : xMt} {pc : Nat} {ls : List (Nat × xV)} {st : List xV} {μ : xM} {Q : xPo} {x y : Int32} (hd : decode M.2.1 pc = .ok (.ior, 1)) (kk : xOk M (pc + 1) ls (vI (x ||| y) :: st) μ Q) : xOk M pc ls (vI y :: vI x :: st) μ Q := by
  intro p l e s m args below meth c G H locs la C hP hD hS hL
  exact lv_ior C.1 C.2.1 hd (kk p l e s m args below meth c G H locs la C hP hD hS hL)
theorem ok_ixor {M : xMt} {pc : Nat} {ls : List (Nat × xV)} {st : List xV} {μ : xM} {Q : xPo} {x y : Int32} (hd : decode M.2.1 pc = .ok (.ixor, 1)) (kk : xOk M (pc + 1) ls (vI (x ^^^ y) :: st) μ Q) : xOk M pc ls (vI y :: vI x :: st) μ Q := by
  intro p l e s m args below meth c G H locs la C hP hD hS hL
  exact lv_ixor C.1 C.2.1 hd (kk p l e s m args below meth c G H locs la C hP hD hS hL)
theorem ok_ishl {M : xMt} {pc : Nat} {ls : List (Nat × xV)} {st : List xV} {μ : xM} {Q : xPo} {x y : Int32} (hd : decode M.2.1 pc = .ok (.ishl, 1)) (kk : xOk M (pc + 1) ls (vI (x <<< (y &&& 31)) :: st) μ Q) : xOk M pc ls (vI y :: vI x :: st) μ Q := by
  intro p l e s m args below meth c G H locs la C hP hD hS hL
  exact lv_ishl C.1 C.2.1 hd (kk p l e s m args below meth c G H locs la C hP hD hS hL)
theorem ok_ishr {M : xMt} {pc : Nat} {ls : List (Nat × xV)} {st : List xV} {μ : xM} {Q : xPo} {x y : Int32} (hd : decode M.2.1 pc = .ok (.ishr, 1)) (kk : xOk M (pc + 1) ls (vI (x >>> (y &&& 31)) :: st) μ Q) : xOk M pc ls (vI y :: vI x :: st) μ Q := by
  intro p l e s m args below meth c G H locs la C hP hD hS hL
  exact lv_ishr C.1 C.2.1 hd (kk p l e s m args below meth c G H locs la C hP hD hS hL)
theorem ok_idiv {M : xMt} {pc : Nat} {ls : List (Nat × xV)} {st : List xV} {μ : xM} {Q : xPo} {x y : Int32} (hd : decode M.2.1 pc = .ok (.idiv, 1)) (hne : ¬ y = 0) (kk : xOk M (pc + 1) ls (vI (x / y) :: st) μ Q) : xOk M pc ls (vI y :: vI x :: st) μ Q := by
  intro p l e s m args below meth c G H locs la C hP hD hS hL
  exact lv_idiv C.1 C.2.1 hd hne (kk p l e s m args below meth c G H locs la C hP hD hS hL)
theorem ok_irem {M : xMt} {pc : Nat} {ls : List (Nat × xV)} {st : List xV} {μ : xM} {Q : xPo} {x y : Int32} (hd : decode M.2.1 pc = .ok (.irem, 1)) (hne : ¬ y = 0) (kk : xOk M (pc + 1) ls (vI (x - x / y * y) :: st) μ Q) : xOk M pc ls (vI y :: vI x :: st) μ Q := by
  intro p l e s m args below meth c G H locs la C hP hD hS hL
  exact lv_irem C.1 C.2.1 hd hne (kk p l e s m args below meth c G H locs la C hP hD hS hL)
theorem ok_ladd {M : xMt} {pc : Nat} {ls : List (Nat × xV)} {st : List xV} {μ : xM} {Q : xPo} {x y : Int64} (hd : decode M.2.1 pc = .ok (.ladd, 1)) (kk : xOk M (pc + 1) ls (vL (x + y) :: st) μ Q) : xOk M pc ls (vL y :: vL x :: st) μ Q := by
  intro p l e s m args below meth c G H locs la C hP hD hS hL
  exact lv_ladd C.1 C.2.1 hd (kk p l e s m args below meth c G H locs la C hP hD hS hL)
theorem ok_lmul {M : xMt} {pc : Nat} {ls : List (Nat × xV)} {st : List xV} {μ : xM} {Q : xPo} {x y : Int64} (hd : decode M.2.1 pc = .ok (.lmul, 1)) (kk : xOk M (pc + 1) ls (vL (x * y) :: st) μ Q) : xOk M pc ls (vL y :: vL x :: st) μ Q := by
  intro p l e s m args below meth c G H locs la C hP hD hS hL
  exact lv_lmul C.1 C.2.1 hd (kk p l e s m args below meth c G H locs la C hP hD hS hL)
theorem ok_i2l {M : xMt} {pc : Nat} {ls : List (Nat × xV)} {st : List xV} {μ : xM} {Q : xPo} {x : Int32} (hd : decode M.2.1 pc = .ok (.i2l, 1)) (kk : xOk M (pc + 1) ls (vL x.toInt64 :: st) μ Q) : xOk M pc ls (vI x :: st) μ Q := by
  intro p l e s m args below meth c G H locs la C hP hD hS hL
  exact lv_i2l C.1 C.2.1 hd rfl (kk p l e s m args below meth c G H locs la C hP hD hS hL)
theorem ok_dup {M : xMt} {pc : Nat} {ls : List (Nat × xV)} {st : List xV} {μ : xM} {Q : xPo} {v : xV} (hd : decode M.2.1 pc = .ok (.dup, 1)) (hc : xcat v = 1) (kk : xOk M (pc + 1) ls (v :: v :: st) μ Q) : xOk M pc ls (v :: st) μ Q := by
  intro p l e s m args below meth c G H locs la C hP hD hS hL
  exact lv_dup C.1 C.2.1 hd ((cv_cat G v).trans hc) (kk p l e s m args below meth c G H locs la C hP hD hS hL)
theorem ok_dup2 {M : xMt} {pc : Nat} {ls : List (Nat × xV)} {st : List xV} {μ : xM} {Q : xPo} {u v : xV} (hd : decode M.2.1 pc = .ok (.dup2, 1)) (hc : xcat u = 1) (hc2 : xcat v = 1) (kk : xOk M (pc + 1) ls (u :: v :: u :: v :: st) μ Q) : xOk M pc ls (u :: v :: st) μ Q := by
  intro p l e s m args below meth c G H locs la C hP hD hS hL
  exact lv_dup2_11 C.1 C.2.1 hd ((cv_cat G u).trans hc) ((cv_cat G v).trans hc2) (kk p l e s m args below meth c G H locs la C hP hD hS hL)
theorem ok_dup_x1 {M : xMt} {pc : Nat} {ls : List (Nat × xV)} {st : List xV} {μ : xM} {Q : xPo} {u v : xV} (hd : decode M.2.1 pc = .ok (.dup_x1, 1)) (hc : xcat u = 1) (hc2 : xcat v = 1) (kk : xOk M (pc + 1) ls (u :: v :: u :: st) μ Q) : xOk M pc ls (u :: v :: st) μ Q := by
  intro p l e s m args below meth c G H locs la C hP hD hS hL
  exact lv_dup_x1 C.1 C.2.1 hd ((cv_cat G u).trans hc) ((cv_cat G v).trans hc2) (kk p l e s m args below meth c G H locs la C hP hD hS hL)
theorem ok_pop {M : xMt} {pc : Nat} {ls : List (Nat × xV)} {st : List xV} {μ : xM} {Q : xPo} {v : xV} (hd : decode M.2.1 pc = .ok (.pop, 1)) (hc : xcat v = 1) (kk : xOk M (pc + 1) ls (st) μ Q) : xOk M pc ls (v :: st) μ Q := by
  intro p l e s m args below meth c G H locs la C hP hD hS hL
  exact lv_pop C.1 C.2.1 hd ((cv_cat G v).trans hc) (kk p l e s m args below meth c G H locs la C hP hD hS hL)
theorem ok_goto {M : xMt} {pc : Nat} {ls : List (Nat × xV)} {st : List xV} {μ : xM} {Q : xPo} {off : Int} {tgt : Nat} (hd : decode M.2.1 pc = .ok (.goto off, 3)) (ht : (pc : Int) + off = (tgt : Int)) (kk : xOk M tgt ls (st) μ Q) : xOk M pc ls (st) μ Q := by
  intro p l e s m args below meth c G H locs la C hP hD hS hL
  exact lv_goto C.1 C.2.1 hd ht (kk p l e s m args below meth c G H locs la C hP hD hS hL)
theorem ok_if_eq {M : xMt} {pc : Nat} {ls : List (Nat × xV)} {st : List xV} {μ : xM} {Q : xPo} {x : Int32} {off : Int} {tgt : Nat} (hd : decode M.2.1 pc = .ok (.ifCond .eq off, 3)) (ht : (pc : Int) + off = (tgt : Int)) (kk : (x = 0 → xOk M tgt ls st μ Q) ∧ (¬ x = 0 → xOk M (pc + 3) ls st μ Q)) : xOk M pc ls (vI x :: st) μ Q := by
  intro p l e s m args below meth c G H locs la C hP hD hS hL
  exact lv_if_eq C.1 C.2.1 hd ht (fun z => kk.1 z p l e s m args below meth c G H locs la C hP hD hS hL) (fun z => kk.2 z p l e s m args below meth c G H locs la C hP hD hS hL)
theorem ok_if_ne {M : xMt} {pc : Nat} {ls : List (Nat × xV)} {st : List xV} {μ : xM} {Q : xPo} {x : Int32} {off : Int} {tgt : Nat} (hd : decode M.2.1 pc = .ok (.ifCond .ne off, 3)) (ht : (pc : Int) + off = (tgt : Int)) (kk : (¬ x = 0 → xOk M tgt ls st μ Q) ∧ (x = 0 → xOk M (pc + 3) ls st μ Q)) : xOk M pc ls (vI x :: st) μ Q := by
  intro p l e s m args below meth c G H locs la C hP hD hS hL
  exact lv_if_ne C.1 C.2.1 hd ht (fun z => kk.1 z p l e s m args below meth c G H locs la C hP hD hS hL) (fun z => kk.2 z p l e s m args below meth c G H locs la C hP hD hS hL)
theorem ok_if_lt {M : xMt} {pc : Nat} {ls : List (Nat × xV)} {st : List xV} {μ : xM} {Q : xPo} {x : Int32} {off : Int} {tgt : Nat} (hd : decode M.2.1 pc = .ok (.ifCond .lt off, 3)) (ht : (pc : Int) + off = (tgt : Int)) (kk : (x < 0 → xOk M tgt ls st μ Q) ∧ (¬ x < 0 → xOk M (pc + 3) ls st μ Q)) : xOk M pc ls (vI x :: st) μ Q := by
  intro p l e s m args below meth c G H locs la C hP hD hS hL
  exact lv_if_lt C.1 C.2.1 hd ht (fun z => kk.1 z p l e s m args below meth c G H locs la C hP hD hS hL) (fun z => kk.2 z p l e s m args below meth c G H locs la C hP hD hS hL)
theorem ok_if_ge {M : xMt} {pc : Nat} {ls : List (Nat × xV)} {st : List xV} {μ : xM} {Q : xPo} {x : Int32} {off : Int} {tgt : Nat} (hd : decode M.2.1 pc = .ok (.ifCond .ge off, 3)) (ht : (pc : Int) + off = (tgt : Int)) (kk : (0 ≤ x → xOk M tgt ls st μ Q) ∧ (¬ 0 ≤ x → xOk M (pc + 3) ls st μ Q)) : xOk M pc ls (vI x :: st) μ Q := by
  intro p l e s m args below meth c G H locs la C hP hD hS hL
  exact lv_if_ge C.1 C.2.1 hd ht (fun z => kk.1 z p l e s m args below meth c G H locs la C hP hD hS hL) (fun z => kk.2 z p l e s m args below meth c G H locs la C hP hD hS hL)
theorem ok_if_gt {M : xMt} {pc : Nat} {ls : List (Nat × xV)} {st : List xV} {μ : xM} {Q : xPo} {x : Int32} {off : Int} {tgt : Nat} (hd : decode M.2.1 pc = .ok (.ifCond .gt off, 3)) (ht : (pc : Int) + off = (tgt : Int)) (kk : (0 < x → xOk M tgt ls st μ Q) ∧ (¬ 0 < x → xOk M (pc + 3) ls st μ Q)) : xOk M pc ls (vI x :: st) μ Q := by
  intro p l e s m args below meth c G H locs la C hP hD hS hL
  exact lv_if_gt C.1 C.2.1 hd ht (fun z => kk.1 z p l e s m args below meth c G H locs la C hP hD hS hL) (fun z => kk.2 z p l e s m args below meth c G H locs la C hP hD hS hL)
theorem ok_if_le {M : xMt} {pc : Nat} {ls : List (Nat × xV)} {st : List xV} {μ : xM} {Q : xPo} {x : Int32} {off : Int} {tgt : Nat} (hd : decode M.2.1 pc = .ok (.ifCond .le off, 3)) (ht : (pc : Int) + off = (tgt : Int)) (kk : (x ≤ 0 → xOk M tgt ls st μ Q) ∧ (¬ x ≤ 0 → xOk M (pc + 3) ls st μ Q)) : xOk M pc ls (vI x :: st) μ Q := by
  intro p l e s m args below meth c G H locs la C hP hD hS hL
  exact lv_if_le C.1 C.2.1 hd ht (fun z => kk.1 z p l e s m args below meth c G H locs la C hP hD hS hL) (fun z => kk.2 z p l e s m args below meth c G H locs la C hP hD hS hL)
theorem ok_icmp_eq {M : xMt} {pc : Nat} {ls : List (Nat × xV)} {st : List xV} {μ : xM} {Q : xPo} {x y : Int32} {off : Int} {tgt : Nat} (hd : decode M.2.1 pc = .ok (.if_icmp .eq off, 3)) (ht : (pc : Int) + off = (tgt : Int)) (kk : (x = y → xOk M tgt ls st μ Q) ∧ (¬ x = y → xOk M (pc + 3) ls st μ Q)) : xOk M pc ls (vI y :: vI x :: st) μ Q := by
  intro p l e s m args below meth c G H locs la C hP hD hS hL
  exact lv_icmp_eq C.1 C.2.1 hd ht (fun z => kk.1 z p l e s m args below meth c G H locs la C hP hD hS hL) (fun z => kk.2 z p l e s m args below meth c G H locs la C hP hD hS hL)
theorem ok_icmp_ne {M : xMt} {pc : Nat} {ls : List (Nat × xV)} {st : List xV} {μ : xM} {Q : xPo} {x y : Int32} {off : Int} {tgt : Nat} (hd : decode M.2.1 pc = .ok (.if_icmp .ne off, 3)) (ht : (pc : Int) + off = (tgt : Int)) (kk : (¬ x = y → xOk M tgt ls st μ Q) ∧ (x = y → xOk M (pc + 3) ls st μ Q)) : xOk M pc ls (vI y :: vI x :: st) μ Q := by
  intro p l e s m args below meth c G H locs la C hP hD hS hL
  exact lv_icmp_ne C.1 C.2.1 hd ht (fun z => kk.1 z p l e s m args below meth c G H locs la C hP hD hS hL) (fun z => kk.2 z p l e s m args below meth c G H locs la C hP hD hS hL)
theorem ok_icmp_lt {M : xMt} {pc : Nat} {ls : List (Nat × xV)} {st : List xV} {μ : xM} {Q : xPo} {x y : Int32} {off : Int} {tgt : Nat} (hd : decode M.2.1 pc = .ok (.if_icmp .lt off, 3)) (ht : (pc : Int) + off = (tgt : Int)) (kk : (x < y → xOk M tgt ls st μ Q) ∧ (¬ x < y → xOk M (pc + 3) ls st μ Q)) : xOk M pc ls (vI y :: vI x :: st) μ Q := by
  intro p l e s m args below meth c G H locs la C hP hD hS hL
  exact lv_icmp_lt C.1 C.2.1 hd ht (fun z => kk.1 z p l e s m args below meth c G H locs la C hP hD hS hL) (fun z => kk.2 z p l e s m args below meth c G H locs la C hP hD hS hL)
theorem ok_icmp_ge {M : xMt} {pc : Nat} {ls : List (Nat × xV)} {st : List xV} {μ : xM} {Q : xPo} {x y : Int32} {off : Int} {tgt : Nat} (hd : decode M.2.1 pc = .ok (.if_icmp .ge off, 3)) (ht : (pc : Int) + off = (tgt : Int)) (kk : (y ≤ x → xOk M tgt ls st μ Q) ∧ (¬ y ≤ x → xOk M (pc + 3) ls st μ Q)) : xOk M pc ls (vI y :: vI x :: st) μ Q := by
  intro p l e s m args below meth c G H locs la C hP hD hS hL
  exact lv_icmp_ge C.1 C.2.1 hd ht (fun z => kk.1 z p l e s m args below meth c G H locs la C hP hD hS hL) (fun z => kk.2 z p l e s m args below meth c G H locs la C hP hD hS hL)
theorem ok_icmp_gt {M : xMt} {pc : Nat} {ls : List (Nat × xV)} {st : List xV} {μ : xM} {Q : xPo} {x y : Int32} {off : Int} {tgt : Nat} (hd : decode M.2.1 pc = .ok (.if_icmp .gt off, 3)) (ht : (pc : Int) + off = (tgt : Int)) (kk : (y < x → xOk M tgt ls st μ Q) ∧ (¬ y < x → xOk M (pc + 3) ls st μ Q)) : xOk M pc ls (vI y :: vI x :: st) μ Q := by
  intro p l e s m args below meth c G H locs la C hP hD hS hL
  exact lv_icmp_gt C.1 C.2.1 hd ht (fun z => kk.1 z p l e s m args below meth c G H locs la C hP hD hS hL) (fun z => kk.2 z p l e s m args below meth c G H locs la C hP hD hS hL)
theorem ok_icmp_le {M : xMt} {pc : Nat} {ls : List (Nat × xV)} {st : List xV} {μ : xM} {Q : xPo} {x y : Int32} {off : Int} {tgt : Nat} (hd : decode M.2.1 pc = .ok (.if_icmp .le off, 3)) (ht : (pc : Int) + off = (tgt : Int)) (kk : (x ≤ y → xOk M tgt ls st μ Q) ∧ (¬ x ≤ y → xOk M (pc + 3) ls st μ Q)) : xOk M pc ls (vI y :: vI x :: st) μ Q := by
  intro p l e s m args below meth c G H locs la C hP hD hS hL
  exact lv_icmp_le C.1 C.2.1 hd ht (fun z => kk.1 z p l e s m args below meth c G H locs la C hP hD hS hL) (fun z => kk.2 z p l e s m args below meth c G H locs la C hP hD hS hL)
/-- where a tableswitch goes -/
def xSw (dflt lo hi : Int) (offs : Array Int) (x : Int) : Int := if x < lo ∨ hi < x then dflt else (offs[(x - lo).toNat]?).getD dflt
theorem ok_table {M : xMt} {pc : Nat} {ls : List (Nat × xV)} {st : List xV} {μ : xM} {Q : xPo} {dflt lo hi off : Int} {offs : Array Int} {len tgt : Nat} {x : Int32} (hd : decode M.2.1 pc = .ok (.tableswitch dflt lo hi offs, len)) (hz : lo + (offs.size : Int) = hi + 1) (ho : xSw dflt lo hi offs x.toInt = off) (ht : (pc : Int) + off = (tgt : Int)) (kk : xOk M tgt ls st μ Q) : xOk M pc ls (vI x :: st) μ Q := by
  intro p l e s m args below meth c G H locs la C hP hD hS hL
  by_cases h : x.toInt < lo ∨ hi < x.toInt
  · rw [xSw, if_pos h] at ho
    subst ho
    exact lv_tableOut C.1 C.2.1 hd h ht (kk p l e s m args below meth c G H locs la C hP hD hS hL)
  · rw [xSw, if_neg h] at ho
    have hlt : (x.toInt - lo).toNat < offs.size := by omega
    rw [Array.getElem?_eq_getElem hlt] at ho
    exact lv_tableIn C.1 C.2.1 hd (fun z => h (Or.inl z)) (fun z => h (Or.inr z)) (off := off) (by rw [Array.getElem?_eq_getElem hlt]; exact congrArg some ho) ht (kk p l e s m args below meth c G H locs la C hP hD hS hL)
theorem xSw_d {dflt lo hi : Int} {offs : Array Int} {x : Int32} (cs : List Int32) (h : ∀ n, n < offs.size → (∀ c ∈ cs, c.toInt ≠ lo + (n : Int)) → (offs[n]?).getD dflt = dflt) (hz : lo + (offs.size : Int) = hi + 1) (hx : ∀ c ∈ cs, x ≠ c) : xSw dflt lo hi offs x.toInt = dflt := by
  by_cases hr : x.toInt < lo ∨ hi < x.toInt
  · rw [xSw, if_pos hr]
  · rw [xSw, if_neg hr]
    refine h _ (by omega) (fun c hc e => hx c hc ?_)
    apply Int32.toInt_inj.mp
    omega
theorem ok_lookup {M : xMt} {pc : Nat} {ls : List (Nat × xV)} {st : List xV} {μ : xM} {Q : xPo} {dflt off : Int} {ps : Array (Int × Int)} {len tgt : Nat} {x : Int32} (hd : decode M.2.1 pc = .ok (.lookupswitch dflt ps, len)) (hp : (ps.toList.zip (ps.toList.drop 1)).all (fun (a, next) => a.1 < next.1) = true) (ho : Op.lookupswitch.offset ps.toList dflt x.toInt = off) (ht : (pc : Int) + off = (tgt : Int)) (kk : xOk M tgt ls st μ Q) : xOk M pc ls (vI x :: st) μ Q := by
  intro p l e s m args below meth c G H locs la C hP hD hS hL
  exact lv_lookup C.1 C.2.1 hd hp ho ht (kk p l e s m args below meth c G H locs la C hP hD hS hL)
theorem ok_iret {M : xMt} {pc : Nat} {ls : List (Nat × xV)} {μ : xM} {Q : xPo} {r : Int32} (hr : M.2.2.2.1 = some .int) (hd : decode M.2.1 pc = .ok (.ireturn, 1)) (h : Q (some (vI r)) μ) : xOk M pc ls [vI r] μ Q := by
  intro p l e s m args below meth c G H locs la C hP hD hS hL
  have hlk : meth.locks = false := C.2.2.2.2.2.2.1
  exact W.iret (v := r) C.1 C.2.1 (C.2.2.1.trans hr) (fun t ht hW => ⟨⟨some (vI r), μ, rfl, h, by rw [ht]; exact hP, va_K.moved hW.alike C.2.2.2.2.2.2.2, hD⟩, hS.F ht⟩) hS.2.2 hd hlk
theorem ok_zret {M : xMt} {pc : Nat} {ls : List (Nat × xV)} {μ : xM} {Q : xPo} {r : Int32} (hr : M.2.2.2.1 = some .boolean) (hn : r = 0 ∨ r = 1) (hd : decode M.2.1 pc = .ok (.ireturn, 1)) (h : Q (some (vI r)) μ) : xOk M pc ls [vI r] μ Q := by
  intro p l e s m args below meth c G H locs la C hP hD hS hL
  have hlk : meth.locks = false := C.2.2.2.2.2.2.1
  exact W.zret (v := r) C.1 C.2.1 (C.2.2.1.trans hr) (by rcases hn with rfl | rfl <;> decide +kernel) (fun t ht hW => ⟨⟨some (vI r), μ, rfl, h, by rw [ht]; exact hP, va_K.moved hW.alike C.2.2.2.2.2.2.2, hD⟩, hS.F ht⟩) hS.2.2 hd hlk
theorem ok_lret {M : xMt} {pc : Nat} {ls : List (Nat × xV)} {μ : xM} {Q : xPo} {r : Int64} (hr : M.2.2.2.1 = some .long) (hd : decode M.2.1 pc = .ok (.lreturn, 1)) (h : Q (some (vL r)) μ) : xOk M pc ls [vL r] μ Q := by
  intro p l e s m args below meth c G H locs la C hP hD hS hL
  have hlk : meth.locks = false := C.2.2.2.2.2.2.1
  exact W.lret (v := r) C.1 C.2.1 (C.2.2.1.trans hr) (fun t ht hW => ⟨⟨some (vL r), μ, rfl, h, by rw [ht]; exact hP, va_K.moved hW.alike C.2.2.2.2.2.2.2, hD⟩, hS.F ht⟩) hS.2.2 hd hlk
theorem ok_vret {M : xMt} {pc : Nat} {ls : List (Nat × xV)} {μ : xM} {Q : xPo} (hr : M.2.2.2.1 = none) (hd : decode M.2.1 pc = .ok (.return_, 1)) (h : Q none μ) : xOk M pc ls [] μ Q := by
  intro p l e s m args below meth c G H locs la C hP hD hS hL
  have hlk : meth.locks = false := C.2.2.2.2.2.2.1
  exact W.vret C.1 C.2.1 (C.2.2.1.trans hr) (fun t ht hW => ⟨⟨none, μ, rfl, h, by rw [ht]; exact hP, va_K.moved hW.alike C.2.2.2.2.2.2.2, hD⟩, hS.F ht⟩) hS.2.2 hd hlk
end
section
def xUp (a : xA) (k s w j : Nat) (v : Int32) : xA := fun k' s' w' j' => if k' = k ∧ s' = s ∧ w' = w ∧ j' = j then v else a k' s' w' j'
def xCp (a : xA) (k1 s1 w1 k2 s2 w2 n : Nat) : xA := fun k' s' w' j' => if k' = k2 ∧ s' = s2 ∧ w' = w2 ∧ j' < n then a k1 s1 w1 j' else a k' s' w' j'
theorem xUp_o {a : xA} {k s w j : Nat} {v : Int32} {n : xN} (h : n ≠ (k, s, w)) (j' : Nat) : xUp a k s w j v n.1 n.2.1 n.2.2 j' = a n.1 n.2.1 n.2.2 j' := by
  unfold xUp
  rw [if_neg]
  rintro ⟨h1, h2, h3, -⟩
  exact h (Prod.ext h1 (Prod.ext h2 h3))
theorem xCp_o {a : xA} {k1 s1 w1 k2 s2 w2 n' : Nat} {n : xN} (h : n ≠ (k2, s2, w2)) (j' : Nat) : xCp a k1 s1 w1 k2 s2 w2 n' n.1 n.2.1 n.2.2 j' = a n.1 n.2.1 n.2.2 j' := by
  unfold xCp
  rw [if_neg]
  rintro ⟨h1, h2, h3, -⟩
  exact h (Prod.ext h1 (Prod.ext h2 h3))
theorem xUpC_o {k s w j : Nat} {v : Int32} {μ : xM} (G : xG) {n : xN} (h : n ≠ (k, s, w)) : xCell G (xUp μ.1 k s w j v, μ.2) n = xCell G μ n := xCell_same (fun j' => xUp_o h j') (fun _ => rfl) (fun _ => rfl)
theorem xUpR_o {k s w j : Nat} {v : Int32} {μ : xM} (G : xG) {n : xN} (h : n ≠ (k, s, w)) : xCell G (μ.1, (xUp μ.2.1 k s w j v, μ.2.2)) n = xCell G μ n := xCell_same (fun _ => rfl) (fun j' => xUp_o h j') (fun _ => rfl)
theorem xCpC_o {k1 s1 w1 k2 s2 w2 n' : Nat} {μ : xM} (G : xG) {n : xN} (h : n ≠ (k2, s2, w2)) : xCell G (xCp μ.1 k1 s1 w1 k2 s2 w2 n', μ.2) n = xCell G μ n := xCell_same (fun j' => xCp_o h j') (fun _ => rfl) (fun _ => rfl)
theorem xN6 : ∀ n ∈ xNms, n.1 = 6 → n = (6, 0, 0) := by decide +kernel
theorem xUpH_o {v : Int64} {μ : xM} (G : xG) {n : xN} (hm : n ∈ xNms) (h : n ≠ (6, 0, 0)) : xCell G (μ.1, (μ.2.1, v)) n = xCell G μ n := xCell_same (fun _ => rfl) (fun _ => rfl) (fun h6 => absurd (xN6 n hm h6) h)
theorem xUp_row (a : xA) (k s w : Nat) (i : Nat) (v : Int32) : (fun j => xUp a k s w i v k s w j) = upd (fun j => a k s w j) i v := by
  funext j
  simp [xUp, upd]
theorem ok_get {M : xMt} {pc : Nat} {ls : List (Nat × xV)} {st : List xV} {μ : xM} {Q : xPo} {index k s' w' N : Nat} {C' : String} {T : u_T} {v : xV} (j : Nat) (hd : decode M.2.1 pc = .ok (.getfield index, 3)) (hn : (k, s', w') ∈ xNms) (hc : vwCl[k]? = some (C', T, N)) (hin : ∀ w ∈ u_ws C' T N, w ∈ xT) (hj : j < N) (hlink : Cond.fieldLink M.1.cls index (T j).1 (T j).2.1 (T j).2.2.1 ∈ xT) (hv : ∀ G : xG, ∃ fs, xCell G μ (k, s', w') = .inr (k, fs) ∧ fs[j]? = some (cv G v)) (kk : xOk M (pc + 3) ls (v :: st) μ Q) : xOk M pc ls (vR k s' w' :: st) μ Q := by
  intro p l e s m args below meth c G H locs la C hP hD hS hL
  obtain ⟨i, hi⟩ := xAt hn
  obtain ⟨fs, e1, e2⟩ := hv G
  have he := xWs_get (G := G) (μ := μ) hi
  rw [e1] at he
  exact va_get (D := G.1) (ws := xWs G μ) (tys := xTy G) (cl := vwCl) (ref := (T j).1) C.1 C.2.1 C.2.2.2.2.2.1 hin C.2.2.2.2.1 C.2.2.2.2.2.2.2 hP i he hc j hj (C.2.2.2.2.2.1 _ hlink) (fun _ h => h) e2 hd (kk p l e s m args below meth c G H locs la C hP hD hS hL)
theorem ok_put {M : xMt} {pc : Nat} {ls : List (Nat × xV)} {st : List xV} {μ : xM} {Q : xPo} {index k s' w' N : Nat} {C' : String} {T : u_T} {v : xV} {μ' : xM} {ty : FieldType} (j : Nat) (ty0 : Nat → FieldType) (hty : ∀ k, k < N → parseFieldDescriptor (T k).2.2.1 = some (ty0 k)) (hnm : ∀ a, a < N → ∀ b, b < N → a ≠ b → (T a).2.1 ≠ (T b).2.1) (hd : decode M.2.1 pc = .ok (.putfield index, 3)) (hn : (k, s', w') ∈ xNms) (hc : vwCl[k]? = some (C', T, N)) (hin : ∀ w ∈ u_ws C' T N, w ∈ xT) (hj : j < N) (hlink : Cond.fieldLink M.1.cls index (T j).1 (T j).2.1 (T j).2.2.1 ∈ xT) (hfin : (T j).2.2.2 = false) (hpd : parseFieldDescriptor (T j).2.2.1 = some ty) (hnar : ∀ G : xG, narrow ty (cv G v) = cv G v) (hfit : ∀ G : xG, fits ty (cv G v) = true) (hv : ∀ G : xG, ∃ fs, xCell G μ (k, s', w') = .inr (k, fs) ∧ j < fs.length ∧ xCell G μ' (k, s', w') = .inr (k, fs.set j (cv G v))) (ho : ∀ (G : xG) (n' : xN), n' ∈ xNms → n' ≠ (k, s', w') → xCell G μ' n' = xCell G μ n') (kk : xOk M (pc + 3) ls st μ' Q) : xOk M pc ls (v :: vR k s' w' :: st) μ Q := by
  intro p l e s m args below meth c G H locs la C hP hD hS hL
  obtain ⟨i, hi⟩ := xAt hn
  obtain ⟨fs, e1, e2, e3⟩ := hv G
  have he := xWs_get (G := G) (μ := μ) hi
  rw [e1] at he
  refine va_put (D := G.1) (ws := xWs G μ) (tys := xTy G) (cl := vwCl) (ref := (T j).1) C.1 C.2.1 C.2.2.2.2.2.1 hin ty0 hty hnm C.2.2.2.2.1 C.2.2.2.2.2.2.2 hP hD hS i he hc j hj (C.2.2.2.2.2.1 _ hlink) (fun _ h => h) hfin hpd (hnar G) (hfit G) e2 hd (fun H1 locs1 hP1 hD1 hS1 => ?_)
  rw [xWs_set hi e3.symm (ho G)] at hP1 hD1
  exact kk p l e s m args below meth c G H1 locs1 la C hP1 hD1 hS1 hL
theorem ok_iald {M : xMt} {pc : Nat} {ls : List (Nat × xV)} {st : List xV} {μ : xM} {Q : xPo} {k s' w' n : Nat} {i : Int32} {f : Nat → Int32} (hd : decode M.2.1 pc = .ok (.iaload, 1)) (hn : (k, s', w') ∈ xNms) (hc : ∀ G : xG, xCell G μ (k, s', w') = .inl (G.2.1 0, n, .inl f)) (hi : vp_in i n) (kk : xOk M (pc + 1) ls (vI (f i.toNatClampNeg) :: st) μ Q) : xOk M pc ls (vI i :: vR k s' w' :: st) μ Q := by
  intro p l e s m args below meth c G H locs la C hP hD hS hL
  obtain ⟨i0, hi0⟩ := xAt hn
  have he := xWs_get (G := G) (μ := μ) hi0
  rw [hc G] at he
  exact va_iald (D := G.1) (ws := xWs G μ) (tys := xTy G) (cl := vwCl) C.1 C.2.1 C.2.2.2.2.2.2.2 hP i0 0 he rfl hi hd (kk p l e s m args below meth c G H locs la C hP hD hS hL)
theorem ok_iast {M : xMt} {pc : Nat} {ls : List (Nat × xV)} {st : List xV} {μ : xM} {Q : xPo} {k s' w' n : Nat} {i x : Int32} {f : Nat → Int32} {μ' : xM} (hd : decode M.2.1 pc = .ok (.iastore, 1)) (hn : (k, s', w') ∈ xNms) (hc : ∀ G : xG, xCell G μ (k, s', w') = .inl (G.2.1 0, n, .inl f)) (hi : vp_in i n) (hc2 : ∀ G : xG, xCell G μ' (k, s', w') = .inl (G.2.1 0, n, .inl (upd f i.toNatClampNeg x))) (ho : ∀ (G : xG) (n' : xN), n' ∈ xNms → n' ≠ (k, s', w') → xCell G μ' n' = xCell G μ n') (kk : xOk M (pc + 1) ls st μ' Q) : xOk M pc ls (vI x :: vI i :: vR k s' w' :: st) μ Q := by
  intro p l e s m args below meth c G H locs la C hP hD hS hL
  obtain ⟨i0, hi0⟩ := xAt hn
  have he := xWs_get (G := G) (μ := μ) hi0
  rw [hc G] at he
  refine va_iast (D := G.1) (ws := xWs G μ) (tys := xTy G) (cl := vwCl) C.1 C.2.1 C.2.2.2.2.2.2.2 hP hD hS i0 0 he rfl hi hd (fun H1 locs1 hP1 hD1 hS1 => ?_)
  rw [xWs_set hi0 (hc2 G).symm (ho G)] at hP1 hD1
  exact kk p l e s m args below meth c G H1 locs1 la C hP1 hD1 hS1 hL
theorem ok_aald {M : xMt} {pc : Nat} {ls : List (Nat × xV)} {st : List xV} {μ : xM} {Q : xPo} {k s' w' n t : Nat} {i : Int32} {g : Nat → xN} {C' : String} (hd : decode M.2.1 pc = .ok (.aaload, 1)) (hn : (k, s', w') ∈ xNms) (hc : ∀ G : xG, xCell G μ (k, s', w') = xRefs (G.2.1 t) n (fun j => xadr G (g j))) (ht : ∀ G : xG, (xTy G)[t]? = some (G.2.1 t, .object C')) (hi : vp_in i n) (kk : xOk M (pc + 1) ls ((Sum.inr (Sum.inr (g i.toNatClampNeg)) : xV) :: st) μ Q) : xOk M pc ls (vI i :: vR k s' w' :: st) μ Q := by
  intro p l e s m args below meth c G H locs la C hP hD hS hL
  obtain ⟨i0, hi0⟩ := xAt hn
  have he := xWs_get (G := G) (μ := μ) hi0
  rw [hc G] at he
  exact va_aldq (D := G.1) (ws := xWs G μ) (tys := xTy G) (cl := vwCl) C.1 C.2.1 C.2.2.2.2.2.2.2 hP i0 t he (ht G) hi hd (kk p l e s m args below meth c G H locs la C hP hD hS hL)
theorem ok_copy {M : xMt} {pc : Nat} {ls : List (Nat × xV)} {st : List xV} {μ : xM} {Q : xPo} {k1 s1 w1 k2 s2 w2 nn index : Nat} {n : Int32} (hd : decode M.2.1 pc = .ok (.invokestatic index, 3)) (hlink : Cond.methodLink M.1.cls index arraycopyName ∈ xT) (h1 : (k1, s1, w1) ∈ xNms) (h2 : (k2, s2, w2) ∈ xNms) (hc1 : ∀ G : xG, xCell G μ (k1, s1, w1) = .inl (G.2.1 0, nn, .inl (fun j => μ.1 k1 s1 w1 j))) (hc2 : ∀ (G : xG) (a : xA), xCell G (a, μ.2) (k2, s2, w2) = .inl (G.2.1 0, nn, .inl (fun j => a k2 s2 w2 j))) (hn0 : ¬ n < 0) (hnn : n.toNatClampNeg = nn) (hR : 1 ≤ M.2.2.2.2.1 ∧ (st.map xcat).sum + (nativeFrameWords "java/lang/System" "arraycopy" 5 + 11) ≤ M.2.2.2.2.2) (kk : xOk M (pc + 3) ls st (xCp μ.1 k1 s1 w1 k2 s2 w2 nn, μ.2) Q) : xOk M pc ls (vI n :: vI 0 :: vR k2 s2 w2 :: vI 0 :: vR k1 s1 w1 :: st) μ Q := by
  intro p l e s m args below meth c G H locs la C hP hD hS hL
  obtain ⟨i1, hi1⟩ := xAt h1
  obtain ⟨i2, hi2⟩ := xAt h2
  have he1 := xWs_get (G := G) (μ := μ) hi1
  have he2 := xWs_get (G := G) (μ := μ) hi2
  rw [hc1 G] at he1
  rw [hc2 G μ.1] at he2
  have hts := C.2.2.2.2.2.1
  have hcat : ((st.map (cv G)).map fun v => v.category).sum = (st.map xcat).sum := by
    rw [List.map_map]
    congr 2
    funext v
    exact cv_cat G v
  refine va_copyi (D := G.1) (ws := xWs G μ) (tys := xTy G) (cl := vwCl) (ty := .int) (f := fun j => μ.1 k1 s1 w1 j) (g := fun j => μ.1 k2 s2 w2 j) C.1 C.2.1 (C.2.2.2.1.trans hL.1.symm) C.2.2.2.2.1 (hts _ hlink) (hts _ xw_222) (hts _ xw_221) (hts _ xw_8) C.2.2.2.2.2.2.2 hP hD hS i1 i2 0 0 he1 he2 rfl rfl rfl (by decide) (by decide) hn0 (by rw [hnn]; exact Nat.le_of_eq (Nat.zero_add _)) (by rw [hnn]; exact Nat.le_of_eq (Nat.zero_add _)) (fun _ _ => rfl) hR.1 (by rw [hcat]; exact hR.2) hd (fun H1 locs1 hP1 hD1 hS1 => ?_)
  have e3 : (Sum.inl (G.2.1 0, nn, Sum.inl (va_cpy (fun j => μ.1 k1 s1 w1 j) (fun j => μ.1 k2 s2 w2 j) (0 : Int32).toNatClampNeg (0 : Int32).toNatClampNeg n.toNatClampNeg)) : va_E) = xCell G (xCp μ.1 k1 s1 w1 k2 s2 w2 nn, μ.2) (k2, s2, w2) := by
    rw [hc2 G, hnn]
    congr 4
    funext j
    simp [va_cpy, xCp]
  rw [xWs_set hi2 e3 (fun n' _ h => xCpC_o G h)] at hP1 hD1
  exact kk p l e s m args below meth c G H1 locs1 la C hP1 hD1 hS1 hL
theorem xMinW : Cond.code Lib.Math.min.name Lib.Math.min.code 2 (some .int) ∈ xT := List.mem_filter.mpr ⟨List.mem_append_right _ (List.mem_of_getElem? (i := 235) (by decide +kernel)), by decide +kernel⟩
theorem ok_min {M : xMt} {pc : Nat} {ls : List (Nat × xV)} {st : List xV} {μ : xM} {Q : xPo} {index : Nat} {x y : Int32} (hd : decode M.2.1 pc = .ok (.invokestatic index, 3)) (hlink : Cond.methodLink M.1.cls index Lib.Math.min.name ∈ xT) (hR : 1 ≤ M.2.2.2.2.1 ∧ (st.map xcat).sum + 13 ≤ M.2.2.2.2.2) (kk : xOk M (pc + 3) ls (vI (if y < x then y else x) :: st) μ Q) : xOk M pc ls (vI y :: vI x :: st) μ Q := by
  intro p l e s m args below meth c G H locs la C hP hD hS hL
  have hts := C.2.2.2.2.2.1
  have hcat : ((st.map (cv G)).map fun v => v.category).sum = (st.map xcat).sum := by
    rw [List.map_map]
    congr 2
    funext v
    exact cv_cat G v
  exact va_mmin C.1 C.2.1 (C.2.2.2.1.trans hL.1.symm) C.2.2.2.2.1 (hts _ hlink) (hts _ xw_234) (hts _ xw_9) (hts _ xMinW) hR.1 (by rw [hcat]; exact hR.2) (Nat.zero_le _) (Nat.zero_le _) hd (kk p l e s m args below meth c G H locs la C hP hD hS hL)
end
section
theorem xFS {G : xG} {s0 s1 : Nat} (h : s0 ≤ s1) (q : Nat) (hq : xF G s1 q) : xF G s0 q := hq.imp id (fun z => Nat.le_trans h z)
theorem xFlt {G : xG} {s0 s1 : Nat} (q : Nat) (hl : q < s1) (hq : xF G s1 q) : xF G s0 q := hq.imp id (fun z => absurd hl (Nat.not_lt.mpr z))
theorem xBlind (G : xG) (av : List Value) (μ : xM) (sz : Nat) : FrameBlind (va_Pc av (xPre G μ sz)) := fun a U g mk q => by
  obtain ⟨q0, q1, qP, qK, qD⟩ := q
  exact ⟨q0, q1, qP, va_K.moved (u := U) (U := U.calling g mk a) (Vm.Alike.refl U.vm) qK, qD⟩
theorem xcat_sum (G : xG) (st : List xV) : ((st.map (cv G)).map fun v => v.category).sum = (st.map xcat).sum := by
  rw [List.map_map]
  congr 2
  funext v
  exact cv_cat G v
theorem xGoodV {own C' : String} {index : Nat} {M' : xMt} (h1 : Cond.methodLink own index M'.1 ∈ xT) (h2 : Cond.instanceMethod M'.1 ∈ xT) (h3 : Cond.selects C' M'.1 M'.1 ∈ xT) (h4 : Cond.initialized C' ∈ xT) (h5 : Cond.code M'.1 M'.2.1 M'.2.2.1 M'.2.2.2.1 ∈ xT) : GoodIn xT (wsV own index C' M'.1 (xW M')) := by
  intro w hw
  have hm : w ∈ xT := by
    simp only [wsV, xW, List.cons_append, List.nil_append, List.mem_cons] at hw
    rcases hw with rfl | rfl | rfl | rfl | rfl | hw
    · exact h1
    · exact h2
    · exact h3
    · exact h4
    · exact h5
    · exact hw
  exact ⟨hm, good_of_word (List.mem_filter.mp hm).2⟩
theorem xGoodS {own : String} {index : Nat} {M' : xMt} (h1 : Cond.methodLink own index M'.1 ∈ xT) (h2 : Cond.static M'.1 ∈ xT) (h4 : Cond.initialized own ∈ xT) (h5 : Cond.code M'.1 M'.2.1 M'.2.2.1 M'.2.2.2.1 ∈ xT) : GoodIn xT (wsS own index M'.1 (xW M')) := by
  intro w hw
  have hm : w ∈ xT := by
    simp only [wsS, xW, List.cons_append, List.nil_append, List.mem_cons] at hw
    rcases hw with rfl | rfl | rfl | rfl | hw
    · exact h1
    · exact h2
    · exact h4
    · exact h5
    · exact hw
  exact ⟨hm, good_of_word (List.mem_filter.mp hm).2⟩
/-- behind a call -/
theorem xGo {M : xMt} {pc : Nat} {ls : List (Nat × xV)} {st : List xV} {Q : xPo} {p : Program} {l : Launch} {e : Env} {s : State} {m : MethodId} {args : Array Value} {below : List Frame} {meth : Method} {c : Code} {G : xG} {H : Heap} {locs : List Loc} {la : Array Slot} {st0 : List Value} {a : Array Value}
    (C : xC M p s m args meth c G) (hS : va_S (xF G s.heap.size) s.heap H locs) (hL : lv_has la M.2.2.1 (xLs G ls))
    (hr : va_Run p l e (xRm M) s m args below meth c H locs 0 0 0 0 (F0 m pc la st0) (st.map (cv G)) (xQ G (fun v μ1 => xOk M (pc + 3) ls (v.toList ++ st) μ1 Q) (xF G H.size) a) (xF G H.size)) :
    W p l e (xRm M) s m args below meth c H locs 0 0 (MQ below (xQ G Q (xF G s.heap.size)) args s 0 0 (xF G s.heap.size)) (F0 m pc la st0) := by
  intro T hT X
  obtain ⟨v, st₀, t, T', L, h0, X', hLc, e1, e2, ⟨⟨v', μ1, hv, hq, hP1, hK1, hD1⟩, hz, hk⟩, go⟩ := hr T hT X
  cases hv
  rw [h0] at hz hk
  have hS1 : va_S (xF G s.heap.size) s.heap T'.heap (locs ++ L) := by
    refine ⟨Nat.le_trans hS.1 (by rw [e1]; exact hz), fun q h1 h2 => ?_, fun q hq => ?_⟩
    · rw [e1, hk q (Nat.lt_of_lt_of_le h1 hS.1) (fun z => h2 (xFlt q (Nat.lt_of_lt_of_le h1 hS.1) z))]
      exact hS.2.1 q h1 h2
    · rcases List.mem_append.mp hq with h | h
      · exact hS.2.2 q h
      · exact xFS hS.1 _ (hLc q h)
  obtain ⟨t2, a1, b1⟩ := hq p l e s m args below meth c G T'.heap (locs ++ L) la C (by rw [e1]; exact hP1) (xF_D hD1) hS1 hL T' rfl X'
  refine ⟨t2, go t2 ?_, b1⟩
  have hst : ((v'.toList ++ st).map (cv G)) = (v'.map (cv G)).toList ++ st.map (cv G) := by
    cases v' <;> rfl
  rw [hst] at a1
  exact a1
theorem ok_callV {M : xMt} {pc : Nat} {ls : List (Nat × xV)} {st : List xV} {μ : xM} {Q : xPo} {M' : xMt} {index k s' w' n N : Nat} {C' : String} {T : u_T} (As : List xV) (hd : decode M.2.1 pc = .ok (.invokevirtual index, 3)) (hlink : Cond.methodLink M.1.cls index M'.1 ∈ xT)
    (hV : Cond.instanceMethod M'.1 ∈ xT ∧ Cond.selects C' M'.1 M'.1 ∈ xT ∧ Cond.initialized C' ∈ xT ∧ Cond.code M'.1 M'.2.1 M'.2.2.1 M'.2.2.2.1 ∈ xT)
    (hs : M'.1.cls = C' ∧ M'.1.cls ≠ "java/lang/invoke/MethodHandle" ∧ M'.1.cls ≠ "java/lang/invoke/VarHandle" ∧ (parseMethodDescriptor M'.1.desc).map (fun d => d.parameters.length) = some n) (hk : vwCl[k]? = some (C', T, N))
    (hR : M'.2.2.2.2.1 + 1 ≤ M.2.2.2.2.1 ∧ 8 + (M'.2.2.1 + 11) + M'.2.2.2.2.2 ≤ M.2.2.2.2.2) (hn : (k, s', w') ∈ xNms) (hob : ∀ G : xG, ∃ fs, xCell G μ (k, s', w') = .inr (k, fs)) (hA : As.length = n) (hr : (st.map xcat).sum ≤ 8)
    (kk : xCalls M' (vR k s' w' :: As) μ (fun v μ1 => xOk M (pc + 3) ls (v.toList ++ st) μ1 Q)) : xOk M pc ls (As.reverse ++ vR k s' w' :: st) μ Q := by
  intro p l e s m args below meth c G H locs la C hP hD hS hL
  obtain ⟨i, hi⟩ := xAt hn
  obtain ⟨fs, e1⟩ := hob G
  have he := xWs_get (G := G) (μ := μ) hi
  rw [e1] at he
  have hts := C.2.2.2.2.2.1
  have hK := C.2.2.2.2.2.2.2
  refine xGo (st := st) (a := (Value.ref (xr G k s' w') :: As.map (cv G)).toArray) C hS hL ?_
  exact va_runV (As := As.map (cv G)) (rest := st.map (cv G)) (b := xr G k s' w') ⟨C.1, C.2.1, C.2.2.2.1, C.2.2.2.2.1, hts⟩ (kk l G H.size)
    (cwV (rm := xRm M') n hts (xGoodV hlink hV.1 hV.2.1 hV.2.2.1 hV.2.2.2) rfl rfl rfl hs hR)
    ⟨xBlind G _ μ H.size, va_recv hK hP hk he, fun U hU hW => ⟨rfl, by rw [hU], by rw [hU]; exact hP, va_K.moved hW.alike hK, hD.weaken (fun _ _ _ _ => trivial)⟩⟩
    rfl (by rw [List.length_map]; exact hA) hL.1 (by show (As.reverse ++ vR k s' w' :: st).map (cv G) = _; rw [List.map_append, List.map_reverse]; rfl) (lv_room (by rw [xcat_sum]; exact hr)) hd ⟨Nat.le_refl _, Nat.le_refl _⟩
theorem ok_callS {M : xMt} {pc : Nat} {ls : List (Nat × xV)} {st : List xV} {μ : xM} {Q : xPo} {M' : xMt} {index n : Nat} (As : List xV) (hd : decode M.2.1 pc = .ok (.invokestatic index, 3)) (hlink : Cond.methodLink M.1.cls index M'.1 ∈ xT)
    (hV : Cond.static M'.1 ∈ xT ∧ Cond.initialized M.1.cls ∈ xT ∧ Cond.code M'.1 M'.2.1 M'.2.2.1 M'.2.2.2.1 ∈ xT)
    (hs : M'.1.cls = M.1.cls ∧ M'.1.cls ≠ "java/lang/invoke/MethodHandle" ∧ M'.1.cls ≠ "java/lang/invoke/VarHandle" ∧ (parseMethodDescriptor M'.1.desc).map (fun d => d.parameters.length) = some n)
    (hR : M'.2.2.2.2.1 + 1 ≤ M.2.2.2.2.1 ∧ 8 + (M'.2.2.1 + 11) + M'.2.2.2.2.2 ≤ M.2.2.2.2.2) (hA : As.length = n) (hr : (st.map xcat).sum ≤ 8)
    (kk : xCalls M' As μ (fun v μ1 => xOk M (pc + 3) ls (v.toList ++ st) μ1 Q)) : xOk M pc ls (As.reverse ++ st) μ Q := by
  intro p l e s m args below meth c G H locs la C hP hD hS hL
  have hts := C.2.2.2.2.2.1
  have hK := C.2.2.2.2.2.2.2
  refine xGo (st := st) (a := (As.map (cv G)).toArray) C hS hL ?_
  exact va_runS (As := As.map (cv G)) (rest := st.map (cv G)) ⟨C.1, C.2.1, C.2.2.2.1, C.2.2.2.2.1, hts⟩ (kk l G H.size)
    (cwS (rm := xRm M') n hts (xGoodS hlink hV.1 hV.2.1 hV.2.2) rfl rfl rfl hs hR)
    ⟨xBlind G _ μ H.size, fun U hU hW => ⟨rfl, by rw [hU], by rw [hU]; exact hP, va_K.moved hW.alike hK, hD.weaken (fun _ _ _ _ => trivial)⟩⟩
    rfl (by rw [List.length_map]; exact hA) hL.1 (by show (As.reverse ++ st).map (cv G) = _; rw [List.map_append, List.map_reverse]) (lv_room (by rw [xcat_sum]; exact hr)) hd ⟨Nat.le_refl _, Nat.le_refl _⟩
def xEnt : Nat → List xV → List (Nat × xV)
  | _, [] => []
  | i, v :: vs => (i, v) :: xEnt (if xcat v = 2 then i + 2 else i + 1) vs
theorem xEnt_eq (G : xG) : ∀ (av : List xV) (i : Nat), lv_args i (av.map (cv G)) = xLs G (xEnt i av)
  | [], _ => rfl
  | v :: av, i => by
    show (i, cv G v) :: lv_args (if (cv G v).category = 2 then i + 2 else i + 1) (av.map (cv G)) = (i, cv G v) :: xLs G (xEnt (if xcat v = 2 then i + 2 else i + 1) av)
    rw [cv_cat, xEnt_eq G av]
theorem xSl_len (G : xG) : ∀ (av : List xV), (lg_sl (av.map (cv G))).length = (av.map xcat).sum
  | [] => rfl
  | v :: av => by
    have ih := xSl_len G av
    unfold lg_sl at ih ⊢
    rw [List.map_cons, List.flatMap_cons, List.length_append, ih, List.map_cons, List.sum_cons, cv_cat]
    rcases v with x | x | n <;> rfl
theorem xCalls_of {M : xMt} {av : List xV} {μ : xM} {Q : xPo} (hy : plainName M.1.cls = true) (hl : (av.map xcat).sum ≤ M.2.2.1) (h : xOk M 0 (xEnt 0 av) [] μ Q) : xCalls M av μ Q := by
  intro l G sz
  refine Met.ofW (cc := M.2.1) (maxL := M.2.2.1) (ret := M.2.2.2.1) (ws' := xT) hy rfl ?_
  intro p e s m args below meth c s₁ B hml hv
  obtain ⟨rfl, hsz, hP, hK, hD0⟩ := hv
  subst hsz
  have hts := atoms_spec (ws := xW M) B.pre
  have hown : s.vm.findClass M.1.cls = some m.cls := findClass_of_methodNamed B.named
  rw [lg_entry_eq]
  have hl2 := lv_entry (av.map (cv G)) (n := M.2.2.1) (by rw [xSl_len]; exact hl)
  rw [xEnt_eq] at hl2
  exact h p l e s m _ below meth c G s.heap [] _ ⟨B.exec, B.bytes, B.returns, hml, hown, fun w hw => hts w (List.mem_cons_of_mem _ hw), B.notSynchronized, hK⟩ hP (xF_D hD0) va_S.rf hl2
theorem xCalls_mono {M : xMt} {av : List xV} {μ : xM} {Q Q' : xPo} (h : xCalls M av μ Q) (hq : ∀ v μ1, Q v μ1 → Q' v μ1) : xCalls M av μ Q' := by
  intro l G sz
  refine MetFree.mono (h l G sz) (fun _ _ z => z) (fun _ _ _ _ _ z => z) ?_
  rintro a st o t - ⟨⟨⟨v, μ1, e1, e2, e3⟩, e4⟩, e5⟩
  exact ⟨⟨⟨v, μ1, e1, hq _ _ e2, e3⟩, e4⟩, e5⟩
def qI (Q : Int32 → xM → Prop) : xPo := fun v μ => ∃ r, v = some (vI r) ∧ Q r μ
def qL (Q : Int64 → xM → Prop) : xPo := fun v μ => ∃ r, v = some (vL r) ∧ Q r μ
def qV (Q : xM → Prop) : xPo := fun v μ => v = none ∧ Q μ
abbrev CI (M : xMt) (av : List xV) (μ : xM) (Q : Int32 → xM → Prop) : Prop := xCalls M av μ (qI Q)
abbrev CL (M : xMt) (av : List xV) (μ : xM) (Q : Int64 → xM → Prop) : Prop := xCalls M av μ (qL Q)
abbrev CV (M : xMt) (av : List xV) (μ : xM) (Q : xM → Prop) : Prop := xCalls M av μ (qV Q)
theorem CI.to {M M' : xMt} {pc : Nat} {ls : List (Nat × xV)} {st : List xV} {av : List xV} {μ : xM} {Q : xPo} (h : CI M' av μ (fun r μ1 => xOk M pc ls (vI r :: st) μ1 Q)) : xCalls M' av μ (fun v μ1 => xOk M pc ls (v.toList ++ st) μ1 Q) := xCalls_mono h (by rintro v μ1 ⟨r, rfl, h⟩; exact h)
theorem CL.to {M M' : xMt} {pc : Nat} {ls : List (Nat × xV)} {st : List xV} {av : List xV} {μ : xM} {Q : xPo} (h : CL M' av μ (fun r μ1 => xOk M pc ls (vL r :: st) μ1 Q)) : xCalls M' av μ (fun v μ1 => xOk M pc ls (v.toList ++ st) μ1 Q) := xCalls_mono h (by rintro v μ1 ⟨r, rfl, h⟩; exact h)
theorem CV.to {M M' : xMt} {pc : Nat} {ls : List (Nat × xV)} {st : List xV} {av : List xV} {μ : xM} {Q : xPo} (h : CV M' av μ (fun μ1 => xOk M pc ls st μ1 Q)) : xCalls M' av μ (fun v μ1 => xOk M pc ls (v.toList ++ st) μ1 Q) := xCalls_mono h (by rintro v μ1 ⟨rfl, h⟩; exact h)
theorem CI.mono {M : xMt} {av : List xV} {μ : xM} {Q Q' : Int32 → xM → Prop} (h : CI M av μ Q) (hq : ∀ r μ1, Q r μ1 → Q' r μ1) : CI M av μ Q' := xCalls_mono h (by rintro v μ1 ⟨r, e, h⟩; exact ⟨r, e, hq _ _ h⟩)
theorem CV.mono {M : xMt} {av : List xV} {μ : xM} {Q Q' : xM → Prop} (h : CV M av μ Q) (hq : ∀ μ1, Q μ1 → Q' μ1) : CV M av μ Q' := xCalls_mono h (by rintro v μ1 ⟨e, h⟩; exact ⟨e, hq _ h⟩)
theorem CL.mono {M : xMt} {av : List xV} {μ : xM} {Q Q' : Int64 → xM → Prop} (h : CL M av μ Q) (hq : ∀ r μ1, Q r μ1 → Q' r μ1) : CL M av μ Q' := xCalls_mono h (by rintro v μ1 ⟨r, e, h⟩; exact ⟨r, e, hq _ _ h⟩)
end
section
theorem v5 : ((5, 0, 0) : xN) ∈ xNms := by decide +kernel
theorem v3 : ((3, 0, 0) : xN) ∈ xNms := by decide +kernel
theorem v6 : ((6, 0, 0) : xN) ∈ xNms := by decide +kernel
theorem v40 : ((40, 0, 0) : xN) ∈ xNms := by decide +kernel
theorem v41 : ((41, 0, 0) : xN) ∈ xNms := by decide +kernel
theorem v22 : ((22, 0, 0) : xN) ∈ xNms := by decide +kernel
theorem v23 : ((23, 0, 0) : xN) ∈ xNms := by decide +kernel
theorem v24 : ((24, 0, 0) : xN) ∈ xNms := by decide +kernel
theorem v25 : ((25, 0, 0) : xN) ∈ xNms := by decide +kernel
theorem v30 : ((30, 0, 0) : xN) ∈ xNms := by decide +kernel
theorem v31 : ((31, 0, 0) : xN) ∈ xNms := by decide +kernel
theorem v32 : ((32, 0, 0) : xN) ∈ xNms := by decide +kernel
theorem v33 : ((33, 0, 0) : xN) ∈ xNms := by decide +kernel
theorem v34 : ((34, 0, 0) : xN) ∈ xNms := by decide +kernel
theorem v35 : ((35, 0, 0) : xN) ∈ xNms := by decide +kernel
theorem v1 {w : Nat} (hw : w < 3) : ((1, 0, w) : xN) ∈ xNms := (by decide +kernel : ∀ w, w < 3 → ((1, 0, w) : xN) ∈ xNms) w hw
theorem v10 {w : Nat} (hw : w < 3) : ((10, 0, w) : xN) ∈ xNms := (by decide +kernel : ∀ w, w < 3 → ((10, 0, w) : xN) ∈ xNms) w hw
theorem v11 {w : Nat} (hw : w < 3) : ((11, 0, w) : xN) ∈ xNms := (by decide +kernel : ∀ w, w < 3 → ((11, 0, w) : xN) ∈ xNms) w hw
theorem v12 {w : Nat} (hw : w < 3) : ((12, 0, w) : xN) ∈ xNms := (by decide +kernel : ∀ w, w < 3 → ((12, 0, w) : xN) ∈ xNms) w hw
theorem v13 {w : Nat} (hw : w < 3) : ((13, 0, w) : xN) ∈ xNms := (by decide +kernel : ∀ w, w < 3 → ((13, 0, w) : xN) ∈ xNms) w hw
theorem v14 {w : Nat} (hw : w < 3) : ((14, 0, w) : xN) ∈ xNms := (by decide +kernel : ∀ w, w < 3 → ((14, 0, w) : xN) ∈ xNms) w hw
theorem v15 {w : Nat} (hw : w < 3) : ((15, 0, w) : xN) ∈ xNms := (by decide +kernel : ∀ w, w < 3 → ((15, 0, w) : xN) ∈ xNms) w hw
theorem v4 {s : Nat} (hs : s < 7) : ((4, s, 0) : xN) ∈ xNms := (by decide +kernel : ∀ s, s < 7 → ((4, s, 0) : xN) ∈ xNms) s hs
theorem v16 {s : Nat} (hs : s < 7) : ((16, s, 0) : xN) ∈ xNms := (by decide +kernel : ∀ s, s < 7 → ((16, s, 0) : xN) ∈ xNms) s hs
theorem v42 {s : Nat} (hs : s < 7) : ((42, s, 0) : xN) ∈ xNms := (by decide +kernel : ∀ s, s < 7 → ((42, s, 0) : xN) ∈ xNms) s hs
theorem v43 {s : Nat} (hs : s < 7) : ((43, s, 0) : xN) ∈ xNms := (by decide +kernel : ∀ s, s < 7 → ((43, s, 0) : xN) ∈ xNms) s hs
theorem v2 {s w : Nat} (hs : s < 7) (hw : w < 4) : ((2, s, w) : xN) ∈ xNms := (by decide +kernel : ∀ s, s < 7 → ∀ w, w < 4 → ((2, s, w) : xN) ∈ xNms) s hs w hw
theorem v17 {s w : Nat} (hs : s < 7) (hw : w < 4) : ((17, s, w) : xN) ∈ xNms := (by decide +kernel : ∀ s, s < 7 → ∀ w, w < 4 → ((17, s, w) : xN) ∈ xNms) s hs w hw
theorem v18 {s w : Nat} (hs : s < 7) (hw : w < 4) : ((18, s, w) : xN) ∈ xNms := (by decide +kernel : ∀ s, s < 7 → ∀ w, w < 4 → ((18, s, w) : xN) ∈ xNms) s hs w hw
theorem v19 {s w : Nat} (hs : s < 7) (hw : w < 4) : ((19, s, w) : xN) ∈ xNms := (by decide +kernel : ∀ s, s < 7 → ∀ w, w < 4 → ((19, s, w) : xN) ∈ xNms) s hs w hw
theorem v0 {s w : Nat} (hs : s < 7) (hw : w < 2) : ((0, s, w) : xN) ∈ xNms := (by decide +kernel : ∀ s, s < 7 → ∀ w, w < 2 → ((0, s, w) : xN) ∈ xNms) s hs w hw
theorem v20 {s w : Nat} (hs : s < 7) (hw : w < 2) : ((20, s, w) : xN) ∈ xNms := (by decide +kernel : ∀ s, s < 7 → ∀ w, w < 2 → ((20, s, w) : xN) ∈ xNms) s hs w hw
theorem v21 {s w : Nat} (hs : s < 7) (hw : w < 2) : ((21, s, w) : xN) ∈ xNms := (by decide +kernel : ∀ s, s < 7 → ∀ w, w < 2 → ((21, s, w) : xN) ∈ xNms) s hs w hw
theorem gf_0_0 {M : xMt} {pc : Nat} {ls : List (Nat × xV)} {st : List xV} {μ : xM} {Q : xPo} {index s w : Nat} (hd : decode M.2.1 pc = .ok (.getfield index, 3)) (hn : ((0, s, w) : xN) ∈ xNms) (hlink : Cond.fieldLink M.1.cls index "OnceLetters$Consumer" "place" "[I" ∈ xT) (kk : xOk M (pc + 3) ls (vR 20 s w :: st) μ Q) : xOk M pc ls (vR 0 s w :: st) μ Q := ok_get 0 hd hn (T := TX0) rfl inX0 (by decide) hlink (fun G => ⟨_, rfl, rfl⟩) kk
theorem gf_0_1 {M : xMt} {pc : Nat} {ls : List (Nat × xV)} {st : List xV} {μ : xM} {Q : xPo} {index s w : Nat} (hd : decode M.2.1 pc = .ok (.getfield index, 3)) (hn : ((0, s, w) : xN) ∈ xNms) (hlink : Cond.fieldLink M.1.cls index "OnceLetters$Consumer" "saved" "[I" ∈ xT) (kk : xOk M (pc + 3) ls (vR 21 s w :: st) μ Q) : xOk M pc ls (vR 0 s w :: st) μ Q := ok_get 1 hd hn (T := TX0) rfl inX0 (by decide) hlink (fun G => ⟨_, rfl, rfl⟩) kk
theorem gf_1_0 {M : xMt} {pc : Nat} {ls : List (Nat × xV)} {st : List xV} {μ : xM} {Q : xPo} {index s w : Nat} (hd : decode M.2.1 pc = .ok (.getfield index, 3)) (hn : ((1, s, w) : xN) ∈ xNms) (hlink : Cond.fieldLink M.1.cls index "OnceLetters$Log" "length" "I" ∈ xT) (kk : xOk M (pc + 3) ls (vI (μ.1 1 s w 0) :: st) μ Q) : xOk M pc ls (vR 1 s w :: st) μ Q := ok_get 0 hd hn (T := TX1) rfl inX1 (by decide) hlink (fun G => ⟨_, rfl, rfl⟩) kk
theorem pf_1_0 {M : xMt} {pc : Nat} {ls : List (Nat × xV)} {st : List xV} {μ : xM} {Q : xPo} {index s w : Nat} {v : Int32} (hd : decode M.2.1 pc = .ok (.putfield index, 3)) (hn : ((1, s, w) : xN) ∈ xNms) (hlink : Cond.fieldLink M.1.cls index "OnceLetters$Log" "length" "I" ∈ xT) (kk : xOk M (pc + 3) ls st (xUp μ.1 1 s w 0 v, μ.2) Q) : xOk M pc ls (vI v :: vR 1 s w :: st) μ Q := ok_put 0 tyX1 tyX1_ok nmX1 hd hn (T := TX1) rfl inX1 (by decide) hlink rfl (ty := .int) (by decide +kernel) (fun _ => rfl) (fun _ => rfl) (fun G => ⟨_, rfl, Nat.le_of_ble_eq_true rfl, by simp [xCell, xUp, cv]⟩) (fun G n' _ h => xUpC_o G h) kk
theorem gf_1_1 {M : xMt} {pc : Nat} {ls : List (Nat × xV)} {st : List xV} {μ : xM} {Q : xPo} {index s w : Nat} (hd : decode M.2.1 pc = .ok (.getfield index, 3)) (hn : ((1, s, w) : xN) ∈ xNms) (hlink : Cond.fieldLink M.1.cls index "OnceLetters$Log" "writer" "[I" ∈ xT) (kk : xOk M (pc + 3) ls (vR 10 s w :: st) μ Q) : xOk M pc ls (vR 1 s w :: st) μ Q := ok_get 1 hd hn (T := TX1) rfl inX1 (by decide) hlink (fun G => ⟨_, rfl, rfl⟩) kk
theorem gf_1_2 {M : xMt} {pc : Nat} {ls : List (Nat × xV)} {st : List xV} {μ : xM} {Q : xPo} {index s w : Nat} (hd : decode M.2.1 pc = .ok (.getfield index, 3)) (hn : ((1, s, w) : xN) ∈ xNms) (hlink : Cond.fieldLink M.1.cls index "OnceLetters$Log" "age" "[I" ∈ xT) (kk : xOk M (pc + 3) ls (vR 11 s w :: st) μ Q) : xOk M pc ls (vR 1 s w :: st) μ Q := ok_get 2 hd hn (T := TX1) rfl inX1 (by decide) hlink (fun G => ⟨_, rfl, rfl⟩) kk
theorem gf_1_3 {M : xMt} {pc : Nat} {ls : List (Nat × xV)} {st : List xV} {μ : xM} {Q : xPo} {index s w : Nat} (hd : decode M.2.1 pc = .ok (.getfield index, 3)) (hn : ((1, s, w) : xN) ∈ xNms) (hlink : Cond.fieldLink M.1.cls index "OnceLetters$Log" "number" "[I" ∈ xT) (kk : xOk M (pc + 3) ls (vR 12 s w :: st) μ Q) : xOk M pc ls (vR 1 s w :: st) μ Q := ok_get 3 hd hn (T := TX1) rfl inX1 (by decide) hlink (fun G => ⟨_, rfl, rfl⟩) kk
theorem gf_1_4 {M : xMt} {pc : Nat} {ls : List (Nat × xV)} {st : List xV} {μ : xM} {Q : xPo} {index s w : Nat} (hd : decode M.2.1 pc = .ok (.getfield index, 3)) (hn : ((1, s, w) : xN) ∈ xNms) (hlink : Cond.fieldLink M.1.cls index "OnceLetters$Log" "value" "[I" ∈ xT) (kk : xOk M (pc + 3) ls (vR 13 s w :: st) μ Q) : xOk M pc ls (vR 1 s w :: st) μ Q := ok_get 4 hd hn (T := TX1) rfl inX1 (by decide) hlink (fun G => ⟨_, rfl, rfl⟩) kk
theorem gf_1_5 {M : xMt} {pc : Nat} {ls : List (Nat × xV)} {st : List xV} {μ : xM} {Q : xPo} {index s w : Nat} (hd : decode M.2.1 pc = .ok (.getfield index, 3)) (hn : ((1, s, w) : xN) ∈ xNms) (hlink : Cond.fieldLink M.1.cls index "OnceLetters$Log" "first" "[I" ∈ xT) (kk : xOk M (pc + 3) ls (vR 14 s w :: st) μ Q) : xOk M pc ls (vR 1 s w :: st) μ Q := ok_get 5 hd hn (T := TX1) rfl inX1 (by decide) hlink (fun G => ⟨_, rfl, rfl⟩) kk
theorem gf_1_6 {M : xMt} {pc : Nat} {ls : List (Nat × xV)} {st : List xV} {μ : xM} {Q : xPo} {index s w : Nat} (hd : decode M.2.1 pc = .ok (.getfield index, 3)) (hn : ((1, s, w) : xN) ∈ xNms) (hlink : Cond.fieldLink M.1.cls index "OnceLetters$Log" "mark" "[I" ∈ xT) (kk : xOk M (pc + 3) ls (vR 15 s w :: st) μ Q) : xOk M pc ls (vR 1 s w :: st) μ Q := ok_get 6 hd hn (T := TX1) rfl inX1 (by decide) hlink (fun G => ⟨_, rfl, rfl⟩) kk
theorem gf_2_0 {M : xMt} {pc : Nat} {ls : List (Nat × xV)} {st : List xV} {μ : xM} {Q : xPo} {index s w : Nat} (hd : decode M.2.1 pc = .ok (.getfield index, 3)) (hn : ((2, s, w) : xN) ∈ xNms) (hlink : Cond.fieldLink M.1.cls index "OnceLetters$Producer" "age" "I" ∈ xT) (kk : xOk M (pc + 3) ls (vI (μ.1 2 s w 0) :: st) μ Q) : xOk M pc ls (vR 2 s w :: st) μ Q := ok_get 0 hd hn (T := TX2) rfl inX2 (by decide) hlink (fun G => ⟨_, rfl, rfl⟩) kk
theorem pf_2_0 {M : xMt} {pc : Nat} {ls : List (Nat × xV)} {st : List xV} {μ : xM} {Q : xPo} {index s w : Nat} {v : Int32} (hd : decode M.2.1 pc = .ok (.putfield index, 3)) (hn : ((2, s, w) : xN) ∈ xNms) (hlink : Cond.fieldLink M.1.cls index "OnceLetters$Producer" "age" "I" ∈ xT) (kk : xOk M (pc + 3) ls st (xUp μ.1 2 s w 0 v, μ.2) Q) : xOk M pc ls (vI v :: vR 2 s w :: st) μ Q := ok_put 0 tyX2 tyX2_ok nmX2 hd hn (T := TX2) rfl inX2 (by decide) hlink rfl (ty := .int) (by decide +kernel) (fun _ => rfl) (fun _ => rfl) (fun G => ⟨_, rfl, Nat.le_of_ble_eq_true rfl, by simp [xCell, xUp, cv]⟩) (fun G n' _ h => xUpC_o G h) kk
theorem gf_2_1 {M : xMt} {pc : Nat} {ls : List (Nat × xV)} {st : List xV} {μ : xM} {Q : xPo} {index s w : Nat} (hd : decode M.2.1 pc = .ok (.getfield index, 3)) (hn : ((2, s, w) : xN) ∈ xNms) (hlink : Cond.fieldLink M.1.cls index "OnceLetters$Producer" "mode" "I" ∈ xT) (kk : xOk M (pc + 3) ls (vI (μ.1 2 s w 1) :: st) μ Q) : xOk M pc ls (vR 2 s w :: st) μ Q := ok_get 1 hd hn (T := TX2) rfl inX2 (by decide) hlink (fun G => ⟨_, rfl, rfl⟩) kk
theorem pf_2_1 {M : xMt} {pc : Nat} {ls : List (Nat × xV)} {st : List xV} {μ : xM} {Q : xPo} {index s w : Nat} {v : Int32} (hd : decode M.2.1 pc = .ok (.putfield index, 3)) (hn : ((2, s, w) : xN) ∈ xNms) (hlink : Cond.fieldLink M.1.cls index "OnceLetters$Producer" "mode" "I" ∈ xT) (kk : xOk M (pc + 3) ls st (xUp μ.1 2 s w 1 v, μ.2) Q) : xOk M pc ls (vI v :: vR 2 s w :: st) μ Q := ok_put 1 tyX2 tyX2_ok nmX2 hd hn (T := TX2) rfl inX2 (by decide) hlink rfl (ty := .int) (by decide +kernel) (fun _ => rfl) (fun _ => rfl) (fun G => ⟨_, rfl, Nat.le_of_ble_eq_true rfl, by simp [xCell, xUp, cv]⟩) (fun G n' _ h => xUpC_o G h) kk
theorem gf_2_2 {M : xMt} {pc : Nat} {ls : List (Nat × xV)} {st : List xV} {μ : xM} {Q : xPo} {index s w : Nat} (hd : decode M.2.1 pc = .ok (.getfield index, 3)) (hn : ((2, s, w) : xN) ∈ xNms) (hlink : Cond.fieldLink M.1.cls index "OnceLetters$Producer" "commit" "I" ∈ xT) (kk : xOk M (pc + 3) ls (vI (μ.1 2 s w 2) :: st) μ Q) : xOk M pc ls (vR 2 s w :: st) μ Q := ok_get 2 hd hn (T := TX2) rfl inX2 (by decide) hlink (fun G => ⟨_, rfl, rfl⟩) kk
theorem pf_2_2 {M : xMt} {pc : Nat} {ls : List (Nat × xV)} {st : List xV} {μ : xM} {Q : xPo} {index s w : Nat} {v : Int32} (hd : decode M.2.1 pc = .ok (.putfield index, 3)) (hn : ((2, s, w) : xN) ∈ xNms) (hlink : Cond.fieldLink M.1.cls index "OnceLetters$Producer" "commit" "I" ∈ xT) (kk : xOk M (pc + 3) ls st (xUp μ.1 2 s w 2 v, μ.2) Q) : xOk M pc ls (vI v :: vR 2 s w :: st) μ Q := ok_put 2 tyX2 tyX2_ok nmX2 hd hn (T := TX2) rfl inX2 (by decide) hlink rfl (ty := .int) (by decide +kernel) (fun _ => rfl) (fun _ => rfl) (fun G => ⟨_, rfl, Nat.le_of_ble_eq_true rfl, by simp [xCell, xUp, cv]⟩) (fun G n' _ h => xUpC_o G h) kk
theorem gf_2_3 {M : xMt} {pc : Nat} {ls : List (Nat × xV)} {st : List xV} {μ : xM} {Q : xPo} {index s w : Nat} (hd : decode M.2.1 pc = .ok (.getfield index, 3)) (hn : ((2, s, w) : xN) ∈ xNms) (hlink : Cond.fieldLink M.1.cls index "OnceLetters$Producer" "opened" "I" ∈ xT) (kk : xOk M (pc + 3) ls (vI (μ.1 2 s w 3) :: st) μ Q) : xOk M pc ls (vR 2 s w :: st) μ Q := ok_get 3 hd hn (T := TX2) rfl inX2 (by decide) hlink (fun G => ⟨_, rfl, rfl⟩) kk
theorem pf_2_3 {M : xMt} {pc : Nat} {ls : List (Nat × xV)} {st : List xV} {μ : xM} {Q : xPo} {index s w : Nat} {v : Int32} (hd : decode M.2.1 pc = .ok (.putfield index, 3)) (hn : ((2, s, w) : xN) ∈ xNms) (hlink : Cond.fieldLink M.1.cls index "OnceLetters$Producer" "opened" "I" ∈ xT) (kk : xOk M (pc + 3) ls st (xUp μ.1 2 s w 3 v, μ.2) Q) : xOk M pc ls (vI v :: vR 2 s w :: st) μ Q := ok_put 3 tyX2 tyX2_ok nmX2 hd hn (T := TX2) rfl inX2 (by decide) hlink rfl (ty := .int) (by decide +kernel) (fun _ => rfl) (fun _ => rfl) (fun G => ⟨_, rfl, Nat.le_of_ble_eq_true rfl, by simp [xCell, xUp, cv]⟩) (fun G n' _ h => xUpC_o G h) kk
theorem gf_2_4 {M : xMt} {pc : Nat} {ls : List (Nat × xV)} {st : List xV} {μ : xM} {Q : xPo} {index s w : Nat} (hd : decode M.2.1 pc = .ok (.getfield index, 3)) (hn : ((2, s, w) : xN) ∈ xNms) (hlink : Cond.fieldLink M.1.cls index "OnceLetters$Producer" "first" "[I" ∈ xT) (kk : xOk M (pc + 3) ls (vR 17 s w :: st) μ Q) : xOk M pc ls (vR 2 s w :: st) μ Q := ok_get 4 hd hn (T := TX2) rfl inX2 (by decide) hlink (fun G => ⟨_, rfl, rfl⟩) kk
theorem gf_2_5 {M : xMt} {pc : Nat} {ls : List (Nat × xV)} {st : List xV} {μ : xM} {Q : xPo} {index s w : Nat} (hd : decode M.2.1 pc = .ok (.getfield index, 3)) (hn : ((2, s, w) : xN) ∈ xNms) (hlink : Cond.fieldLink M.1.cls index "OnceLetters$Producer" "due" "[I" ∈ xT) (kk : xOk M (pc + 3) ls (vR 18 s w :: st) μ Q) : xOk M pc ls (vR 2 s w :: st) μ Q := ok_get 5 hd hn (T := TX2) rfl inX2 (by decide) hlink (fun G => ⟨_, rfl, rfl⟩) kk
theorem gf_2_6 {M : xMt} {pc : Nat} {ls : List (Nat × xV)} {st : List xV} {μ : xM} {Q : xPo} {index s w : Nat} (hd : decode M.2.1 pc = .ok (.getfield index, 3)) (hn : ((2, s, w) : xN) ∈ xNms) (hlink : Cond.fieldLink M.1.cls index "OnceLetters$Producer" "carried" "[I" ∈ xT) (kk : xOk M (pc + 3) ls (vR 19 s w :: st) μ Q) : xOk M pc ls (vR 2 s w :: st) μ Q := ok_get 6 hd hn (T := TX2) rfl inX2 (by decide) hlink (fun G => ⟨_, rfl, rfl⟩) kk
theorem gf_3_0 {M : xMt} {pc : Nat} {ls : List (Nat × xV)} {st : List xV} {μ : xM} {Q : xPo} {index s w : Nat} (hd : decode M.2.1 pc = .ok (.getfield index, 3)) (hn : ((3, s, w) : xN) ∈ xNms) (hlink : Cond.fieldLink M.1.cls index "OnceLetters$Script" "bytes" "[I" ∈ xT) (kk : xOk M (pc + 3) ls (vR 22 s w :: st) μ Q) : xOk M pc ls (vR 3 s w :: st) μ Q := ok_get 0 hd hn (T := TX3) rfl inX3 (by decide) hlink (fun G => ⟨_, rfl, rfl⟩) kk
theorem gf_3_1 {M : xMt} {pc : Nat} {ls : List (Nat × xV)} {st : List xV} {μ : xM} {Q : xPo} {index s w : Nat} (hd : decode M.2.1 pc = .ok (.getfield index, 3)) (hn : ((3, s, w) : xN) ∈ xNms) (hlink : Cond.fieldLink M.1.cls index "OnceLetters$Script" "length" "I" ∈ xT) (kk : xOk M (pc + 3) ls (vI (μ.1 3 s w 1) :: st) μ Q) : xOk M pc ls (vR 3 s w :: st) μ Q := ok_get 1 hd hn (T := TX3) rfl inX3 (by decide) hlink (fun G => ⟨_, rfl, rfl⟩) kk
theorem pf_3_1 {M : xMt} {pc : Nat} {ls : List (Nat × xV)} {st : List xV} {μ : xM} {Q : xPo} {index s w : Nat} {v : Int32} (hd : decode M.2.1 pc = .ok (.putfield index, 3)) (hn : ((3, s, w) : xN) ∈ xNms) (hlink : Cond.fieldLink M.1.cls index "OnceLetters$Script" "length" "I" ∈ xT) (kk : xOk M (pc + 3) ls st (xUp μ.1 3 s w 1 v, μ.2) Q) : xOk M pc ls (vI v :: vR 3 s w :: st) μ Q := ok_put 1 tyX3 tyX3_ok nmX3 hd hn (T := TX3) rfl inX3 (by decide) hlink rfl (ty := .int) (by decide +kernel) (fun _ => rfl) (fun _ => rfl) (fun G => ⟨_, rfl, Nat.le_of_ble_eq_true rfl, by simp [xCell, xUp, cv]⟩) (fun G n' _ h => xUpC_o G h) kk
theorem gf_3_2 {M : xMt} {pc : Nat} {ls : List (Nat × xV)} {st : List xV} {μ : xM} {Q : xPo} {index s w : Nat} (hd : decode M.2.1 pc = .ok (.getfield index, 3)) (hn : ((3, s, w) : xN) ∈ xNms) (hlink : Cond.fieldLink M.1.cls index "OnceLetters$Script" "letters" "[I" ∈ xT) (kk : xOk M (pc + 3) ls (vR 23 s w :: st) μ Q) : xOk M pc ls (vR 3 s w :: st) μ Q := ok_get 2 hd hn (T := TX3) rfl inX3 (by decide) hlink (fun G => ⟨_, rfl, rfl⟩) kk
theorem gf_3_3 {M : xMt} {pc : Nat} {ls : List (Nat × xV)} {st : List xV} {μ : xM} {Q : xPo} {index s w : Nat} (hd : decode M.2.1 pc = .ok (.getfield index, 3)) (hn : ((3, s, w) : xN) ∈ xNms) (hlink : Cond.fieldLink M.1.cls index "OnceLetters$Script" "numbers" "[I" ∈ xT) (kk : xOk M (pc + 3) ls (vR 24 s w :: st) μ Q) : xOk M pc ls (vR 3 s w :: st) μ Q := ok_get 3 hd hn (T := TX3) rfl inX3 (by decide) hlink (fun G => ⟨_, rfl, rfl⟩) kk
theorem gf_3_4 {M : xMt} {pc : Nat} {ls : List (Nat × xV)} {st : List xV} {μ : xM} {Q : xPo} {index s w : Nat} (hd : decode M.2.1 pc = .ok (.getfield index, 3)) (hn : ((3, s, w) : xN) ∈ xNms) (hlink : Cond.fieldLink M.1.cls index "OnceLetters$Script" "orders" "I" ∈ xT) (kk : xOk M (pc + 3) ls (vI (μ.1 3 s w 4) :: st) μ Q) : xOk M pc ls (vR 3 s w :: st) μ Q := ok_get 4 hd hn (T := TX3) rfl inX3 (by decide) hlink (fun G => ⟨_, rfl, rfl⟩) kk
theorem pf_3_4 {M : xMt} {pc : Nat} {ls : List (Nat × xV)} {st : List xV} {μ : xM} {Q : xPo} {index s w : Nat} {v : Int32} (hd : decode M.2.1 pc = .ok (.putfield index, 3)) (hn : ((3, s, w) : xN) ∈ xNms) (hlink : Cond.fieldLink M.1.cls index "OnceLetters$Script" "orders" "I" ∈ xT) (kk : xOk M (pc + 3) ls st (xUp μ.1 3 s w 4 v, μ.2) Q) : xOk M pc ls (vI v :: vR 3 s w :: st) μ Q := ok_put 4 tyX3 tyX3_ok nmX3 hd hn (T := TX3) rfl inX3 (by decide) hlink rfl (ty := .int) (by decide +kernel) (fun _ => rfl) (fun _ => rfl) (fun G => ⟨_, rfl, Nat.le_of_ble_eq_true rfl, by simp [xCell, xUp, cv]⟩) (fun G n' _ h => xUpC_o G h) kk
theorem gf_3_5 {M : xMt} {pc : Nat} {ls : List (Nat × xV)} {st : List xV} {μ : xM} {Q : xPo} {index s w : Nat} (hd : decode M.2.1 pc = .ok (.getfield index, 3)) (hn : ((3, s, w) : xN) ∈ xNms) (hlink : Cond.fieldLink M.1.cls index "OnceLetters$Script" "inOrder" "Z" ∈ xT) (kk : xOk M (pc + 3) ls (vI (μ.1 3 s w 5) :: st) μ Q) : xOk M pc ls (vR 3 s w :: st) μ Q := ok_get 5 hd hn (T := TX3) rfl inX3 (by decide) hlink (fun G => ⟨_, rfl, rfl⟩) kk
theorem pf_3_5 {M : xMt} {pc : Nat} {ls : List (Nat × xV)} {st : List xV} {μ : xM} {Q : xPo} {index s w : Nat} {v : Int32} (hd : decode M.2.1 pc = .ok (.putfield index, 3)) (hn : ((3, s, w) : xN) ∈ xNms) (hlink : Cond.fieldLink M.1.cls index "OnceLetters$Script" "inOrder" "Z" ∈ xT) (hz : v = 0 ∨ v = 1) (kk : xOk M (pc + 3) ls st (xUp μ.1 3 s w 5 v, μ.2) Q) : xOk M pc ls (vI v :: vR 3 s w :: st) μ Q := ok_put 5 tyX3 tyX3_ok nmX3 hd hn (T := TX3) rfl inX3 (by decide) hlink rfl (ty := .boolean) (by decide +kernel) (fun _ => by rcases hz with rfl | rfl <;> rfl) (fun _ => by rcases hz with rfl | rfl <;> rfl) (fun G => ⟨_, rfl, Nat.le_of_ble_eq_true rfl, by simp [xCell, xUp, cv]⟩) (fun G n' _ h => xUpC_o G h) kk
theorem gf_3_6 {M : xMt} {pc : Nat} {ls : List (Nat × xV)} {st : List xV} {μ : xM} {Q : xPo} {index s w : Nat} (hd : decode M.2.1 pc = .ok (.getfield index, 3)) (hn : ((3, s, w) : xN) ∈ xNms) (hlink : Cond.fieldLink M.1.cls index "OnceLetters$Script" "wanted" "I" ∈ xT) (kk : xOk M (pc + 3) ls (vI (μ.1 3 s w 6) :: st) μ Q) : xOk M pc ls (vR 3 s w :: st) μ Q := ok_get 6 hd hn (T := TX3) rfl inX3 (by decide) hlink (fun G => ⟨_, rfl, rfl⟩) kk
theorem pf_3_6 {M : xMt} {pc : Nat} {ls : List (Nat × xV)} {st : List xV} {μ : xM} {Q : xPo} {index s w : Nat} {v : Int32} (hd : decode M.2.1 pc = .ok (.putfield index, 3)) (hn : ((3, s, w) : xN) ∈ xNms) (hlink : Cond.fieldLink M.1.cls index "OnceLetters$Script" "wanted" "I" ∈ xT) (kk : xOk M (pc + 3) ls st (xUp μ.1 3 s w 6 v, μ.2) Q) : xOk M pc ls (vI v :: vR 3 s w :: st) μ Q := ok_put 6 tyX3 tyX3_ok nmX3 hd hn (T := TX3) rfl inX3 (by decide) hlink rfl (ty := .int) (by decide +kernel) (fun _ => rfl) (fun _ => rfl) (fun G => ⟨_, rfl, Nat.le_of_ble_eq_true rfl, by simp [xCell, xUp, cv]⟩) (fun G n' _ h => xUpC_o G h) kk
theorem gf_3_7 {M : xMt} {pc : Nat} {ls : List (Nat × xV)} {st : List xV} {μ : xM} {Q : xPo} {index s w : Nat} (hd : decode M.2.1 pc = .ok (.getfield index, 3)) (hn : ((3, s, w) : xN) ∈ xNms) (hlink : Cond.fieldLink M.1.cls index "OnceLetters$Script" "given" "I" ∈ xT) (kk : xOk M (pc + 3) ls (vI (μ.1 3 s w 7) :: st) μ Q) : xOk M pc ls (vR 3 s w :: st) μ Q := ok_get 7 hd hn (T := TX3) rfl inX3 (by decide) hlink (fun G => ⟨_, rfl, rfl⟩) kk
theorem pf_3_7 {M : xMt} {pc : Nat} {ls : List (Nat × xV)} {st : List xV} {μ : xM} {Q : xPo} {index s w : Nat} {v : Int32} (hd : decode M.2.1 pc = .ok (.putfield index, 3)) (hn : ((3, s, w) : xN) ∈ xNms) (hlink : Cond.fieldLink M.1.cls index "OnceLetters$Script" "given" "I" ∈ xT) (kk : xOk M (pc + 3) ls st (xUp μ.1 3 s w 7 v, μ.2) Q) : xOk M pc ls (vI v :: vR 3 s w :: st) μ Q := ok_put 7 tyX3 tyX3_ok nmX3 hd hn (T := TX3) rfl inX3 (by decide) hlink rfl (ty := .int) (by decide +kernel) (fun _ => rfl) (fun _ => rfl) (fun G => ⟨_, rfl, Nat.le_of_ble_eq_true rfl, by simp [xCell, xUp, cv]⟩) (fun G n' _ h => xUpC_o G h) kk
theorem gf_3_8 {M : xMt} {pc : Nat} {ls : List (Nat × xV)} {st : List xV} {μ : xM} {Q : xPo} {index s w : Nat} (hd : decode M.2.1 pc = .ok (.getfield index, 3)) (hn : ((3, s, w) : xN) ∈ xNms) (hlink : Cond.fieldLink M.1.cls index "OnceLetters$Script" "digits" "I" ∈ xT) (kk : xOk M (pc + 3) ls (vI (μ.1 3 s w 8) :: st) μ Q) : xOk M pc ls (vR 3 s w :: st) μ Q := ok_get 8 hd hn (T := TX3) rfl inX3 (by decide) hlink (fun G => ⟨_, rfl, rfl⟩) kk
theorem pf_3_8 {M : xMt} {pc : Nat} {ls : List (Nat × xV)} {st : List xV} {μ : xM} {Q : xPo} {index s w : Nat} {v : Int32} (hd : decode M.2.1 pc = .ok (.putfield index, 3)) (hn : ((3, s, w) : xN) ∈ xNms) (hlink : Cond.fieldLink M.1.cls index "OnceLetters$Script" "digits" "I" ∈ xT) (kk : xOk M (pc + 3) ls st (xUp μ.1 3 s w 8 v, μ.2) Q) : xOk M pc ls (vI v :: vR 3 s w :: st) μ Q := ok_put 8 tyX3 tyX3_ok nmX3 hd hn (T := TX3) rfl inX3 (by decide) hlink rfl (ty := .int) (by decide +kernel) (fun _ => rfl) (fun _ => rfl) (fun G => ⟨_, rfl, Nat.le_of_ble_eq_true rfl, by simp [xCell, xUp, cv]⟩) (fun G n' _ h => xUpC_o G h) kk
theorem gf_4_0 {M : xMt} {pc : Nat} {ls : List (Nat × xV)} {st : List xV} {μ : xM} {Q : xPo} {index s w : Nat} (hd : decode M.2.1 pc = .ok (.getfield index, 3)) (hn : ((4, s, w) : xN) ∈ xNms) (hlink : Cond.fieldLink M.1.cls index "OnceLetters$State" "time" "I" ∈ xT) (kk : xOk M (pc + 3) ls (vI (μ.1 4 s w 0) :: st) μ Q) : xOk M pc ls (vR 4 s w :: st) μ Q := ok_get 0 hd hn (T := TX4) rfl inX4 (by decide) hlink (fun G => ⟨_, rfl, rfl⟩) kk
theorem pf_4_0 {M : xMt} {pc : Nat} {ls : List (Nat × xV)} {st : List xV} {μ : xM} {Q : xPo} {index s w : Nat} {v : Int32} (hd : decode M.2.1 pc = .ok (.putfield index, 3)) (hn : ((4, s, w) : xN) ∈ xNms) (hlink : Cond.fieldLink M.1.cls index "OnceLetters$State" "time" "I" ∈ xT) (kk : xOk M (pc + 3) ls st (xUp μ.1 4 s w 0 v, μ.2) Q) : xOk M pc ls (vI v :: vR 4 s w :: st) μ Q := ok_put 0 tyX4 tyX4_ok nmX4 hd hn (T := TX4) rfl inX4 (by decide) hlink rfl (ty := .int) (by decide +kernel) (fun _ => rfl) (fun _ => rfl) (fun G => ⟨_, rfl, Nat.le_of_ble_eq_true rfl, by simp [xCell, xUp, cv]⟩) (fun G n' _ h => xUpC_o G h) kk
theorem gf_4_1 {M : xMt} {pc : Nat} {ls : List (Nat × xV)} {st : List xV} {μ : xM} {Q : xPo} {index s w : Nat} (hd : decode M.2.1 pc = .ok (.getfield index, 3)) (hn : ((4, s, w) : xN) ∈ xNms) (hlink : Cond.fieldLink M.1.cls index "OnceLetters$State" "limit" "I" ∈ xT) (kk : xOk M (pc + 3) ls (vI (μ.1 4 s w 1) :: st) μ Q) : xOk M pc ls (vR 4 s w :: st) μ Q := ok_get 1 hd hn (T := TX4) rfl inX4 (by decide) hlink (fun G => ⟨_, rfl, rfl⟩) kk
theorem pf_4_1 {M : xMt} {pc : Nat} {ls : List (Nat × xV)} {st : List xV} {μ : xM} {Q : xPo} {index s w : Nat} {v : Int32} (hd : decode M.2.1 pc = .ok (.putfield index, 3)) (hn : ((4, s, w) : xN) ∈ xNms) (hlink : Cond.fieldLink M.1.cls index "OnceLetters$State" "limit" "I" ∈ xT) (kk : xOk M (pc + 3) ls st (xUp μ.1 4 s w 1 v, μ.2) Q) : xOk M pc ls (vI v :: vR 4 s w :: st) μ Q := ok_put 1 tyX4 tyX4_ok nmX4 hd hn (T := TX4) rfl inX4 (by decide) hlink rfl (ty := .int) (by decide +kernel) (fun _ => rfl) (fun _ => rfl) (fun G => ⟨_, rfl, Nat.le_of_ble_eq_true rfl, by simp [xCell, xUp, cv]⟩) (fun G n' _ h => xUpC_o G h) kk
theorem gf_4_2 {M : xMt} {pc : Nat} {ls : List (Nat × xV)} {st : List xV} {μ : xM} {Q : xPo} {index s w : Nat} (hd : decode M.2.1 pc = .ok (.getfield index, 3)) (hn : ((4, s, w) : xN) ∈ xNms) (hlink : Cond.fieldLink M.1.cls index "OnceLetters$State" "lengths" "[I" ∈ xT) (kk : xOk M (pc + 3) ls (vR 16 s w :: st) μ Q) : xOk M pc ls (vR 4 s w :: st) μ Q := ok_get 2 hd hn (T := TX4) rfl inX4 (by decide) hlink (fun G => ⟨_, rfl, rfl⟩) kk
theorem gf_4_3 {M : xMt} {pc : Nat} {ls : List (Nat × xV)} {st : List xV} {μ : xM} {Q : xPo} {index s w : Nat} (hd : decode M.2.1 pc = .ok (.getfield index, 3)) (hn : ((4, s, w) : xN) ∈ xNms) (hlink : Cond.fieldLink M.1.cls index "OnceLetters$State" "producers" "[LOnceLetters$Producer;" ∈ xT) (kk : xOk M (pc + 3) ls (vR 42 s w :: st) μ Q) : xOk M pc ls (vR 4 s w :: st) μ Q := ok_get 3 hd hn (T := TX4) rfl inX4 (by decide) hlink (fun G => ⟨_, rfl, rfl⟩) kk
theorem gf_4_4 {M : xMt} {pc : Nat} {ls : List (Nat × xV)} {st : List xV} {μ : xM} {Q : xPo} {index s w : Nat} (hd : decode M.2.1 pc = .ok (.getfield index, 3)) (hn : ((4, s, w) : xN) ∈ xNms) (hlink : Cond.fieldLink M.1.cls index "OnceLetters$State" "consumers" "[LOnceLetters$Consumer;" ∈ xT) (kk : xOk M (pc + 3) ls (vR 43 s w :: st) μ Q) : xOk M pc ls (vR 4 s w :: st) μ Q := ok_get 4 hd hn (T := TX4) rfl inX4 (by decide) hlink (fun G => ⟨_, rfl, rfl⟩) kk
theorem gf_5_0 {M : xMt} {pc : Nat} {ls : List (Nat × xV)} {st : List xV} {μ : xM} {Q : xPo} {index s w : Nat} (hd : decode M.2.1 pc = .ok (.getfield index, 3)) (hn : ((5, s, w) : xN) ∈ xNms) (hlink : Cond.fieldLink M.1.cls index "OnceLetters" "logs" "[LOnceLetters$Log;" ∈ xT) (kk : xOk M (pc + 3) ls (vR 40 s w :: st) μ Q) : xOk M pc ls (vR 5 s w :: st) μ Q := ok_get 0 hd hn (T := TX5) rfl inX5 (by decide) hlink (fun G => ⟨_, rfl, rfl⟩) kk
theorem gf_5_1 {M : xMt} {pc : Nat} {ls : List (Nat × xV)} {st : List xV} {μ : xM} {Q : xPo} {index s w : Nat} (hd : decode M.2.1 pc = .ok (.getfield index, 3)) (hn : ((5, s, w) : xN) ∈ xNms) (hlink : Cond.fieldLink M.1.cls index "OnceLetters" "now" "LOnceLetters$State;" ∈ xT) (kk : xOk M (pc + 3) ls (vR 4 0 0 :: st) μ Q) : xOk M pc ls (vR 5 s w :: st) μ Q := ok_get 1 hd hn (T := TX5) rfl inX5 (by decide) hlink (fun G => ⟨_, rfl, rfl⟩) kk
theorem gf_5_2 {M : xMt} {pc : Nat} {ls : List (Nat × xV)} {st : List xV} {μ : xM} {Q : xPo} {index s w : Nat} (hd : decode M.2.1 pc = .ok (.getfield index, 3)) (hn : ((5, s, w) : xN) ∈ xNms) (hlink : Cond.fieldLink M.1.cls index "OnceLetters" "kept" "[LOnceLetters$State;" ∈ xT) (kk : xOk M (pc + 3) ls (vR 41 s w :: st) μ Q) : xOk M pc ls (vR 5 s w :: st) μ Q := ok_get 2 hd hn (T := TX5) rfl inX5 (by decide) hlink (fun G => ⟨_, rfl, rfl⟩) kk
theorem gf_5_3 {M : xMt} {pc : Nat} {ls : List (Nat × xV)} {st : List xV} {μ : xM} {Q : xPo} {index s w : Nat} (hd : decode M.2.1 pc = .ok (.getfield index, 3)) (hn : ((5, s, w) : xN) ∈ xNms) (hlink : Cond.fieldLink M.1.cls index "OnceLetters" "keptCount" "I" ∈ xT) (kk : xOk M (pc + 3) ls (vI (μ.1 5 s w 3) :: st) μ Q) : xOk M pc ls (vR 5 s w :: st) μ Q := ok_get 3 hd hn (T := TX5) rfl inX5 (by decide) hlink (fun G => ⟨_, rfl, rfl⟩) kk
theorem pf_5_3 {M : xMt} {pc : Nat} {ls : List (Nat × xV)} {st : List xV} {μ : xM} {Q : xPo} {index s w : Nat} {v : Int32} (hd : decode M.2.1 pc = .ok (.putfield index, 3)) (hn : ((5, s, w) : xN) ∈ xNms) (hlink : Cond.fieldLink M.1.cls index "OnceLetters" "keptCount" "I" ∈ xT) (kk : xOk M (pc + 3) ls st (xUp μ.1 5 s w 3 v, μ.2) Q) : xOk M pc ls (vI v :: vR 5 s w :: st) μ Q := ok_put 3 tyX5 tyX5_ok nmX5 hd hn (T := TX5) rfl inX5 (by decide) hlink rfl (ty := .int) (by decide +kernel) (fun _ => rfl) (fun _ => rfl) (fun G => ⟨_, rfl, Nat.le_of_ble_eq_true rfl, by simp [xCell, xUp, cv]⟩) (fun G n' _ h => xUpC_o G h) kk
theorem gf_5_4 {M : xMt} {pc : Nat} {ls : List (Nat × xV)} {st : List xV} {μ : xM} {Q : xPo} {index s w : Nat} (hd : decode M.2.1 pc = .ok (.getfield index, 3)) (hn : ((5, s, w) : xN) ∈ xNms) (hlink : Cond.fieldLink M.1.cls index "OnceLetters" "keptNext" "I" ∈ xT) (kk : xOk M (pc + 3) ls (vI (μ.1 5 s w 4) :: st) μ Q) : xOk M pc ls (vR 5 s w :: st) μ Q := ok_get 4 hd hn (T := TX5) rfl inX5 (by decide) hlink (fun G => ⟨_, rfl, rfl⟩) kk
theorem pf_5_4 {M : xMt} {pc : Nat} {ls : List (Nat × xV)} {st : List xV} {μ : xM} {Q : xPo} {index s w : Nat} {v : Int32} (hd : decode M.2.1 pc = .ok (.putfield index, 3)) (hn : ((5, s, w) : xN) ∈ xNms) (hlink : Cond.fieldLink M.1.cls index "OnceLetters" "keptNext" "I" ∈ xT) (kk : xOk M (pc + 3) ls st (xUp μ.1 5 s w 4 v, μ.2) Q) : xOk M pc ls (vI v :: vR 5 s w :: st) μ Q := ok_put 4 tyX5 tyX5_ok nmX5 hd hn (T := TX5) rfl inX5 (by decide) hlink rfl (ty := .int) (by decide +kernel) (fun _ => rfl) (fun _ => rfl) (fun G => ⟨_, rfl, Nat.le_of_ble_eq_true rfl, by simp [xCell, xUp, cv]⟩) (fun G n' _ h => xUpC_o G h) kk
theorem gf_5_5 {M : xMt} {pc : Nat} {ls : List (Nat × xV)} {st : List xV} {μ : xM} {Q : xPo} {index s w : Nat} (hd : decode M.2.1 pc = .ok (.getfield index, 3)) (hn : ((5, s, w) : xN) ∈ xNms) (hlink : Cond.fieldLink M.1.cls index "OnceLetters" "script" "LOnceLetters$Script;" ∈ xT) (kk : xOk M (pc + 3) ls (vR 3 s w :: st) μ Q) : xOk M pc ls (vR 5 s w :: st) μ Q := ok_get 5 hd hn (T := TX5) rfl inX5 (by decide) hlink (fun G => ⟨_, rfl, rfl⟩) kk
theorem gf_5_6 {M : xMt} {pc : Nat} {ls : List (Nat × xV)} {st : List xV} {μ : xM} {Q : xPo} {index s w : Nat} (hd : decode M.2.1 pc = .ok (.getfield index, 3)) (hn : ((5, s, w) : xN) ∈ xNms) (hlink : Cond.fieldLink M.1.cls index "OnceLetters" "errors" "[I" ∈ xT) (kk : xOk M (pc + 3) ls (vR 25 s w :: st) μ Q) : xOk M pc ls (vR 5 s w :: st) μ Q := ok_get 6 hd hn (T := TX5) rfl inX5 (by decide) hlink (fun G => ⟨_, rfl, rfl⟩) kk
theorem gf_5_7 {M : xMt} {pc : Nat} {ls : List (Nat × xV)} {st : List xV} {μ : xM} {Q : xPo} {index s w : Nat} (hd : decode M.2.1 pc = .ok (.getfield index, 3)) (hn : ((5, s, w) : xN) ∈ xNms) (hlink : Cond.fieldLink M.1.cls index "OnceLetters" "lastAnswer" "I" ∈ xT) (kk : xOk M (pc + 3) ls (vI (μ.1 5 s w 7) :: st) μ Q) : xOk M pc ls (vR 5 s w :: st) μ Q := ok_get 7 hd hn (T := TX5) rfl inX5 (by decide) hlink (fun G => ⟨_, rfl, rfl⟩) kk
theorem pf_5_7 {M : xMt} {pc : Nat} {ls : List (Nat × xV)} {st : List xV} {μ : xM} {Q : xPo} {index s w : Nat} {v : Int32} (hd : decode M.2.1 pc = .ok (.putfield index, 3)) (hn : ((5, s, w) : xN) ∈ xNms) (hlink : Cond.fieldLink M.1.cls index "OnceLetters" "lastAnswer" "I" ∈ xT) (kk : xOk M (pc + 3) ls st (xUp μ.1 5 s w 7 v, μ.2) Q) : xOk M pc ls (vI v :: vR 5 s w :: st) μ Q := ok_put 7 tyX5 tyX5_ok nmX5 hd hn (T := TX5) rfl inX5 (by decide) hlink rfl (ty := .int) (by decide +kernel) (fun _ => rfl) (fun _ => rfl) (fun G => ⟨_, rfl, Nat.le_of_ble_eq_true rfl, by simp [xCell, xUp, cv]⟩) (fun G n' _ h => xUpC_o G h) kk
theorem gf_5_8 {M : xMt} {pc : Nat} {ls : List (Nat × xV)} {st : List xV} {μ : xM} {Q : xPo} {index s w : Nat} (hd : decode M.2.1 pc = .ok (.getfield index, 3)) (hn : ((5, s, w) : xN) ∈ xNms) (hlink : Cond.fieldLink M.1.cls index "OnceLetters" "inOrders" "Z" ∈ xT) (kk : xOk M (pc + 3) ls (vI (μ.1 5 s w 8) :: st) μ Q) : xOk M pc ls (vR 5 s w :: st) μ Q := ok_get 8 hd hn (T := TX5) rfl inX5 (by decide) hlink (fun G => ⟨_, rfl, rfl⟩) kk
theorem pf_5_8 {M : xMt} {pc : Nat} {ls : List (Nat × xV)} {st : List xV} {μ : xM} {Q : xPo} {index s w : Nat} {v : Int32} (hd : decode M.2.1 pc = .ok (.putfield index, 3)) (hn : ((5, s, w) : xN) ∈ xNms) (hlink : Cond.fieldLink M.1.cls index "OnceLetters" "inOrders" "Z" ∈ xT) (hz : v = 0 ∨ v = 1) (kk : xOk M (pc + 3) ls st (xUp μ.1 5 s w 8 v, μ.2) Q) : xOk M pc ls (vI v :: vR 5 s w :: st) μ Q := ok_put 8 tyX5 tyX5_ok nmX5 hd hn (T := TX5) rfl inX5 (by decide) hlink rfl (ty := .boolean) (by decide +kernel) (fun _ => by rcases hz with rfl | rfl <;> rfl) (fun _ => by rcases hz with rfl | rfl <;> rfl) (fun G => ⟨_, rfl, Nat.le_of_ble_eq_true rfl, by simp [xCell, xUp, cv]⟩) (fun G n' _ h => xUpC_o G h) kk
theorem gf_6_0 {M : xMt} {pc : Nat} {ls : List (Nat × xV)} {st : List xV} {μ : xM} {Q : xPo} {index s w : Nat} (hd : decode M.2.1 pc = .ok (.getfield index, 3)) (hn : ((6, s, w) : xN) ∈ xNms) (hlink : Cond.fieldLink M.1.cls index "OnceLettersModel" "now" "[I" ∈ xT) (kk : xOk M (pc + 3) ls (vR 30 s w :: st) μ Q) : xOk M pc ls (vR 6 s w :: st) μ Q := ok_get 0 hd hn (T := TX6) rfl inX6 (by decide) hlink (fun G => ⟨_, rfl, rfl⟩) kk
theorem gf_6_1 {M : xMt} {pc : Nat} {ls : List (Nat × xV)} {st : List xV} {μ : xM} {Q : xPo} {index s w : Nat} (hd : decode M.2.1 pc = .ok (.getfield index, 3)) (hn : ((6, s, w) : xN) ∈ xNms) (hlink : Cond.fieldLink M.1.cls index "OnceLettersModel" "past" "[I" ∈ xT) (kk : xOk M (pc + 3) ls (vR 31 s w :: st) μ Q) : xOk M pc ls (vR 6 s w :: st) μ Q := ok_get 1 hd hn (T := TX6) rfl inX6 (by decide) hlink (fun G => ⟨_, rfl, rfl⟩) kk
theorem gf_6_2 {M : xMt} {pc : Nat} {ls : List (Nat × xV)} {st : List xV} {μ : xM} {Q : xPo} {index s w : Nat} (hd : decode M.2.1 pc = .ok (.getfield index, 3)) (hn : ((6, s, w) : xN) ∈ xNms) (hlink : Cond.fieldLink M.1.cls index "OnceLettersModel" "states" "I" ∈ xT) (kk : xOk M (pc + 3) ls (vI (μ.2.1 6 s w 2) :: st) μ Q) : xOk M pc ls (vR 6 s w :: st) μ Q := ok_get 2 hd hn (T := TX6) rfl inX6 (by decide) hlink (fun G => ⟨_, rfl, rfl⟩) kk
theorem pf_6_2 {M : xMt} {pc : Nat} {ls : List (Nat × xV)} {st : List xV} {μ : xM} {Q : xPo} {index s w : Nat} {v : Int32} (hd : decode M.2.1 pc = .ok (.putfield index, 3)) (hn : ((6, s, w) : xN) ∈ xNms) (hlink : Cond.fieldLink M.1.cls index "OnceLettersModel" "states" "I" ∈ xT) (kk : xOk M (pc + 3) ls st (μ.1, (xUp μ.2.1 6 s w 2 v, μ.2.2)) Q) : xOk M pc ls (vI v :: vR 6 s w :: st) μ Q := ok_put 2 tyX6 tyX6_ok nmX6 hd hn (T := TX6) rfl inX6 (by decide) hlink rfl (ty := .int) (by decide +kernel) (fun _ => rfl) (fun _ => rfl) (fun G => ⟨_, rfl, Nat.le_of_ble_eq_true rfl, by simp [xCell, xUp, cv]⟩) (fun G n' _ h => xUpR_o G h) kk
theorem gf_6_3 {M : xMt} {pc : Nat} {ls : List (Nat × xV)} {st : List xV} {μ : xM} {Q : xPo} {index s w : Nat} (hd : decode M.2.1 pc = .ok (.getfield index, 3)) (hn : ((6, s, w) : xN) ∈ xNms) (hlink : Cond.fieldLink M.1.cls index "OnceLettersModel" "isOne" "Z" ∈ xT) (kk : xOk M (pc + 3) ls (vI (μ.2.1 6 s w 3) :: st) μ Q) : xOk M pc ls (vR 6 s w :: st) μ Q := ok_get 3 hd hn (T := TX6) rfl inX6 (by decide) hlink (fun G => ⟨_, rfl, rfl⟩) kk
theorem pf_6_3 {M : xMt} {pc : Nat} {ls : List (Nat × xV)} {st : List xV} {μ : xM} {Q : xPo} {index s w : Nat} {v : Int32} (hd : decode M.2.1 pc = .ok (.putfield index, 3)) (hn : ((6, s, w) : xN) ∈ xNms) (hlink : Cond.fieldLink M.1.cls index "OnceLettersModel" "isOne" "Z" ∈ xT) (hz : v = 0 ∨ v = 1) (kk : xOk M (pc + 3) ls st (μ.1, (xUp μ.2.1 6 s w 3 v, μ.2.2)) Q) : xOk M pc ls (vI v :: vR 6 s w :: st) μ Q := ok_put 3 tyX6 tyX6_ok nmX6 hd hn (T := TX6) rfl inX6 (by decide) hlink rfl (ty := .boolean) (by decide +kernel) (fun _ => by rcases hz with rfl | rfl <;> rfl) (fun _ => by rcases hz with rfl | rfl <;> rfl) (fun G => ⟨_, rfl, Nat.le_of_ble_eq_true rfl, by simp [xCell, xUp, cv]⟩) (fun G n' _ h => xUpR_o G h) kk
theorem gf_6_4 {M : xMt} {pc : Nat} {ls : List (Nat × xV)} {st : List xV} {μ : xM} {Q : xPo} {index s w : Nat} (hd : decode M.2.1 pc = .ok (.getfield index, 3)) (hn : ((6, s, w) : xN) ∈ xNms) (hlink : Cond.fieldLink M.1.cls index "OnceLettersModel" "refused" "[I" ∈ xT) (kk : xOk M (pc + 3) ls (vR 32 s w :: st) μ Q) : xOk M pc ls (vR 6 s w :: st) μ Q := ok_get 4 hd hn (T := TX6) rfl inX6 (by decide) hlink (fun G => ⟨_, rfl, rfl⟩) kk
theorem gf_6_5 {M : xMt} {pc : Nat} {ls : List (Nat × xV)} {st : List xV} {μ : xM} {Q : xPo} {index s w : Nat} (hd : decode M.2.1 pc = .ok (.getfield index, 3)) (hn : ((6, s, w) : xN) ∈ xNms) (hlink : Cond.fieldLink M.1.cls index "OnceLettersModel" "text" "[I" ∈ xT) (kk : xOk M (pc + 3) ls (vR 33 s w :: st) μ Q) : xOk M pc ls (vR 6 s w :: st) μ Q := ok_get 5 hd hn (T := TX6) rfl inX6 (by decide) hlink (fun G => ⟨_, rfl, rfl⟩) kk
theorem gf_6_6 {M : xMt} {pc : Nat} {ls : List (Nat × xV)} {st : List xV} {μ : xM} {Q : xPo} {index s w : Nat} (hd : decode M.2.1 pc = .ok (.getfield index, 3)) (hn : ((6, s, w) : xN) ∈ xNms) (hlink : Cond.fieldLink M.1.cls index "OnceLettersModel" "size" "I" ∈ xT) (kk : xOk M (pc + 3) ls (vI (μ.2.1 6 s w 6) :: st) μ Q) : xOk M pc ls (vR 6 s w :: st) μ Q := ok_get 6 hd hn (T := TX6) rfl inX6 (by decide) hlink (fun G => ⟨_, rfl, rfl⟩) kk
theorem pf_6_6 {M : xMt} {pc : Nat} {ls : List (Nat × xV)} {st : List xV} {μ : xM} {Q : xPo} {index s w : Nat} {v : Int32} (hd : decode M.2.1 pc = .ok (.putfield index, 3)) (hn : ((6, s, w) : xN) ∈ xNms) (hlink : Cond.fieldLink M.1.cls index "OnceLettersModel" "size" "I" ∈ xT) (kk : xOk M (pc + 3) ls st (μ.1, (xUp μ.2.1 6 s w 6 v, μ.2.2)) Q) : xOk M pc ls (vI v :: vR 6 s w :: st) μ Q := ok_put 6 tyX6 tyX6_ok nmX6 hd hn (T := TX6) rfl inX6 (by decide) hlink rfl (ty := .int) (by decide +kernel) (fun _ => rfl) (fun _ => rfl) (fun G => ⟨_, rfl, Nat.le_of_ble_eq_true rfl, by simp [xCell, xUp, cv]⟩) (fun G n' _ h => xUpR_o G h) kk
theorem gf_6_7 {M : xMt} {pc : Nat} {ls : List (Nat × xV)} {st : List xV} {μ : xM} {Q : xPo} {index s w : Nat} (hd : decode M.2.1 pc = .ok (.getfield index, 3)) (hn : ((6, s, w) : xN) ∈ xNms) (hlink : Cond.fieldLink M.1.cls index "OnceLettersModel" "at" "I" ∈ xT) (kk : xOk M (pc + 3) ls (vI (μ.2.1 6 s w 7) :: st) μ Q) : xOk M pc ls (vR 6 s w :: st) μ Q := ok_get 7 hd hn (T := TX6) rfl inX6 (by decide) hlink (fun G => ⟨_, rfl, rfl⟩) kk
theorem pf_6_7 {M : xMt} {pc : Nat} {ls : List (Nat × xV)} {st : List xV} {μ : xM} {Q : xPo} {index s w : Nat} {v : Int32} (hd : decode M.2.1 pc = .ok (.putfield index, 3)) (hn : ((6, s, w) : xN) ∈ xNms) (hlink : Cond.fieldLink M.1.cls index "OnceLettersModel" "at" "I" ∈ xT) (kk : xOk M (pc + 3) ls st (μ.1, (xUp μ.2.1 6 s w 7 v, μ.2.2)) Q) : xOk M pc ls (vI v :: vR 6 s w :: st) μ Q := ok_put 7 tyX6 tyX6_ok nmX6 hd hn (T := TX6) rfl inX6 (by decide) hlink rfl (ty := .int) (by decide +kernel) (fun _ => rfl) (fun _ => rfl) (fun G => ⟨_, rfl, Nat.le_of_ble_eq_true rfl, by simp [xCell, xUp, cv]⟩) (fun G n' _ h => xUpR_o G h) kk
theorem gf_6_8 {M : xMt} {pc : Nat} {ls : List (Nat × xV)} {st : List xV} {μ : xM} {Q : xPo} {index s w : Nat} (hd : decode M.2.1 pc = .ok (.getfield index, 3)) (hn : ((6, s, w) : xN) ∈ xNms) (hlink : Cond.fieldLink M.1.cls index "OnceLettersModel" "fault" "I" ∈ xT) (kk : xOk M (pc + 3) ls (vI (μ.2.1 6 s w 8) :: st) μ Q) : xOk M pc ls (vR 6 s w :: st) μ Q := ok_get 8 hd hn (T := TX6) rfl inX6 (by decide) hlink (fun G => ⟨_, rfl, rfl⟩) kk
theorem pf_6_8 {M : xMt} {pc : Nat} {ls : List (Nat × xV)} {st : List xV} {μ : xM} {Q : xPo} {index s w : Nat} {v : Int32} (hd : decode M.2.1 pc = .ok (.putfield index, 3)) (hn : ((6, s, w) : xN) ∈ xNms) (hlink : Cond.fieldLink M.1.cls index "OnceLettersModel" "fault" "I" ∈ xT) (kk : xOk M (pc + 3) ls st (μ.1, (xUp μ.2.1 6 s w 8 v, μ.2.2)) Q) : xOk M pc ls (vI v :: vR 6 s w :: st) μ Q := ok_put 8 tyX6 tyX6_ok nmX6 hd hn (T := TX6) rfl inX6 (by decide) hlink rfl (ty := .int) (by decide +kernel) (fun _ => rfl) (fun _ => rfl) (fun G => ⟨_, rfl, Nat.le_of_ble_eq_true rfl, by simp [xCell, xUp, cv]⟩) (fun G n' _ h => xUpR_o G h) kk
theorem gf_6_9 {M : xMt} {pc : Nat} {ls : List (Nat × xV)} {st : List xV} {μ : xM} {Q : xPo} {index s w : Nat} (hd : decode M.2.1 pc = .ok (.getfield index, 3)) (hn : ((6, s, w) : xN) ∈ xNms) (hlink : Cond.fieldLink M.1.cls index "OnceLettersModel" "orders" "I" ∈ xT) (kk : xOk M (pc + 3) ls (vI (μ.2.1 6 s w 9) :: st) μ Q) : xOk M pc ls (vR 6 s w :: st) μ Q := ok_get 9 hd hn (T := TX6) rfl inX6 (by decide) hlink (fun G => ⟨_, rfl, rfl⟩) kk
theorem pf_6_9 {M : xMt} {pc : Nat} {ls : List (Nat × xV)} {st : List xV} {μ : xM} {Q : xPo} {index s w : Nat} {v : Int32} (hd : decode M.2.1 pc = .ok (.putfield index, 3)) (hn : ((6, s, w) : xN) ∈ xNms) (hlink : Cond.fieldLink M.1.cls index "OnceLettersModel" "orders" "I" ∈ xT) (kk : xOk M (pc + 3) ls st (μ.1, (xUp μ.2.1 6 s w 9 v, μ.2.2)) Q) : xOk M pc ls (vI v :: vR 6 s w :: st) μ Q := ok_put 9 tyX6 tyX6_ok nmX6 hd hn (T := TX6) rfl inX6 (by decide) hlink rfl (ty := .int) (by decide +kernel) (fun _ => rfl) (fun _ => rfl) (fun G => ⟨_, rfl, Nat.le_of_ble_eq_true rfl, by simp [xCell, xUp, cv]⟩) (fun G n' _ h => xUpR_o G h) kk
theorem gf_6_10 {M : xMt} {pc : Nat} {ls : List (Nat × xV)} {st : List xV} {μ : xM} {Q : xPo} {index s w : Nat} (hd : decode M.2.1 pc = .ok (.getfield index, 3)) (hn : ((6, s, w) : xN) ∈ xNms) (hlink : Cond.fieldLink M.1.cls index "OnceLettersModel" "letters" "[I" ∈ xT) (kk : xOk M (pc + 3) ls (vR 34 s w :: st) μ Q) : xOk M pc ls (vR 6 s w :: st) μ Q := ok_get 10 hd hn (T := TX6) rfl inX6 (by decide) hlink (fun G => ⟨_, rfl, rfl⟩) kk
theorem gf_6_11 {M : xMt} {pc : Nat} {ls : List (Nat × xV)} {st : List xV} {μ : xM} {Q : xPo} {index s w : Nat} (hd : decode M.2.1 pc = .ok (.getfield index, 3)) (hn : ((6, s, w) : xN) ∈ xNms) (hlink : Cond.fieldLink M.1.cls index "OnceLettersModel" "tells" "[I" ∈ xT) (kk : xOk M (pc + 3) ls (vR 35 s w :: st) μ Q) : xOk M pc ls (vR 6 s w :: st) μ Q := ok_get 11 hd hn (T := TX6) rfl inX6 (by decide) hlink (fun G => ⟨_, rfl, rfl⟩) kk
theorem gf_6_12 {M : xMt} {pc : Nat} {ls : List (Nat × xV)} {st : List xV} {μ : xM} {Q : xPo} {index s w : Nat} (hd : decode M.2.1 pc = .ok (.getfield index, 3)) (hn : ((6, s, w) : xN) ∈ xNms) (hlink : Cond.fieldLink M.1.cls index "OnceLettersModel" "last" "I" ∈ xT) (kk : xOk M (pc + 3) ls (vI (μ.2.1 6 s w 12) :: st) μ Q) : xOk M pc ls (vR 6 s w :: st) μ Q := ok_get 12 hd hn (T := TX6) rfl inX6 (by decide) hlink (fun G => ⟨_, rfl, rfl⟩) kk
theorem pf_6_12 {M : xMt} {pc : Nat} {ls : List (Nat × xV)} {st : List xV} {μ : xM} {Q : xPo} {index s w : Nat} {v : Int32} (hd : decode M.2.1 pc = .ok (.putfield index, 3)) (hn : ((6, s, w) : xN) ∈ xNms) (hlink : Cond.fieldLink M.1.cls index "OnceLettersModel" "last" "I" ∈ xT) (kk : xOk M (pc + 3) ls st (μ.1, (xUp μ.2.1 6 s w 12 v, μ.2.2)) Q) : xOk M pc ls (vI v :: vR 6 s w :: st) μ Q := ok_put 12 tyX6 tyX6_ok nmX6 hd hn (T := TX6) rfl inX6 (by decide) hlink rfl (ty := .int) (by decide +kernel) (fun _ => rfl) (fun _ => rfl) (fun G => ⟨_, rfl, Nat.le_of_ble_eq_true rfl, by simp [xCell, xUp, cv]⟩) (fun G n' _ h => xUpR_o G h) kk
theorem gf_6_13 {M : xMt} {pc : Nat} {ls : List (Nat × xV)} {st : List xV} {μ : xM} {Q : xPo} {index s w : Nat} (hd : decode M.2.1 pc = .ok (.getfield index, 3)) (hn : ((6, s, w) : xN) ∈ xNms) (hlink : Cond.fieldLink M.1.cls index "OnceLettersModel" "h" "J" ∈ xT) (kk : xOk M (pc + 3) ls (vL μ.2.2 :: st) μ Q) : xOk M pc ls (vR 6 s w :: st) μ Q := ok_get 13 hd hn (T := TX6) rfl inX6 (by decide) hlink (fun G => ⟨_, rfl, rfl⟩) kk
theorem pf_6_13 {M : xMt} {pc : Nat} {ls : List (Nat × xV)} {st : List xV} {μ : xM} {Q : xPo} {index : Nat} {v : Int64} (hd : decode M.2.1 pc = .ok (.putfield index, 3)) (hlink : Cond.fieldLink M.1.cls index "OnceLettersModel" "h" "J" ∈ xT) (kk : xOk M (pc + 3) ls st (μ.1, (μ.2.1, v)) Q) : xOk M pc ls (vL v :: vR 6 0 0 :: st) μ Q := ok_put 13 tyX6 tyX6_ok nmX6 hd v6 (T := TX6) rfl inX6 (by decide) hlink rfl (ty := .long) (by decide +kernel) (fun _ => rfl) (fun _ => rfl) (fun G => ⟨_, rfl, Nat.le_of_ble_eq_true rfl, by simp [xCell, cv]⟩) (fun G n' hm h => xUpH_o G hm h) kk
theorem al_10 {M : xMt} {pc : Nat} {ls : List (Nat × xV)} {st : List xV} {μ : xM} {Q : xPo} {s w : Nat} {i : Int32} (hd : decode M.2.1 pc = .ok (.iaload, 1)) (hn : ((10, s, w) : xN) ∈ xNms) (hi : vp_in i 48) (kk : xOk M (pc + 1) ls (vI (μ.1 10 s w i.toNatClampNeg) :: st) μ Q) : xOk M pc ls (vI i :: vR 10 s w :: st) μ Q := ok_iald (f := fun j => μ.1 10 s w j) hd hn (fun _ => rfl) hi kk
theorem as_10 {M : xMt} {pc : Nat} {ls : List (Nat × xV)} {st : List xV} {μ : xM} {Q : xPo} {s w : Nat} {i x : Int32} (hd : decode M.2.1 pc = .ok (.iastore, 1)) (hn : ((10, s, w) : xN) ∈ xNms) (hi : vp_in i 48) (kk : xOk M (pc + 1) ls st (xUp μ.1 10 s w i.toNatClampNeg x, μ.2) Q) : xOk M pc ls (vI x :: vI i :: vR 10 s w :: st) μ Q := ok_iast (f := fun j => μ.1 10 s w j) hd hn (fun _ => rfl) hi (fun G => (congrArg (fun f => (Sum.inl (G.2.1 0, 48, Sum.inl f) : va_E)) (xUp_row μ.1 10 s w i.toNatClampNeg x))) (fun G n' _ h => xUpC_o G h) kk
theorem al_11 {M : xMt} {pc : Nat} {ls : List (Nat × xV)} {st : List xV} {μ : xM} {Q : xPo} {s w : Nat} {i : Int32} (hd : decode M.2.1 pc = .ok (.iaload, 1)) (hn : ((11, s, w) : xN) ∈ xNms) (hi : vp_in i 48) (kk : xOk M (pc + 1) ls (vI (μ.1 11 s w i.toNatClampNeg) :: st) μ Q) : xOk M pc ls (vI i :: vR 11 s w :: st) μ Q := ok_iald (f := fun j => μ.1 11 s w j) hd hn (fun _ => rfl) hi kk
theorem as_11 {M : xMt} {pc : Nat} {ls : List (Nat × xV)} {st : List xV} {μ : xM} {Q : xPo} {s w : Nat} {i x : Int32} (hd : decode M.2.1 pc = .ok (.iastore, 1)) (hn : ((11, s, w) : xN) ∈ xNms) (hi : vp_in i 48) (kk : xOk M (pc + 1) ls st (xUp μ.1 11 s w i.toNatClampNeg x, μ.2) Q) : xOk M pc ls (vI x :: vI i :: vR 11 s w :: st) μ Q := ok_iast (f := fun j => μ.1 11 s w j) hd hn (fun _ => rfl) hi (fun G => (congrArg (fun f => (Sum.inl (G.2.1 0, 48, Sum.inl f) : va_E)) (xUp_row μ.1 11 s w i.toNatClampNeg x))) (fun G n' _ h => xUpC_o G h) kk
theorem al_12 {M : xMt} {pc : Nat} {ls : List (Nat × xV)} {st : List xV} {μ : xM} {Q : xPo} {s w : Nat} {i : Int32} (hd : decode M.2.1 pc = .ok (.iaload, 1)) (hn : ((12, s, w) : xN) ∈ xNms) (hi : vp_in i 48) (kk : xOk M (pc + 1) ls (vI (μ.1 12 s w i.toNatClampNeg) :: st) μ Q) : xOk M pc ls (vI i :: vR 12 s w :: st) μ Q := ok_iald (f := fun j => μ.1 12 s w j) hd hn (fun _ => rfl) hi kk
theorem as_12 {M : xMt} {pc : Nat} {ls : List (Nat × xV)} {st : List xV} {μ : xM} {Q : xPo} {s w : Nat} {i x : Int32} (hd : decode M.2.1 pc = .ok (.iastore, 1)) (hn : ((12, s, w) : xN) ∈ xNms) (hi : vp_in i 48) (kk : xOk M (pc + 1) ls st (xUp μ.1 12 s w i.toNatClampNeg x, μ.2) Q) : xOk M pc ls (vI x :: vI i :: vR 12 s w :: st) μ Q := ok_iast (f := fun j => μ.1 12 s w j) hd hn (fun _ => rfl) hi (fun G => (congrArg (fun f => (Sum.inl (G.2.1 0, 48, Sum.inl f) : va_E)) (xUp_row μ.1 12 s w i.toNatClampNeg x))) (fun G n' _ h => xUpC_o G h) kk
theorem al_13 {M : xMt} {pc : Nat} {ls : List (Nat × xV)} {st : List xV} {μ : xM} {Q : xPo} {s w : Nat} {i : Int32} (hd : decode M.2.1 pc = .ok (.iaload, 1)) (hn : ((13, s, w) : xN) ∈ xNms) (hi : vp_in i 48) (kk : xOk M (pc + 1) ls (vI (μ.1 13 s w i.toNatClampNeg) :: st) μ Q) : xOk M pc ls (vI i :: vR 13 s w :: st) μ Q := ok_iald (f := fun j => μ.1 13 s w j) hd hn (fun _ => rfl) hi kk
theorem as_13 {M : xMt} {pc : Nat} {ls : List (Nat × xV)} {st : List xV} {μ : xM} {Q : xPo} {s w : Nat} {i x : Int32} (hd : decode M.2.1 pc = .ok (.iastore, 1)) (hn : ((13, s, w) : xN) ∈ xNms) (hi : vp_in i 48) (kk : xOk M (pc + 1) ls st (xUp μ.1 13 s w i.toNatClampNeg x, μ.2) Q) : xOk M pc ls (vI x :: vI i :: vR 13 s w :: st) μ Q := ok_iast (f := fun j => μ.1 13 s w j) hd hn (fun _ => rfl) hi (fun G => (congrArg (fun f => (Sum.inl (G.2.1 0, 48, Sum.inl f) : va_E)) (xUp_row μ.1 13 s w i.toNatClampNeg x))) (fun G n' _ h => xUpC_o G h) kk
theorem al_14 {M : xMt} {pc : Nat} {ls : List (Nat × xV)} {st : List xV} {μ : xM} {Q : xPo} {s w : Nat} {i : Int32} (hd : decode M.2.1 pc = .ok (.iaload, 1)) (hn : ((14, s, w) : xN) ∈ xNms) (hi : vp_in i 48) (kk : xOk M (pc + 1) ls (vI (μ.1 14 s w i.toNatClampNeg) :: st) μ Q) : xOk M pc ls (vI i :: vR 14 s w :: st) μ Q := ok_iald (f := fun j => μ.1 14 s w j) hd hn (fun _ => rfl) hi kk
theorem as_14 {M : xMt} {pc : Nat} {ls : List (Nat × xV)} {st : List xV} {μ : xM} {Q : xPo} {s w : Nat} {i x : Int32} (hd : decode M.2.1 pc = .ok (.iastore, 1)) (hn : ((14, s, w) : xN) ∈ xNms) (hi : vp_in i 48) (kk : xOk M (pc + 1) ls st (xUp μ.1 14 s w i.toNatClampNeg x, μ.2) Q) : xOk M pc ls (vI x :: vI i :: vR 14 s w :: st) μ Q := ok_iast (f := fun j => μ.1 14 s w j) hd hn (fun _ => rfl) hi (fun G => (congrArg (fun f => (Sum.inl (G.2.1 0, 48, Sum.inl f) : va_E)) (xUp_row μ.1 14 s w i.toNatClampNeg x))) (fun G n' _ h => xUpC_o G h) kk
theorem al_15 {M : xMt} {pc : Nat} {ls : List (Nat × xV)} {st : List xV} {μ : xM} {Q : xPo} {s w : Nat} {i : Int32} (hd : decode M.2.1 pc = .ok (.iaload, 1)) (hn : ((15, s, w) : xN) ∈ xNms) (hi : vp_in i 48) (kk : xOk M (pc + 1) ls (vI (μ.1 15 s w i.toNatClampNeg) :: st) μ Q) : xOk M pc ls (vI i :: vR 15 s w :: st) μ Q := ok_iald (f := fun j => μ.1 15 s w j) hd hn (fun _ => rfl) hi kk
theorem as_15 {M : xMt} {pc : Nat} {ls : List (Nat × xV)} {st : List xV} {μ : xM} {Q : xPo} {s w : Nat} {i x : Int32} (hd : decode M.2.1 pc = .ok (.iastore, 1)) (hn : ((15, s, w) : xN) ∈ xNms) (hi : vp_in i 48) (kk : xOk M (pc + 1) ls st (xUp μ.1 15 s w i.toNatClampNeg x, μ.2) Q) : xOk M pc ls (vI x :: vI i :: vR 15 s w :: st) μ Q := ok_iast (f := fun j => μ.1 15 s w j) hd hn (fun _ => rfl) hi (fun G => (congrArg (fun f => (Sum.inl (G.2.1 0, 48, Sum.inl f) : va_E)) (xUp_row μ.1 15 s w i.toNatClampNeg x))) (fun G n' _ h => xUpC_o G h) kk
theorem al_16 {M : xMt} {pc : Nat} {ls : List (Nat × xV)} {st : List xV} {μ : xM} {Q : xPo} {s w : Nat} {i : Int32} (hd : decode M.2.1 pc = .ok (.iaload, 1)) (hn : ((16, s, w) : xN) ∈ xNms) (hi : vp_in i 3) (kk : xOk M (pc + 1) ls (vI (μ.1 16 s w i.toNatClampNeg) :: st) μ Q) : xOk M pc ls (vI i :: vR 16 s w :: st) μ Q := ok_iald (f := fun j => μ.1 16 s w j) hd hn (fun _ => rfl) hi kk
theorem as_16 {M : xMt} {pc : Nat} {ls : List (Nat × xV)} {st : List xV} {μ : xM} {Q : xPo} {s w : Nat} {i x : Int32} (hd : decode M.2.1 pc = .ok (.iastore, 1)) (hn : ((16, s, w) : xN) ∈ xNms) (hi : vp_in i 3) (kk : xOk M (pc + 1) ls st (xUp μ.1 16 s w i.toNatClampNeg x, μ.2) Q) : xOk M pc ls (vI x :: vI i :: vR 16 s w :: st) μ Q := ok_iast (f := fun j => μ.1 16 s w j) hd hn (fun _ => rfl) hi (fun G => (congrArg (fun f => (Sum.inl (G.2.1 0, 3, Sum.inl f) : va_E)) (xUp_row μ.1 16 s w i.toNatClampNeg x))) (fun G n' _ h => xUpC_o G h) kk
theorem al_17 {M : xMt} {pc : Nat} {ls : List (Nat × xV)} {st : List xV} {μ : xM} {Q : xPo} {s w : Nat} {i : Int32} (hd : decode M.2.1 pc = .ok (.iaload, 1)) (hn : ((17, s, w) : xN) ∈ xNms) (hi : vp_in i 3) (kk : xOk M (pc + 1) ls (vI (μ.1 17 s w i.toNatClampNeg) :: st) μ Q) : xOk M pc ls (vI i :: vR 17 s w :: st) μ Q := ok_iald (f := fun j => μ.1 17 s w j) hd hn (fun _ => rfl) hi kk
theorem as_17 {M : xMt} {pc : Nat} {ls : List (Nat × xV)} {st : List xV} {μ : xM} {Q : xPo} {s w : Nat} {i x : Int32} (hd : decode M.2.1 pc = .ok (.iastore, 1)) (hn : ((17, s, w) : xN) ∈ xNms) (hi : vp_in i 3) (kk : xOk M (pc + 1) ls st (xUp μ.1 17 s w i.toNatClampNeg x, μ.2) Q) : xOk M pc ls (vI x :: vI i :: vR 17 s w :: st) μ Q := ok_iast (f := fun j => μ.1 17 s w j) hd hn (fun _ => rfl) hi (fun G => (congrArg (fun f => (Sum.inl (G.2.1 0, 3, Sum.inl f) : va_E)) (xUp_row μ.1 17 s w i.toNatClampNeg x))) (fun G n' _ h => xUpC_o G h) kk
theorem al_18 {M : xMt} {pc : Nat} {ls : List (Nat × xV)} {st : List xV} {μ : xM} {Q : xPo} {s w : Nat} {i : Int32} (hd : decode M.2.1 pc = .ok (.iaload, 1)) (hn : ((18, s, w) : xN) ∈ xNms) (hi : vp_in i 3) (kk : xOk M (pc + 1) ls (vI (μ.1 18 s w i.toNatClampNeg) :: st) μ Q) : xOk M pc ls (vI i :: vR 18 s w :: st) μ Q := ok_iald (f := fun j => μ.1 18 s w j) hd hn (fun _ => rfl) hi kk
theorem as_18 {M : xMt} {pc : Nat} {ls : List (Nat × xV)} {st : List xV} {μ : xM} {Q : xPo} {s w : Nat} {i x : Int32} (hd : decode M.2.1 pc = .ok (.iastore, 1)) (hn : ((18, s, w) : xN) ∈ xNms) (hi : vp_in i 3) (kk : xOk M (pc + 1) ls st (xUp μ.1 18 s w i.toNatClampNeg x, μ.2) Q) : xOk M pc ls (vI x :: vI i :: vR 18 s w :: st) μ Q := ok_iast (f := fun j => μ.1 18 s w j) hd hn (fun _ => rfl) hi (fun G => (congrArg (fun f => (Sum.inl (G.2.1 0, 3, Sum.inl f) : va_E)) (xUp_row μ.1 18 s w i.toNatClampNeg x))) (fun G n' _ h => xUpC_o G h) kk
theorem al_19 {M : xMt} {pc : Nat} {ls : List (Nat × xV)} {st : List xV} {μ : xM} {Q : xPo} {s w : Nat} {i : Int32} (hd : decode M.2.1 pc = .ok (.iaload, 1)) (hn : ((19, s, w) : xN) ∈ xNms) (hi : vp_in i 6) (kk : xOk M (pc + 1) ls (vI (μ.1 19 s w i.toNatClampNeg) :: st) μ Q) : xOk M pc ls (vI i :: vR 19 s w :: st) μ Q := ok_iald (f := fun j => μ.1 19 s w j) hd hn (fun _ => rfl) hi kk
theorem as_19 {M : xMt} {pc : Nat} {ls : List (Nat × xV)} {st : List xV} {μ : xM} {Q : xPo} {s w : Nat} {i x : Int32} (hd : decode M.2.1 pc = .ok (.iastore, 1)) (hn : ((19, s, w) : xN) ∈ xNms) (hi : vp_in i 6) (kk : xOk M (pc + 1) ls st (xUp μ.1 19 s w i.toNatClampNeg x, μ.2) Q) : xOk M pc ls (vI x :: vI i :: vR 19 s w :: st) μ Q := ok_iast (f := fun j => μ.1 19 s w j) hd hn (fun _ => rfl) hi (fun G => (congrArg (fun f => (Sum.inl (G.2.1 0, 6, Sum.inl f) : va_E)) (xUp_row μ.1 19 s w i.toNatClampNeg x))) (fun G n' _ h => xUpC_o G h) kk
theorem al_20 {M : xMt} {pc : Nat} {ls : List (Nat × xV)} {st : List xV} {μ : xM} {Q : xPo} {s w : Nat} {i : Int32} (hd : decode M.2.1 pc = .ok (.iaload, 1)) (hn : ((20, s, w) : xN) ∈ xNms) (hi : vp_in i 3) (kk : xOk M (pc + 1) ls (vI (μ.1 20 s w i.toNatClampNeg) :: st) μ Q) : xOk M pc ls (vI i :: vR 20 s w :: st) μ Q := ok_iald (f := fun j => μ.1 20 s w j) hd hn (fun _ => rfl) hi kk
theorem as_20 {M : xMt} {pc : Nat} {ls : List (Nat × xV)} {st : List xV} {μ : xM} {Q : xPo} {s w : Nat} {i x : Int32} (hd : decode M.2.1 pc = .ok (.iastore, 1)) (hn : ((20, s, w) : xN) ∈ xNms) (hi : vp_in i 3) (kk : xOk M (pc + 1) ls st (xUp μ.1 20 s w i.toNatClampNeg x, μ.2) Q) : xOk M pc ls (vI x :: vI i :: vR 20 s w :: st) μ Q := ok_iast (f := fun j => μ.1 20 s w j) hd hn (fun _ => rfl) hi (fun G => (congrArg (fun f => (Sum.inl (G.2.1 0, 3, Sum.inl f) : va_E)) (xUp_row μ.1 20 s w i.toNatClampNeg x))) (fun G n' _ h => xUpC_o G h) kk
theorem al_21 {M : xMt} {pc : Nat} {ls : List (Nat × xV)} {st : List xV} {μ : xM} {Q : xPo} {s w : Nat} {i : Int32} (hd : decode M.2.1 pc = .ok (.iaload, 1)) (hn : ((21, s, w) : xN) ∈ xNms) (hi : vp_in i 3) (kk : xOk M (pc + 1) ls (vI (μ.1 21 s w i.toNatClampNeg) :: st) μ Q) : xOk M pc ls (vI i :: vR 21 s w :: st) μ Q := ok_iald (f := fun j => μ.1 21 s w j) hd hn (fun _ => rfl) hi kk
theorem as_21 {M : xMt} {pc : Nat} {ls : List (Nat × xV)} {st : List xV} {μ : xM} {Q : xPo} {s w : Nat} {i x : Int32} (hd : decode M.2.1 pc = .ok (.iastore, 1)) (hn : ((21, s, w) : xN) ∈ xNms) (hi : vp_in i 3) (kk : xOk M (pc + 1) ls st (xUp μ.1 21 s w i.toNatClampNeg x, μ.2) Q) : xOk M pc ls (vI x :: vI i :: vR 21 s w :: st) μ Q := ok_iast (f := fun j => μ.1 21 s w j) hd hn (fun _ => rfl) hi (fun G => (congrArg (fun f => (Sum.inl (G.2.1 0, 3, Sum.inl f) : va_E)) (xUp_row μ.1 21 s w i.toNatClampNeg x))) (fun G n' _ h => xUpC_o G h) kk
theorem al_22 {M : xMt} {pc : Nat} {ls : List (Nat × xV)} {st : List xV} {μ : xM} {Q : xPo} {s w : Nat} {i : Int32} (hd : decode M.2.1 pc = .ok (.iaload, 1)) (hn : ((22, s, w) : xN) ∈ xNms) (hi : vp_in i 120) (kk : xOk M (pc + 1) ls (vI (μ.1 22 s w i.toNatClampNeg) :: st) μ Q) : xOk M pc ls (vI i :: vR 22 s w :: st) μ Q := ok_iald (f := fun j => μ.1 22 s w j) hd hn (fun _ => rfl) hi kk
theorem as_22 {M : xMt} {pc : Nat} {ls : List (Nat × xV)} {st : List xV} {μ : xM} {Q : xPo} {s w : Nat} {i x : Int32} (hd : decode M.2.1 pc = .ok (.iastore, 1)) (hn : ((22, s, w) : xN) ∈ xNms) (hi : vp_in i 120) (kk : xOk M (pc + 1) ls st (xUp μ.1 22 s w i.toNatClampNeg x, μ.2) Q) : xOk M pc ls (vI x :: vI i :: vR 22 s w :: st) μ Q := ok_iast (f := fun j => μ.1 22 s w j) hd hn (fun _ => rfl) hi (fun G => (congrArg (fun f => (Sum.inl (G.2.1 0, 120, Sum.inl f) : va_E)) (xUp_row μ.1 22 s w i.toNatClampNeg x))) (fun G n' _ h => xUpC_o G h) kk
theorem al_23 {M : xMt} {pc : Nat} {ls : List (Nat × xV)} {st : List xV} {μ : xM} {Q : xPo} {s w : Nat} {i : Int32} (hd : decode M.2.1 pc = .ok (.iaload, 1)) (hn : ((23, s, w) : xN) ∈ xNms) (hi : vp_in i 40) (kk : xOk M (pc + 1) ls (vI (μ.1 23 s w i.toNatClampNeg) :: st) μ Q) : xOk M pc ls (vI i :: vR 23 s w :: st) μ Q := ok_iald (f := fun j => μ.1 23 s w j) hd hn (fun _ => rfl) hi kk
theorem as_23 {M : xMt} {pc : Nat} {ls : List (Nat × xV)} {st : List xV} {μ : xM} {Q : xPo} {s w : Nat} {i x : Int32} (hd : decode M.2.1 pc = .ok (.iastore, 1)) (hn : ((23, s, w) : xN) ∈ xNms) (hi : vp_in i 40) (kk : xOk M (pc + 1) ls st (xUp μ.1 23 s w i.toNatClampNeg x, μ.2) Q) : xOk M pc ls (vI x :: vI i :: vR 23 s w :: st) μ Q := ok_iast (f := fun j => μ.1 23 s w j) hd hn (fun _ => rfl) hi (fun G => (congrArg (fun f => (Sum.inl (G.2.1 0, 40, Sum.inl f) : va_E)) (xUp_row μ.1 23 s w i.toNatClampNeg x))) (fun G n' _ h => xUpC_o G h) kk
theorem al_24 {M : xMt} {pc : Nat} {ls : List (Nat × xV)} {st : List xV} {μ : xM} {Q : xPo} {s w : Nat} {i : Int32} (hd : decode M.2.1 pc = .ok (.iaload, 1)) (hn : ((24, s, w) : xN) ∈ xNms) (hi : vp_in i 200) (kk : xOk M (pc + 1) ls (vI (μ.1 24 s w i.toNatClampNeg) :: st) μ Q) : xOk M pc ls (vI i :: vR 24 s w :: st) μ Q := ok_iald (f := fun j => μ.1 24 s w j) hd hn (fun _ => rfl) hi kk
theorem as_24 {M : xMt} {pc : Nat} {ls : List (Nat × xV)} {st : List xV} {μ : xM} {Q : xPo} {s w : Nat} {i x : Int32} (hd : decode M.2.1 pc = .ok (.iastore, 1)) (hn : ((24, s, w) : xN) ∈ xNms) (hi : vp_in i 200) (kk : xOk M (pc + 1) ls st (xUp μ.1 24 s w i.toNatClampNeg x, μ.2) Q) : xOk M pc ls (vI x :: vI i :: vR 24 s w :: st) μ Q := ok_iast (f := fun j => μ.1 24 s w j) hd hn (fun _ => rfl) hi (fun G => (congrArg (fun f => (Sum.inl (G.2.1 0, 200, Sum.inl f) : va_E)) (xUp_row μ.1 24 s w i.toNatClampNeg x))) (fun G n' _ h => xUpC_o G h) kk
theorem al_25 {M : xMt} {pc : Nat} {ls : List (Nat × xV)} {st : List xV} {μ : xM} {Q : xPo} {s w : Nat} {i : Int32} (hd : decode M.2.1 pc = .ok (.iaload, 1)) (hn : ((25, s, w) : xN) ∈ xNms) (hi : vp_in i 5) (kk : xOk M (pc + 1) ls (vI (μ.1 25 s w i.toNatClampNeg) :: st) μ Q) : xOk M pc ls (vI i :: vR 25 s w :: st) μ Q := ok_iald (f := fun j => μ.1 25 s w j) hd hn (fun _ => rfl) hi kk
theorem as_25 {M : xMt} {pc : Nat} {ls : List (Nat × xV)} {st : List xV} {μ : xM} {Q : xPo} {s w : Nat} {i x : Int32} (hd : decode M.2.1 pc = .ok (.iastore, 1)) (hn : ((25, s, w) : xN) ∈ xNms) (hi : vp_in i 5) (kk : xOk M (pc + 1) ls st (xUp μ.1 25 s w i.toNatClampNeg x, μ.2) Q) : xOk M pc ls (vI x :: vI i :: vR 25 s w :: st) μ Q := ok_iast (f := fun j => μ.1 25 s w j) hd hn (fun _ => rfl) hi (fun G => (congrArg (fun f => (Sum.inl (G.2.1 0, 5, Sum.inl f) : va_E)) (xUp_row μ.1 25 s w i.toNatClampNeg x))) (fun G n' _ h => xUpC_o G h) kk
theorem al_30 {M : xMt} {pc : Nat} {ls : List (Nat × xV)} {st : List xV} {μ : xM} {Q : xPo} {s w : Nat} {i : Int32} (hd : decode M.2.1 pc = .ok (.iaload, 1)) (hn : ((30, s, w) : xN) ∈ xNms) (hi : vp_in i 945) (kk : xOk M (pc + 1) ls (vI (μ.2.1 30 s w i.toNatClampNeg) :: st) μ Q) : xOk M pc ls (vI i :: vR 30 s w :: st) μ Q := ok_iald (f := fun j => μ.2.1 30 s w j) hd hn (fun _ => rfl) hi kk
theorem as_30 {M : xMt} {pc : Nat} {ls : List (Nat × xV)} {st : List xV} {μ : xM} {Q : xPo} {s w : Nat} {i x : Int32} (hd : decode M.2.1 pc = .ok (.iastore, 1)) (hn : ((30, s, w) : xN) ∈ xNms) (hi : vp_in i 945) (kk : xOk M (pc + 1) ls st (μ.1, (xUp μ.2.1 30 s w i.toNatClampNeg x, μ.2.2)) Q) : xOk M pc ls (vI x :: vI i :: vR 30 s w :: st) μ Q := ok_iast (f := fun j => μ.2.1 30 s w j) hd hn (fun _ => rfl) hi (fun G => (congrArg (fun f => (Sum.inl (G.2.1 0, 945, Sum.inl f) : va_E)) (xUp_row μ.2.1 30 s w i.toNatClampNeg x))) (fun G n' _ h => xUpR_o G h) kk
theorem al_31 {M : xMt} {pc : Nat} {ls : List (Nat × xV)} {st : List xV} {μ : xM} {Q : xPo} {s w : Nat} {i : Int32} (hd : decode M.2.1 pc = .ok (.iaload, 1)) (hn : ((31, s, w) : xN) ∈ xNms) (hi : vp_in i 6615) (kk : xOk M (pc + 1) ls (vI (μ.2.1 31 s w i.toNatClampNeg) :: st) μ Q) : xOk M pc ls (vI i :: vR 31 s w :: st) μ Q := ok_iald (f := fun j => μ.2.1 31 s w j) hd hn (fun _ => rfl) hi kk
theorem as_31 {M : xMt} {pc : Nat} {ls : List (Nat × xV)} {st : List xV} {μ : xM} {Q : xPo} {s w : Nat} {i x : Int32} (hd : decode M.2.1 pc = .ok (.iastore, 1)) (hn : ((31, s, w) : xN) ∈ xNms) (hi : vp_in i 6615) (kk : xOk M (pc + 1) ls st (μ.1, (xUp μ.2.1 31 s w i.toNatClampNeg x, μ.2.2)) Q) : xOk M pc ls (vI x :: vI i :: vR 31 s w :: st) μ Q := ok_iast (f := fun j => μ.2.1 31 s w j) hd hn (fun _ => rfl) hi (fun G => (congrArg (fun f => (Sum.inl (G.2.1 0, 6615, Sum.inl f) : va_E)) (xUp_row μ.2.1 31 s w i.toNatClampNeg x))) (fun G n' _ h => xUpR_o G h) kk
theorem al_32 {M : xMt} {pc : Nat} {ls : List (Nat × xV)} {st : List xV} {μ : xM} {Q : xPo} {s w : Nat} {i : Int32} (hd : decode M.2.1 pc = .ok (.iaload, 1)) (hn : ((32, s, w) : xN) ∈ xNms) (hi : vp_in i 5) (kk : xOk M (pc + 1) ls (vI (μ.2.1 32 s w i.toNatClampNeg) :: st) μ Q) : xOk M pc ls (vI i :: vR 32 s w :: st) μ Q := ok_iald (f := fun j => μ.2.1 32 s w j) hd hn (fun _ => rfl) hi kk
theorem as_32 {M : xMt} {pc : Nat} {ls : List (Nat × xV)} {st : List xV} {μ : xM} {Q : xPo} {s w : Nat} {i x : Int32} (hd : decode M.2.1 pc = .ok (.iastore, 1)) (hn : ((32, s, w) : xN) ∈ xNms) (hi : vp_in i 5) (kk : xOk M (pc + 1) ls st (μ.1, (xUp μ.2.1 32 s w i.toNatClampNeg x, μ.2.2)) Q) : xOk M pc ls (vI x :: vI i :: vR 32 s w :: st) μ Q := ok_iast (f := fun j => μ.2.1 32 s w j) hd hn (fun _ => rfl) hi (fun G => (congrArg (fun f => (Sum.inl (G.2.1 0, 5, Sum.inl f) : va_E)) (xUp_row μ.2.1 32 s w i.toNatClampNeg x))) (fun G n' _ h => xUpR_o G h) kk
theorem al_33 {M : xMt} {pc : Nat} {ls : List (Nat × xV)} {st : List xV} {μ : xM} {Q : xPo} {s w : Nat} {i : Int32} (hd : decode M.2.1 pc = .ok (.iaload, 1)) (hn : ((33, s, w) : xN) ∈ xNms) (hi : vp_in i 120) (kk : xOk M (pc + 1) ls (vI (μ.2.1 33 s w i.toNatClampNeg) :: st) μ Q) : xOk M pc ls (vI i :: vR 33 s w :: st) μ Q := ok_iald (f := fun j => μ.2.1 33 s w j) hd hn (fun _ => rfl) hi kk
theorem as_33 {M : xMt} {pc : Nat} {ls : List (Nat × xV)} {st : List xV} {μ : xM} {Q : xPo} {s w : Nat} {i x : Int32} (hd : decode M.2.1 pc = .ok (.iastore, 1)) (hn : ((33, s, w) : xN) ∈ xNms) (hi : vp_in i 120) (kk : xOk M (pc + 1) ls st (μ.1, (xUp μ.2.1 33 s w i.toNatClampNeg x, μ.2.2)) Q) : xOk M pc ls (vI x :: vI i :: vR 33 s w :: st) μ Q := ok_iast (f := fun j => μ.2.1 33 s w j) hd hn (fun _ => rfl) hi (fun G => (congrArg (fun f => (Sum.inl (G.2.1 0, 120, Sum.inl f) : va_E)) (xUp_row μ.2.1 33 s w i.toNatClampNeg x))) (fun G n' _ h => xUpR_o G h) kk
theorem al_34 {M : xMt} {pc : Nat} {ls : List (Nat × xV)} {st : List xV} {μ : xM} {Q : xPo} {s w : Nat} {i : Int32} (hd : decode M.2.1 pc = .ok (.iaload, 1)) (hn : ((34, s, w) : xN) ∈ xNms) (hi : vp_in i 40) (kk : xOk M (pc + 1) ls (vI (μ.2.1 34 s w i.toNatClampNeg) :: st) μ Q) : xOk M pc ls (vI i :: vR 34 s w :: st) μ Q := ok_iald (f := fun j => μ.2.1 34 s w j) hd hn (fun _ => rfl) hi kk
theorem as_34 {M : xMt} {pc : Nat} {ls : List (Nat × xV)} {st : List xV} {μ : xM} {Q : xPo} {s w : Nat} {i x : Int32} (hd : decode M.2.1 pc = .ok (.iastore, 1)) (hn : ((34, s, w) : xN) ∈ xNms) (hi : vp_in i 40) (kk : xOk M (pc + 1) ls st (μ.1, (xUp μ.2.1 34 s w i.toNatClampNeg x, μ.2.2)) Q) : xOk M pc ls (vI x :: vI i :: vR 34 s w :: st) μ Q := ok_iast (f := fun j => μ.2.1 34 s w j) hd hn (fun _ => rfl) hi (fun G => (congrArg (fun f => (Sum.inl (G.2.1 0, 40, Sum.inl f) : va_E)) (xUp_row μ.2.1 34 s w i.toNatClampNeg x))) (fun G n' _ h => xUpR_o G h) kk
theorem al_35 {M : xMt} {pc : Nat} {ls : List (Nat × xV)} {st : List xV} {μ : xM} {Q : xPo} {s w : Nat} {i : Int32} (hd : decode M.2.1 pc = .ok (.iaload, 1)) (hn : ((35, s, w) : xN) ∈ xNms) (hi : vp_in i 200) (kk : xOk M (pc + 1) ls (vI (μ.2.1 35 s w i.toNatClampNeg) :: st) μ Q) : xOk M pc ls (vI i :: vR 35 s w :: st) μ Q := ok_iald (f := fun j => μ.2.1 35 s w j) hd hn (fun _ => rfl) hi kk
theorem as_35 {M : xMt} {pc : Nat} {ls : List (Nat × xV)} {st : List xV} {μ : xM} {Q : xPo} {s w : Nat} {i x : Int32} (hd : decode M.2.1 pc = .ok (.iastore, 1)) (hn : ((35, s, w) : xN) ∈ xNms) (hi : vp_in i 200) (kk : xOk M (pc + 1) ls st (μ.1, (xUp μ.2.1 35 s w i.toNatClampNeg x, μ.2.2)) Q) : xOk M pc ls (vI x :: vI i :: vR 35 s w :: st) μ Q := ok_iast (f := fun j => μ.2.1 35 s w j) hd hn (fun _ => rfl) hi (fun G => (congrArg (fun f => (Sum.inl (G.2.1 0, 200, Sum.inl f) : va_E)) (xUp_row μ.2.1 35 s w i.toNatClampNeg x))) (fun G n' _ h => xUpR_o G h) kk
theorem aa_40 {M : xMt} {pc : Nat} {ls : List (Nat × xV)} {st : List xV} {μ : xM} {Q : xPo} {s w : Nat} {i : Int32} (hd : decode M.2.1 pc = .ok (.aaload, 1)) (hn : ((40, s, w) : xN) ∈ xNms) (hi : vp_in i 3) (kk : xOk M (pc + 1) ls (vR 1 0 i.toNatClampNeg :: st) μ Q) : xOk M pc ls (vI i :: vR 40 s w :: st) μ Q := ok_aald (g := (fun j => (1, 0, j))) (t := 1) (C' := "OnceLetters$Log") hd hn (fun _ => rfl) (fun _ => rfl) hi kk
theorem aa_41 {M : xMt} {pc : Nat} {ls : List (Nat × xV)} {st : List xV} {μ : xM} {Q : xPo} {s w : Nat} {i : Int32} (hd : decode M.2.1 pc = .ok (.aaload, 1)) (hn : ((41, s, w) : xN) ∈ xNms) (hi : vp_in i 6) (kk : xOk M (pc + 1) ls (vR 4 (i.toNatClampNeg + 1) 0 :: st) μ Q) : xOk M pc ls (vI i :: vR 41 s w :: st) μ Q := ok_aald (g := (fun j => (4, j + 1, 0))) (t := 2) (C' := "OnceLetters$State") hd hn (fun _ => rfl) (fun _ => rfl) hi kk
theorem aa_42 {M : xMt} {pc : Nat} {ls : List (Nat × xV)} {st : List xV} {μ : xM} {Q : xPo} {s w : Nat} {i : Int32} (hd : decode M.2.1 pc = .ok (.aaload, 1)) (hn : ((42, s, w) : xN) ∈ xNms) (hi : vp_in i 4) (kk : xOk M (pc + 1) ls (vR 2 s i.toNatClampNeg :: st) μ Q) : xOk M pc ls (vI i :: vR 42 s w :: st) μ Q := ok_aald (g := (fun j => (2, s, j))) (t := 3) (C' := "OnceLetters$Producer") hd hn (fun _ => rfl) (fun _ => rfl) hi kk
theorem aa_43 {M : xMt} {pc : Nat} {ls : List (Nat × xV)} {st : List xV} {μ : xM} {Q : xPo} {s w : Nat} {i : Int32} (hd : decode M.2.1 pc = .ok (.aaload, 1)) (hn : ((43, s, w) : xN) ∈ xNms) (hi : vp_in i 2) (kk : xOk M (pc + 1) ls (vR 0 s i.toNatClampNeg :: st) μ Q) : xOk M pc ls (vI i :: vR 43 s w :: st) μ Q := ok_aald (g := (fun j => (0, s, j))) (t := 4) (C' := "OnceLetters$Consumer") hd hn (fun _ => rfl) (fun _ => rfl) hi kk
theorem vp_lt {i : Int32} {n : Nat} (h : vp_in i n) : i.toNatClampNeg < n := Nat.not_le.mp fun q => h (Or.inr q)
theorem ob_0 (μ : xM) (s w : Nat) : ∀ G : xG, ∃ fs, xCell G μ (0, s, w) = .inr (0, fs) := fun _ => ⟨_, rfl⟩
theorem ob_1 (μ : xM) (s w : Nat) : ∀ G : xG, ∃ fs, xCell G μ (1, s, w) = .inr (1, fs) := fun _ => ⟨_, rfl⟩
theorem ob_2 (μ : xM) (s w : Nat) : ∀ G : xG, ∃ fs, xCell G μ (2, s, w) = .inr (2, fs) := fun _ => ⟨_, rfl⟩
theorem ob_3 (μ : xM) (s w : Nat) : ∀ G : xG, ∃ fs, xCell G μ (3, s, w) = .inr (3, fs) := fun _ => ⟨_, rfl⟩
theorem ob_4 (μ : xM) (s w : Nat) : ∀ G : xG, ∃ fs, xCell G μ (4, s, w) = .inr (4, fs) := fun _ => ⟨_, rfl⟩
theorem ob_5 (μ : xM) (s w : Nat) : ∀ G : xG, ∃ fs, xCell G μ (5, s, w) = .inr (5, fs) := fun _ => ⟨_, rfl⟩
theorem ob_6 (μ : xM) (s w : Nat) : ∀ G : xG, ∃ fs, xCell G μ (6, s, w) = .inr (6, fs) := fun _ => ⟨_, rfl⟩
end
